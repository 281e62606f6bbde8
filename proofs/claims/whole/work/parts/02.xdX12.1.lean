theorem dX12_thrown_0 : decode cX12_thrown 0 = .ok (.aload_n 0, 1) := by decide +kernel
theorem dX12_thrown_1 : decode cX12_thrown 1 = .ok (.getfield 190, 3) := by decide +kernel
theorem dX12_thrown_4 : decode cX12_thrown 4 = .ok (.ireturn, 1) := by decide +kernel
theorem dX12_refused_0 : decode cX12_refused 0 = .ok (.aload_n 0, 1) := by decide +kernel
theorem dX12_refused_1 : decode cX12_refused 1 = .ok (.iload_n 1, 1) := by decide +kernel
theorem dX12_refused_2 : decode cX12_refused 2 = .ok (.putfield 193, 3) := by decide +kernel
theorem dX12_refused_5 : decode cX12_refused 5 = .ok (.aload_n 0, 1) := by decide +kernel
theorem dX12_refused_6 : decode cX12_refused 6 = .ok (.iconst (-1), 1) := by decide +kernel
theorem dX12_refused_7 : decode cX12_refused 7 = .ok (.putfield 9, 3) := by decide +kernel
theorem dX12_refused_10 : decode cX12_refused 10 = .ok (.iconst (-1), 1) := by decide +kernel
theorem dX12_refused_11 : decode cX12_refused 11 = .ok (.ireturn, 1) := by decide +kernel
theorem dX12_good_0 : decode cX12_good 0 = .ok (.aload_n 0, 1) := by decide +kernel
theorem dX12_good_1 : decode cX12_good 1 = .ok (.iconst 0, 1) := by decide +kernel
theorem dX12_good_2 : decode cX12_good 2 = .ok (.putfield 193, 3) := by decide +kernel
theorem dX12_good_5 : decode cX12_good 5 = .ok (.aload_n 0, 1) := by decide +kernel
theorem dX12_good_6 : decode cX12_good 6 = .ok (.iconst (-1), 1) := by decide +kernel
theorem dX12_good_7 : decode cX12_good 7 = .ok (.putfield 9, 3) := by decide +kernel
theorem dX12_good_10 : decode cX12_good 10 = .ok (.iload_n 1, 1) := by decide +kernel
theorem dX12_good_11 : decode cX12_good 11 = .ok (.ireturn, 1) := by decide +kernel
theorem dX12_goodLong_0 : decode cX12_goodLong 0 = .ok (.aload_n 0, 1) := by decide +kernel
theorem dX12_goodLong_1 : decode cX12_goodLong 1 = .ok (.iconst 0, 1) := by decide +kernel
theorem dX12_goodLong_2 : decode cX12_goodLong 2 = .ok (.invokevirtual 196, 3) := by decide +kernel
theorem dX12_goodLong_5 : decode cX12_goodLong 5 = .ok (.pop, 1) := by decide +kernel
theorem dX12_goodLong_6 : decode cX12_goodLong 6 = .ok (.lload_n 1, 1) := by decide +kernel
theorem dX12_goodLong_7 : decode cX12_goodLong 7 = .ok (.lreturn, 1) := by decide +kernel
theorem dX12_in_0 : decode cX12_in 0 = .ok (.iload_n 0, 1) := by decide +kernel
theorem dX12_in_1 : decode cX12_in 1 = .ok (.iload_n 1, 1) := by decide +kernel
theorem dX12_in_2 : decode cX12_in 2 = .ok (.if_icmp .lt 12, 3) := by decide +kernel
theorem dX12_in_5 : decode cX12_in 5 = .ok (.iload_n 0, 1) := by decide +kernel
theorem dX12_in_6 : decode cX12_in 6 = .ok (.iload_n 2, 1) := by decide +kernel
theorem dX12_in_7 : decode cX12_in 7 = .ok (.if_icmp .gt 7, 3) := by decide +kernel
theorem dX12_in_10 : decode cX12_in 10 = .ok (.iconst 1, 1) := by decide +kernel
theorem dX12_in_11 : decode cX12_in 11 = .ok (.goto 4, 3) := by decide +kernel
theorem dX12_in_14 : decode cX12_in 14 = .ok (.iconst 0, 1) := by decide +kernel
theorem dX12_in_15 : decode cX12_in 15 = .ok (.ireturn, 1) := by decide +kernel
theorem dX12_isLetter_0 : decode cX12_isLetter 0 = .ok (.iload_n 0, 1) := by decide +kernel
theorem dX12_isLetter_1 : decode cX12_isLetter 1 = .ok (.iconst 0, 1) := by decide +kernel
theorem dX12_isLetter_2 : decode cX12_isLetter 2 = .ok (.ldc 200, 2) := by decide +kernel
theorem dX12_isLetter_4 : decode cX12_isLetter 4 = .ok (.invokestatic 201, 3) := by decide +kernel
theorem dX12_isLetter_7 : decode cX12_isLetter 7 = .ok (.ireturn, 1) := by decide +kernel
theorem dX12_bit_0 : decode cX12_bit 0 = .ok (.lload_n 0, 1) := by decide +kernel
theorem dX12_bit_1 : decode cX12_bit 1 = .ok (.iload_n 2, 1) := by decide +kernel
theorem dX12_bit_2 : decode cX12_bit 2 = .ok (.lshr, 1) := by decide +kernel
theorem dX12_bit_3 : decode cX12_bit 3 = .ok (.lconst 1, 1) := by decide +kernel
theorem dX12_bit_4 : decode cX12_bit 4 = .ok (.land, 1) := by decide +kernel
theorem dX12_bit_5 : decode cX12_bit 5 = .ok (.lconst 1, 1) := by decide +kernel
theorem dX12_bit_6 : decode cX12_bit 6 = .ok (.lcmp, 1) := by decide +kernel
theorem dX12_bit_7 : decode cX12_bit 7 = .ok (.ifCond .ne 7, 3) := by decide +kernel
theorem dX12_bit_10 : decode cX12_bit 10 = .ok (.iconst 1, 1) := by decide +kernel
theorem dX12_bit_11 : decode cX12_bit 11 = .ok (.goto 4, 3) := by decide +kernel
theorem dX12_bit_14 : decode cX12_bit 14 = .ok (.iconst 0, 1) := by decide +kernel
theorem dX12_bit_15 : decode cX12_bit 15 = .ok (.ireturn, 1) := by decide +kernel
theorem dX12_holds_0 : decode cX12_holds 0 = .ok (.iload_n 0, 1) := by decide +kernel
theorem dX12_holds_1 : decode cX12_holds 1 = .ok (.iload_n 1, 1) := by decide +kernel
theorem dX12_holds_2 : decode cX12_holds 2 = .ok (.ifCond .eq 7, 3) := by decide +kernel
theorem dX12_holds_5 : decode cX12_holds 5 = .ok (.iconst 1, 1) := by decide +kernel
theorem dX12_holds_6 : decode cX12_holds 6 = .ok (.goto 4, 3) := by decide +kernel
theorem dX12_holds_9 : decode cX12_holds 9 = .ok (.iconst 0, 1) := by decide +kernel
theorem dX12_holds_10 : decode cX12_holds 10 = .ok (.iload_n 2, 1) := by decide +kernel
theorem dX12_holds_11 : decode cX12_holds 11 = .ok (.ifCond .eq 7, 3) := by decide +kernel
theorem dX12_holds_14 : decode cX12_holds 14 = .ok (.iconst 2, 1) := by decide +kernel
theorem dX12_holds_15 : decode cX12_holds 15 = .ok (.goto 4, 3) := by decide +kernel
theorem dX12_holds_18 : decode cX12_holds 18 = .ok (.iconst 0, 1) := by decide +kernel
theorem dX12_holds_19 : decode cX12_holds 19 = .ok (.iadd, 1) := by decide +kernel
theorem dX12_holds_20 : decode cX12_holds 20 = .ok (.ishr, 1) := by decide +kernel
theorem dX12_holds_21 : decode cX12_holds 21 = .ok (.iconst 1, 1) := by decide +kernel
theorem dX12_holds_22 : decode cX12_holds 22 = .ok (.iand, 1) := by decide +kernel
theorem dX12_holds_23 : decode cX12_holds 23 = .ok (.iconst 1, 1) := by decide +kernel
theorem dX12_holds_24 : decode cX12_holds 24 = .ok (.if_icmp .ne 7, 3) := by decide +kernel
theorem dX12_holds_27 : decode cX12_holds 27 = .ok (.iconst 1, 1) := by decide +kernel
theorem dX12_holds_28 : decode cX12_holds 28 = .ok (.goto 4, 3) := by decide +kernel
theorem dX12_holds_31 : decode cX12_holds 31 = .ok (.iconst 0, 1) := by decide +kernel
theorem dX12_holds_32 : decode cX12_holds 32 = .ok (.ireturn, 1) := by decide +kernel
theorem dX12_byteAt_0 : decode cX12_byteAt 0 = .ok (.iload_n 1, 1) := by decide +kernel
theorem dX12_byteAt_1 : decode cX12_byteAt 1 = .ok (.aload_n 0, 1) := by decide +kernel
theorem dX12_byteAt_2 : decode cX12_byteAt 2 = .ok (.getfield 205, 3) := by decide +kernel
theorem dX12_byteAt_5 : decode cX12_byteAt 5 = .ok (.if_icmp .ge 16, 3) := by decide +kernel
theorem dX12_byteAt_8 : decode cX12_byteAt 8 = .ok (.aload_n 0, 1) := by decide +kernel
theorem dX12_byteAt_9 : decode cX12_byteAt 9 = .ok (.getfield 13, 3) := by decide +kernel
theorem dX12_byteAt_12 : decode cX12_byteAt 12 = .ok (.iload_n 1, 1) := by decide +kernel
theorem dX12_byteAt_13 : decode cX12_byteAt 13 = .ok (.baload, 1) := by decide +kernel
theorem dX12_byteAt_14 : decode cX12_byteAt 14 = .ok (.sipush 255, 3) := by decide +kernel
theorem dX12_byteAt_17 : decode cX12_byteAt 17 = .ok (.iand, 1) := by decide +kernel
theorem dX12_byteAt_18 : decode cX12_byteAt 18 = .ok (.goto 4, 3) := by decide +kernel
theorem dX12_byteAt_21 : decode cX12_byteAt 21 = .ok (.iconst (-1), 1) := by decide +kernel
theorem dX12_byteAt_22 : decode cX12_byteAt 22 = .ok (.ireturn, 1) := by decide +kernel
theorem dX12_isSmall_0 : decode cX12_isSmall 0 = .ok (.iload_n 0, 1) := by decide +kernel
theorem dX12_isSmall_1 : decode cX12_isSmall 1 = .ok (.bipush 97, 2) := by decide +kernel
theorem dX12_isSmall_3 : decode cX12_isSmall 3 = .ok (.if_icmp .lt 13, 3) := by decide +kernel
theorem dX12_isSmall_6 : decode cX12_isSmall 6 = .ok (.iload_n 0, 1) := by decide +kernel
theorem dX12_isSmall_7 : decode cX12_isSmall 7 = .ok (.bipush 122, 2) := by decide +kernel
theorem dX12_isSmall_9 : decode cX12_isSmall 9 = .ok (.if_icmp .gt 7, 3) := by decide +kernel
theorem dX12_isSmall_12 : decode cX12_isSmall 12 = .ok (.iconst 1, 1) := by decide +kernel
theorem dX12_isSmall_13 : decode cX12_isSmall 13 = .ok (.goto 4, 3) := by decide +kernel
theorem dX12_isSmall_16 : decode cX12_isSmall 16 = .ok (.iconst 0, 1) := by decide +kernel
theorem dX12_isSmall_17 : decode cX12_isSmall 17 = .ok (.ireturn, 1) := by decide +kernel
theorem dX12_isDigit_0 : decode cX12_isDigit 0 = .ok (.iload_n 0, 1) := by decide +kernel
theorem dX12_isDigit_1 : decode cX12_isDigit 1 = .ok (.bipush 48, 2) := by decide +kernel
theorem dX12_isDigit_3 : decode cX12_isDigit 3 = .ok (.if_icmp .lt 13, 3) := by decide +kernel
theorem dX12_isDigit_6 : decode cX12_isDigit 6 = .ok (.iload_n 0, 1) := by decide +kernel
theorem dX12_isDigit_7 : decode cX12_isDigit 7 = .ok (.bipush 57, 2) := by decide +kernel
theorem dX12_isDigit_9 : decode cX12_isDigit 9 = .ok (.if_icmp .gt 7, 3) := by decide +kernel
theorem dX12_isDigit_12 : decode cX12_isDigit 12 = .ok (.iconst 1, 1) := by decide +kernel
theorem dX12_isDigit_13 : decode cX12_isDigit 13 = .ok (.goto 4, 3) := by decide +kernel
theorem dX12_isDigit_16 : decode cX12_isDigit 16 = .ok (.iconst 0, 1) := by decide +kernel
theorem dX12_isDigit_17 : decode cX12_isDigit 17 = .ok (.ireturn, 1) := by decide +kernel
theorem dX12_next_0 : decode cX12_next 0 = .ok (.aload_n 0, 1) := by decide +kernel
theorem dX12_next_1 : decode cX12_next 1 = .ok (.getfield 208, 3) := by decide +kernel
theorem dX12_next_4 : decode cX12_next 4 = .ok (.ifCond .le 4, 3) := by decide +kernel
theorem dX12_next_7 : decode cX12_next 7 = .ok (.return_, 1) := by decide +kernel
theorem dX12_next_8 : decode cX12_next 8 = .ok (.aload_n 0, 1) := by decide +kernel
theorem dX12_next_9 : decode cX12_next 9 = .ok (.aload_n 0, 1) := by decide +kernel
theorem dX12_next_10 : decode cX12_next 10 = .ok (.getfield 211, 3) := by decide +kernel
theorem dX12_next_13 : decode cX12_next 13 = .ok (.invokevirtual 214, 3) := by decide +kernel
theorem dX12_next_16 : decode cX12_next 16 = .ok (.bipush 32, 2) := by decide +kernel
theorem dX12_next_18 : decode cX12_next 18 = .ok (.if_icmp .ne 16, 3) := by decide +kernel
theorem dX12_next_21 : decode cX12_next 21 = .ok (.aload_n 0, 1) := by decide +kernel
theorem dX12_next_22 : decode cX12_next 22 = .ok (.dup, 1) := by decide +kernel
theorem dX12_next_23 : decode cX12_next 23 = .ok (.getfield 211, 3) := by decide +kernel
theorem dX12_next_26 : decode cX12_next 26 = .ok (.iconst 1, 1) := by decide +kernel
theorem dX12_next_27 : decode cX12_next 27 = .ok (.iadd, 1) := by decide +kernel
theorem dX12_next_28 : decode cX12_next 28 = .ok (.putfield 211, 3) := by decide +kernel
theorem dX12_next_31 : decode cX12_next 31 = .ok (.goto (-23), 3) := by decide +kernel
theorem dX12_next_34 : decode cX12_next 34 = .ok (.aload_n 0, 1) := by decide +kernel
theorem dX12_next_35 : decode cX12_next 35 = .ok (.aload_n 0, 1) := by decide +kernel
theorem dX12_next_36 : decode cX12_next 36 = .ok (.getfield 211, 3) := by decide +kernel
theorem dX12_next_39 : decode cX12_next 39 = .ok (.putfield 217, 3) := by decide +kernel
theorem dX12_next_42 : decode cX12_next 42 = .ok (.aload_n 0, 1) := by decide +kernel
theorem dX12_next_43 : decode cX12_next 43 = .ok (.iconst 0, 1) := by decide +kernel
theorem dX12_next_44 : decode cX12_next 44 = .ok (.putfield 220, 3) := by decide +kernel
theorem dX12_next_47 : decode cX12_next 47 = .ok (.aload_n 0, 1) := by decide +kernel
theorem dX12_next_48 : decode cX12_next 48 = .ok (.aload_n 0, 1) := by decide +kernel
theorem dX12_next_49 : decode cX12_next 49 = .ok (.getfield 211, 3) := by decide +kernel
theorem dX12_next_52 : decode cX12_next 52 = .ok (.invokevirtual 214, 3) := by decide +kernel
theorem dX12_next_55 : decode cX12_next 55 = .ok (.istore_n 1, 1) := by decide +kernel
theorem dX12_next_56 : decode cX12_next 56 = .ok (.iload_n 1, 1) := by decide +kernel
theorem dX12_next_57 : decode cX12_next 57 = .ok (.iconst (-1), 1) := by decide +kernel
theorem dX12_next_58 : decode cX12_next 58 = .ok (.if_icmp .ne 11, 3) := by decide +kernel
theorem dX12_next_61 : decode cX12_next 61 = .ok (.aload_n 0, 1) := by decide +kernel
theorem dX12_next_62 : decode cX12_next 62 = .ok (.iconst 1, 1) := by decide +kernel
theorem dX12_next_63 : decode cX12_next 63 = .ok (.putfield 220, 3) := by decide +kernel
theorem dX12_next_66 : decode cX12_next 66 = .ok (.goto 56, 3) := by decide +kernel
theorem dX12_next_69 : decode cX12_next 69 = .ok (.iload_n 1, 1) := by decide +kernel
theorem dX12_next_70 : decode cX12_next 70 = .ok (.invokestatic 223, 3) := by decide +kernel
theorem dX12_next_73 : decode cX12_next 73 = .ok (.ifCond .eq 10, 3) := by decide +kernel
theorem dX12_next_76 : decode cX12_next 76 = .ok (.aload_n 0, 1) := by decide +kernel
theorem dX12_next_77 : decode cX12_next 77 = .ok (.invokevirtual 227, 3) := by decide +kernel
theorem dX12_next_80 : decode cX12_next 80 = .ok (.goto 42, 3) := by decide +kernel
theorem dX12_next_83 : decode cX12_next 83 = .ok (.iload_n 1, 1) := by decide +kernel
theorem dX12_next_84 : decode cX12_next 84 = .ok (.invokestatic 230, 3) := by decide +kernel
theorem dX12_next_87 : decode cX12_next 87 = .ok (.ifCond .eq 10, 3) := by decide +kernel
theorem dX12_next_90 : decode cX12_next 90 = .ok (.aload_n 0, 1) := by decide +kernel
theorem dX12_next_91 : decode cX12_next 91 = .ok (.invokevirtual 233, 3) := by decide +kernel
theorem dX12_next_94 : decode cX12_next 94 = .ok (.goto 28, 3) := by decide +kernel
theorem dX12_next_97 : decode cX12_next 97 = .ok (.iload_n 1, 1) := by decide +kernel
theorem dX12_next_98 : decode cX12_next 98 = .ok (.bipush 46, 2) := by decide +kernel
theorem dX12_next_100 : decode cX12_next 100 = .ok (.if_icmp .ne 10, 3) := by decide +kernel
theorem dX12_next_103 : decode cX12_next 103 = .ok (.aload_n 0, 1) := by decide +kernel
theorem dX12_next_104 : decode cX12_next 104 = .ok (.invokevirtual 236, 3) := by decide +kernel
theorem dX12_next_107 : decode cX12_next 107 = .ok (.goto 15, 3) := by decide +kernel
theorem dX12_next_110 : decode cX12_next 110 = .ok (.iload_n 1, 1) := by decide +kernel
theorem dX12_next_111 : decode cX12_next 111 = .ok (.invokestatic 239, 3) := by decide +kernel
theorem dX12_next_114 : decode cX12_next 114 = .ok (.ifCond .eq 8, 3) := by decide +kernel
theorem dX12_next_117 : decode cX12_next 117 = .ok (.aload_n 0, 1) := by decide +kernel
theorem dX12_next_118 : decode cX12_next 118 = .ok (.iload_n 1, 1) := by decide +kernel
theorem dX12_next_119 : decode cX12_next 119 = .ok (.invokevirtual 242, 3) := by decide +kernel
theorem dX12_next_122 : decode cX12_next 122 = .ok (.return_, 1) := by decide +kernel
theorem dX12_nextName_0 : decode cX12_nextName 0 = .ok (.aload_n 0, 1) := by decide +kernel
theorem dX12_nextName_1 : decode cX12_nextName 1 = .ok (.lconst 0, 1) := by decide +kernel
theorem dX12_nextName_2 : decode cX12_nextName 2 = .ok (.putfield 246, 3) := by decide +kernel
theorem dX12_nextName_5 : decode cX12_nextName 5 = .ok (.iconst 0, 1) := by decide +kernel
theorem dX12_nextName_6 : decode cX12_nextName 6 = .ok (.istore_n 1, 1) := by decide +kernel
theorem dX12_nextName_7 : decode cX12_nextName 7 = .ok (.aload_n 0, 1) := by decide +kernel
theorem dX12_nextName_8 : decode cX12_nextName 8 = .ok (.aload_n 0, 1) := by decide +kernel
theorem dX12_nextName_9 : decode cX12_nextName 9 = .ok (.getfield 211, 3) := by decide +kernel
theorem dX12_nextName_12 : decode cX12_nextName 12 = .ok (.invokevirtual 214, 3) := by decide +kernel
theorem dX12_nextName_15 : decode cX12_nextName 15 = .ok (.invokestatic 223, 3) := by decide +kernel
theorem dX12_nextName_18 : decode cX12_nextName 18 = .ok (.ifCond .eq 50, 3) := by decide +kernel
theorem dX12_nextName_21 : decode cX12_nextName 21 = .ok (.iload_n 1, 1) := by decide +kernel
theorem dX12_nextName_22 : decode cX12_nextName 22 = .ok (.bipush 7, 2) := by decide +kernel
theorem dX12_nextName_24 : decode cX12_nextName 24 = .ok (.if_icmp .ge 28, 3) := by decide +kernel
theorem dX12_nextName_27 : decode cX12_nextName 27 = .ok (.aload_n 0, 1) := by decide +kernel
theorem dX12_nextName_28 : decode cX12_nextName 28 = .ok (.ldc2_w 250, 3) := by decide +kernel
theorem dX12_nextName_31 : decode cX12_nextName 31 = .ok (.aload_n 0, 1) := by decide +kernel
theorem dX12_nextName_32 : decode cX12_nextName 32 = .ok (.getfield 246, 3) := by decide +kernel
theorem dX12_nextName_35 : decode cX12_nextName 35 = .ok (.lmul, 1) := by decide +kernel
theorem dX12_nextName_36 : decode cX12_nextName 36 = .ok (.aload_n 0, 1) := by decide +kernel
theorem dX12_nextName_37 : decode cX12_nextName 37 = .ok (.aload_n 0, 1) := by decide +kernel
theorem dX12_nextName_38 : decode cX12_nextName 38 = .ok (.getfield 211, 3) := by decide +kernel
theorem dX12_nextName_41 : decode cX12_nextName 41 = .ok (.invokevirtual 214, 3) := by decide +kernel
theorem dX12_nextName_44 : decode cX12_nextName 44 = .ok (.bipush 96, 2) := by decide +kernel
theorem dX12_nextName_46 : decode cX12_nextName 46 = .ok (.isub, 1) := by decide +kernel
theorem dX12_nextName_47 : decode cX12_nextName 47 = .ok (.i2l, 1) := by decide +kernel
theorem dX12_nextName_48 : decode cX12_nextName 48 = .ok (.ladd, 1) := by decide +kernel
theorem dX12_nextName_49 : decode cX12_nextName 49 = .ok (.putfield 246, 3) := by decide +kernel
theorem dX12_nextName_52 : decode cX12_nextName 52 = .ok (.iinc 1 1, 3) := by decide +kernel
theorem dX12_nextName_55 : decode cX12_nextName 55 = .ok (.aload_n 0, 1) := by decide +kernel
theorem dX12_nextName_56 : decode cX12_nextName 56 = .ok (.dup, 1) := by decide +kernel
theorem dX12_nextName_57 : decode cX12_nextName 57 = .ok (.getfield 211, 3) := by decide +kernel
theorem dX12_nextName_60 : decode cX12_nextName 60 = .ok (.iconst 1, 1) := by decide +kernel
theorem dX12_nextName_61 : decode cX12_nextName 61 = .ok (.iadd, 1) := by decide +kernel
theorem dX12_nextName_62 : decode cX12_nextName 62 = .ok (.putfield 211, 3) := by decide +kernel
theorem dX12_nextName_65 : decode cX12_nextName 65 = .ok (.goto (-58), 3) := by decide +kernel
theorem dX12_nextName_68 : decode cX12_nextName 68 = .ok (.iload_n 1, 1) := by decide +kernel
theorem dX12_nextName_69 : decode cX12_nextName 69 = .ok (.bipush 7, 2) := by decide +kernel
theorem dX12_nextName_71 : decode cX12_nextName 71 = .ok (.if_icmp .gt 8, 3) := by decide +kernel
theorem dX12_nextName_74 : decode cX12_nextName 74 = .ok (.aload_n 0, 1) := by decide +kernel
theorem dX12_nextName_75 : decode cX12_nextName 75 = .ok (.iconst 2, 1) := by decide +kernel
theorem dX12_nextName_76 : decode cX12_nextName 76 = .ok (.putfield 220, 3) := by decide +kernel
theorem dX12_nextName_79 : decode cX12_nextName 79 = .ok (.return_, 1) := by decide +kernel
theorem dX12_nextWhole_0 : decode cX12_nextWhole 0 = .ok (.aload_n 0, 1) := by decide +kernel
theorem dX12_nextWhole_1 : decode cX12_nextWhole 1 = .ok (.iconst 0, 1) := by decide +kernel
theorem dX12_nextWhole_2 : decode cX12_nextWhole 2 = .ok (.putfield 252, 3) := by decide +kernel
theorem dX12_nextWhole_5 : decode cX12_nextWhole 5 = .ok (.iconst 0, 1) := by decide +kernel
theorem dX12_nextWhole_6 : decode cX12_nextWhole 6 = .ok (.istore_n 1, 1) := by decide +kernel
theorem dX12_nextWhole_7 : decode cX12_nextWhole 7 = .ok (.aload_n 0, 1) := by decide +kernel
theorem dX12_nextWhole_8 : decode cX12_nextWhole 8 = .ok (.aload_n 0, 1) := by decide +kernel
theorem dX12_nextWhole_9 : decode cX12_nextWhole 9 = .ok (.getfield 211, 3) := by decide +kernel
theorem dX12_nextWhole_12 : decode cX12_nextWhole 12 = .ok (.invokevirtual 214, 3) := by decide +kernel
theorem dX12_nextWhole_15 : decode cX12_nextWhole 15 = .ok (.invokestatic 230, 3) := by decide +kernel
theorem dX12_nextWhole_18 : decode cX12_nextWhole 18 = .ok (.ifCond .eq 47, 3) := by decide +kernel
theorem dX12_nextWhole_21 : decode cX12_nextWhole 21 = .ok (.iload_n 1, 1) := by decide +kernel
theorem dX12_nextWhole_22 : decode cX12_nextWhole 22 = .ok (.iconst 5, 1) := by decide +kernel
theorem dX12_nextWhole_23 : decode cX12_nextWhole 23 = .ok (.if_icmp .ge 26, 3) := by decide +kernel
theorem dX12_nextWhole_26 : decode cX12_nextWhole 26 = .ok (.aload_n 0, 1) := by decide +kernel
theorem dX12_nextWhole_27 : decode cX12_nextWhole 27 = .ok (.bipush 10, 2) := by decide +kernel
theorem dX12_nextWhole_29 : decode cX12_nextWhole 29 = .ok (.aload_n 0, 1) := by decide +kernel
theorem dX12_nextWhole_30 : decode cX12_nextWhole 30 = .ok (.getfield 252, 3) := by decide +kernel
theorem dX12_nextWhole_33 : decode cX12_nextWhole 33 = .ok (.imul, 1) := by decide +kernel
theorem dX12_nextWhole_34 : decode cX12_nextWhole 34 = .ok (.aload_n 0, 1) := by decide +kernel
theorem dX12_nextWhole_35 : decode cX12_nextWhole 35 = .ok (.aload_n 0, 1) := by decide +kernel
theorem dX12_nextWhole_36 : decode cX12_nextWhole 36 = .ok (.getfield 211, 3) := by decide +kernel
theorem dX12_nextWhole_39 : decode cX12_nextWhole 39 = .ok (.invokevirtual 214, 3) := by decide +kernel
theorem dX12_nextWhole_42 : decode cX12_nextWhole 42 = .ok (.iadd, 1) := by decide +kernel
theorem dX12_nextWhole_43 : decode cX12_nextWhole 43 = .ok (.bipush 48, 2) := by decide +kernel
theorem dX12_nextWhole_45 : decode cX12_nextWhole 45 = .ok (.isub, 1) := by decide +kernel
theorem dX12_nextWhole_46 : decode cX12_nextWhole 46 = .ok (.putfield 252, 3) := by decide +kernel
theorem dX12_nextWhole_49 : decode cX12_nextWhole 49 = .ok (.iinc 1 1, 3) := by decide +kernel
theorem dX12_nextWhole_52 : decode cX12_nextWhole 52 = .ok (.aload_n 0, 1) := by decide +kernel
theorem dX12_nextWhole_53 : decode cX12_nextWhole 53 = .ok (.dup, 1) := by decide +kernel
theorem dX12_nextWhole_54 : decode cX12_nextWhole 54 = .ok (.getfield 211, 3) := by decide +kernel
theorem dX12_nextWhole_57 : decode cX12_nextWhole 57 = .ok (.iconst 1, 1) := by decide +kernel
theorem dX12_nextWhole_58 : decode cX12_nextWhole 58 = .ok (.iadd, 1) := by decide +kernel
theorem dX12_nextWhole_59 : decode cX12_nextWhole 59 = .ok (.putfield 211, 3) := by decide +kernel
theorem dX12_nextWhole_62 : decode cX12_nextWhole 62 = .ok (.goto (-55), 3) := by decide +kernel
theorem dX12_nextWhole_65 : decode cX12_nextWhole 65 = .ok (.iload_n 1, 1) := by decide +kernel
theorem dX12_nextWhole_66 : decode cX12_nextWhole 66 = .ok (.iconst 5, 1) := by decide +kernel
theorem dX12_nextWhole_67 : decode cX12_nextWhole 67 = .ok (.if_icmp .gt 8, 3) := by decide +kernel
theorem dX12_nextWhole_70 : decode cX12_nextWhole 70 = .ok (.aload_n 0, 1) := by decide +kernel
theorem dX12_nextWhole_71 : decode cX12_nextWhole 71 = .ok (.iconst 3, 1) := by decide +kernel
theorem dX12_nextWhole_72 : decode cX12_nextWhole 72 = .ok (.putfield 220, 3) := by decide +kernel
theorem dX12_nextWhole_75 : decode cX12_nextWhole 75 = .ok (.return_, 1) := by decide +kernel
theorem dX12_nextDots_0 : decode cX12_nextDots 0 = .ok (.aload_n 0, 1) := by decide +kernel
theorem dX12_nextDots_1 : decode cX12_nextDots 1 = .ok (.aload_n 0, 1) := by decide +kernel
theorem dX12_nextDots_2 : decode cX12_nextDots 2 = .ok (.getfield 211, 3) := by decide +kernel
theorem dX12_nextDots_5 : decode cX12_nextDots 5 = .ok (.iconst 1, 1) := by decide +kernel
theorem dX12_nextDots_6 : decode cX12_nextDots 6 = .ok (.iadd, 1) := by decide +kernel
theorem dX12_nextDots_7 : decode cX12_nextDots 7 = .ok (.invokevirtual 214, 3) := by decide +kernel
theorem dX12_nextDots_10 : decode cX12_nextDots 10 = .ok (.bipush 46, 2) := by decide +kernel
theorem dX12_nextDots_12 : decode cX12_nextDots 12 = .ok (.if_icmp .eq 4, 3) := by decide +kernel
theorem dX12_nextDots_15 : decode cX12_nextDots 15 = .ok (.return_, 1) := by decide +kernel
theorem dX12_nextDots_16 : decode cX12_nextDots 16 = .ok (.aload_n 0, 1) := by decide +kernel
theorem dX12_nextDots_17 : decode cX12_nextDots 17 = .ok (.iconst 4, 1) := by decide +kernel
theorem dX12_nextDots_18 : decode cX12_nextDots 18 = .ok (.putfield 220, 3) := by decide +kernel
theorem dX12_nextDots_21 : decode cX12_nextDots 21 = .ok (.aload_n 0, 1) := by decide +kernel
theorem dX12_nextDots_22 : decode cX12_nextDots 22 = .ok (.dup, 1) := by decide +kernel
theorem dX12_nextDots_23 : decode cX12_nextDots 23 = .ok (.getfield 211, 3) := by decide +kernel
theorem dX12_nextDots_26 : decode cX12_nextDots 26 = .ok (.iconst 2, 1) := by decide +kernel
theorem dX12_nextDots_27 : decode cX12_nextDots 27 = .ok (.iadd, 1) := by decide +kernel
theorem dX12_nextDots_28 : decode cX12_nextDots 28 = .ok (.putfield 211, 3) := by decide +kernel
theorem dX12_nextDots_31 : decode cX12_nextDots 31 = .ok (.return_, 1) := by decide +kernel
theorem dX12_isSign_0 : decode cX12_isSign 0 = .ok (.iload_n 0, 1) := by decide +kernel
theorem dX12_isSign_1 : decode cX12_isSign 1 = .ok (.bipush 59, 2) := by decide +kernel
theorem dX12_isSign_3 : decode cX12_isSign 3 = .ok (.if_icmp .eq 57, 3) := by decide +kernel
theorem dX12_isSign_6 : decode cX12_isSign 6 = .ok (.iload_n 0, 1) := by decide +kernel
theorem dX12_isSign_7 : decode cX12_isSign 7 = .ok (.bipush 124, 2) := by decide +kernel
theorem dX12_isSign_9 : decode cX12_isSign 9 = .ok (.if_icmp .eq 51, 3) := by decide +kernel
theorem dX12_isSign_12 : decode cX12_isSign 12 = .ok (.iload_n 0, 1) := by decide +kernel
theorem dX12_isSign_13 : decode cX12_isSign 13 = .ok (.bipush 38, 2) := by decide +kernel
theorem dX12_isSign_15 : decode cX12_isSign 15 = .ok (.if_icmp .eq 45, 3) := by decide +kernel
theorem dX12_isSign_18 : decode cX12_isSign 18 = .ok (.iload_n 0, 1) := by decide +kernel
theorem dX12_isSign_19 : decode cX12_isSign 19 = .ok (.bipush 45, 2) := by decide +kernel
theorem dX12_isSign_21 : decode cX12_isSign 21 = .ok (.if_icmp .eq 39, 3) := by decide +kernel
theorem dX12_isSign_24 : decode cX12_isSign 24 = .ok (.iload_n 0, 1) := by decide +kernel
theorem dX12_isSign_25 : decode cX12_isSign 25 = .ok (.bipush 33, 2) := by decide +kernel
theorem dX12_isSign_27 : decode cX12_isSign 27 = .ok (.if_icmp .eq 33, 3) := by decide +kernel
theorem dX12_isSign_30 : decode cX12_isSign 30 = .ok (.iload_n 0, 1) := by decide +kernel
theorem dX12_isSign_31 : decode cX12_isSign 31 = .ok (.bipush 40, 2) := by decide +kernel
theorem dX12_isSign_33 : decode cX12_isSign 33 = .ok (.if_icmp .eq 27, 3) := by decide +kernel
theorem dX12_isSign_36 : decode cX12_isSign 36 = .ok (.iload_n 0, 1) := by decide +kernel
theorem dX12_isSign_37 : decode cX12_isSign 37 = .ok (.bipush 41, 2) := by decide +kernel
theorem dX12_isSign_39 : decode cX12_isSign 39 = .ok (.if_icmp .eq 21, 3) := by decide +kernel
theorem dX12_isSign_42 : decode cX12_isSign 42 = .ok (.iload_n 0, 1) := by decide +kernel
theorem dX12_isSign_43 : decode cX12_isSign 43 = .ok (.bipush 91, 2) := by decide +kernel
theorem dX12_isSign_45 : decode cX12_isSign 45 = .ok (.if_icmp .eq 15, 3) := by decide +kernel
theorem dX12_isSign_48 : decode cX12_isSign 48 = .ok (.iload_n 0, 1) := by decide +kernel
theorem dX12_isSign_49 : decode cX12_isSign 49 = .ok (.bipush 93, 2) := by decide +kernel
theorem dX12_isSign_51 : decode cX12_isSign 51 = .ok (.if_icmp .eq 9, 3) := by decide +kernel
theorem dX12_isSign_54 : decode cX12_isSign 54 = .ok (.iload_n 0, 1) := by decide +kernel
theorem dX12_isSign_55 : decode cX12_isSign 55 = .ok (.bipush 44, 2) := by decide +kernel
theorem dX12_isSign_57 : decode cX12_isSign 57 = .ok (.if_icmp .ne 7, 3) := by decide +kernel
theorem dX12_isSign_60 : decode cX12_isSign 60 = .ok (.iconst 1, 1) := by decide +kernel
theorem dX12_isSign_61 : decode cX12_isSign 61 = .ok (.goto 4, 3) := by decide +kernel
theorem dX12_isSign_64 : decode cX12_isSign 64 = .ok (.iconst 0, 1) := by decide +kernel
theorem dX12_isSign_65 : decode cX12_isSign 65 = .ok (.ireturn, 1) := by decide +kernel
theorem dX12_nextSign_0 : decode cX12_nextSign 0 = .ok (.aload_n 0, 1) := by decide +kernel
theorem dX12_nextSign_1 : decode cX12_nextSign 1 = .ok (.iconst 5, 1) := by decide +kernel
theorem dX12_nextSign_2 : decode cX12_nextSign 2 = .ok (.putfield 220, 3) := by decide +kernel
theorem dX12_nextSign_5 : decode cX12_nextSign 5 = .ok (.aload_n 0, 1) := by decide +kernel
theorem dX12_nextSign_6 : decode cX12_nextSign 6 = .ok (.iload_n 1, 1) := by decide +kernel
theorem dX12_nextSign_7 : decode cX12_nextSign 7 = .ok (.putfield 252, 3) := by decide +kernel
theorem dX12_nextSign_10 : decode cX12_nextSign 10 = .ok (.aload_n 0, 1) := by decide +kernel
theorem dX12_nextSign_11 : decode cX12_nextSign 11 = .ok (.dup, 1) := by decide +kernel
theorem dX12_nextSign_12 : decode cX12_nextSign 12 = .ok (.getfield 211, 3) := by decide +kernel
theorem dX12_nextSign_15 : decode cX12_nextSign 15 = .ok (.iconst 1, 1) := by decide +kernel
theorem dX12_nextSign_16 : decode cX12_nextSign 16 = .ok (.iadd, 1) := by decide +kernel
theorem dX12_nextSign_17 : decode cX12_nextSign 17 = .ok (.putfield 211, 3) := by decide +kernel
theorem dX12_nextSign_20 : decode cX12_nextSign 20 = .ok (.return_, 1) := by decide +kernel
theorem dX12_wrongThere_0 : decode cX12_wrongThere 0 = .ok (.aload_n 0, 1) := by decide +kernel
theorem dX12_wrongThere_1 : decode cX12_wrongThere 1 = .ok (.getfield 208, 3) := by decide +kernel
theorem dX12_wrongThere_4 : decode cX12_wrongThere 4 = .ok (.ifCond .le 4, 3) := by decide +kernel
theorem dX12_wrongThere_7 : decode cX12_wrongThere 7 = .ok (.return_, 1) := by decide +kernel
theorem dX12_wrongThere_8 : decode cX12_wrongThere 8 = .ok (.aload_n 0, 1) := by decide +kernel
theorem dX12_wrongThere_9 : decode cX12_wrongThere 9 = .ok (.iload_n 1, 1) := by decide +kernel
theorem dX12_wrongThere_10 : decode cX12_wrongThere 10 = .ok (.putfield 208, 3) := by decide +kernel
theorem dX12_wrongThere_13 : decode cX12_wrongThere 13 = .ok (.aload_n 0, 1) := by decide +kernel
theorem dX12_wrongThere_14 : decode cX12_wrongThere 14 = .ok (.iload_n 2, 1) := by decide +kernel
theorem dX12_wrongThere_15 : decode cX12_wrongThere 15 = .ok (.putfield 217, 3) := by decide +kernel
theorem dX12_wrongThere_18 : decode cX12_wrongThere 18 = .ok (.aload_n 0, 1) := by decide +kernel
theorem dX12_wrongThere_19 : decode cX12_wrongThere 19 = .ok (.iconst 0, 1) := by decide +kernel
theorem dX12_wrongThere_20 : decode cX12_wrongThere 20 = .ok (.putfield 220, 3) := by decide +kernel
theorem dX12_wrongThere_23 : decode cX12_wrongThere 23 = .ok (.return_, 1) := by decide +kernel
theorem dX12_wrong_0 : decode cX12_wrong 0 = .ok (.aload_n 0, 1) := by decide +kernel
theorem dX12_wrong_1 : decode cX12_wrong 1 = .ok (.iload_n 1, 1) := by decide +kernel
theorem dX12_wrong_2 : decode cX12_wrong 2 = .ok (.aload_n 0, 1) := by decide +kernel
theorem dX12_wrong_3 : decode cX12_wrong 3 = .ok (.getfield 217, 3) := by decide +kernel
theorem dX12_wrong_6 : decode cX12_wrong 6 = .ok (.invokevirtual 255, 3) := by decide +kernel
theorem dX12_wrong_9 : decode cX12_wrong 9 = .ok (.return_, 1) := by decide +kernel
theorem dX12_is_0 : decode cX12_is 0 = .ok (.aload_n 0, 1) := by decide +kernel
theorem dX12_is_1 : decode cX12_is 1 = .ok (.getfield 208, 3) := by decide +kernel
theorem dX12_is_4 : decode cX12_is 4 = .ok (.ifCond .ne 23, 3) := by decide +kernel
theorem dX12_is_7 : decode cX12_is 7 = .ok (.aload_n 0, 1) := by decide +kernel
theorem dX12_is_8 : decode cX12_is 8 = .ok (.getfield 220, 3) := by decide +kernel
theorem dX12_is_11 : decode cX12_is 11 = .ok (.iconst 5, 1) := by decide +kernel
theorem dX12_is_12 : decode cX12_is 12 = .ok (.if_icmp .ne 15, 3) := by decide +kernel
theorem dX12_is_15 : decode cX12_is 15 = .ok (.aload_n 0, 1) := by decide +kernel
theorem dX12_is_16 : decode cX12_is 16 = .ok (.getfield 252, 3) := by decide +kernel
theorem dX12_is_19 : decode cX12_is 19 = .ok (.iload_n 1, 1) := by decide +kernel
theorem dX12_is_20 : decode cX12_is 20 = .ok (.if_icmp .ne 7, 3) := by decide +kernel
theorem dX12_is_23 : decode cX12_is 23 = .ok (.iconst 1, 1) := by decide +kernel
theorem dX12_is_24 : decode cX12_is 24 = .ok (.goto 4, 3) := by decide +kernel
theorem dX12_is_27 : decode cX12_is 27 = .ok (.iconst 0, 1) := by decide +kernel
theorem dX12_is_28 : decode cX12_is 28 = .ok (.ireturn, 1) := by decide +kernel
theorem dX12_passes_0 : decode cX12_passes 0 = .ok (.aload_n 0, 1) := by decide +kernel
theorem dX12_passes_1 : decode cX12_passes 1 = .ok (.iload_n 1, 1) := by decide +kernel
theorem dX12_passes_2 : decode cX12_passes 2 = .ok (.invokevirtual 259, 3) := by decide +kernel
theorem dX12_passes_5 : decode cX12_passes 5 = .ok (.istore_n 2, 1) := by decide +kernel
theorem dX12_passes_6 : decode cX12_passes 6 = .ok (.iload_n 2, 1) := by decide +kernel
theorem dX12_passes_7 : decode cX12_passes 7 = .ok (.ifCond .eq 7, 3) := by decide +kernel
theorem dX12_passes_10 : decode cX12_passes 10 = .ok (.aload_n 0, 1) := by decide +kernel
theorem dX12_passes_11 : decode cX12_passes 11 = .ok (.invokevirtual 262, 3) := by decide +kernel
theorem dX12_passes_14 : decode cX12_passes 14 = .ok (.iload_n 2, 1) := by decide +kernel
theorem dX12_passes_15 : decode cX12_passes 15 = .ok (.ireturn, 1) := by decide +kernel
theorem dX12_must_0 : decode cX12_must 0 = .ok (.aload_n 0, 1) := by decide +kernel
theorem dX12_must_1 : decode cX12_must 1 = .ok (.iload_n 1, 1) := by decide +kernel
theorem dX12_must_2 : decode cX12_must 2 = .ok (.invokevirtual 265, 3) := by decide +kernel
theorem dX12_must_5 : decode cX12_must 5 = .ok (.ifCond .ne 8, 3) := by decide +kernel
theorem dX12_must_8 : decode cX12_must 8 = .ok (.aload_n 0, 1) := by decide +kernel
theorem dX12_must_9 : decode cX12_must 9 = .ok (.iconst 1, 1) := by decide +kernel
theorem dX12_must_10 : decode cX12_must 10 = .ok (.invokevirtual 268, 3) := by decide +kernel
theorem dX12_must_13 : decode cX12_must 13 = .ok (.return_, 1) := by decide +kernel
theorem dX12_packed_0 : decode cX12_packed 0 = .ok (.lconst 0, 1) := by decide +kernel
theorem dX12_packed_1 : decode cX12_packed 1 = .ok (.lstore_n 1, 1) := by decide +kernel
theorem dX12_packed_2 : decode cX12_packed 2 = .ok (.iconst 0, 1) := by decide +kernel
theorem dX12_packed_3 : decode cX12_packed 3 = .ok (.istore_n 3, 1) := by decide +kernel
theorem dX12_packed_4 : decode cX12_packed 4 = .ok (.iload_n 3, 1) := by decide +kernel
theorem dX12_packed_5 : decode cX12_packed 5 = .ok (.aload_n 0, 1) := by decide +kernel
theorem dX12_packed_6 : decode cX12_packed 6 = .ok (.invokevirtual 271, 3) := by decide +kernel
theorem dX12_packed_9 : decode cX12_packed 9 = .ok (.if_icmp .ge 25, 3) := by decide +kernel
theorem dX12_packed_12 : decode cX12_packed 12 = .ok (.ldc2_w 250, 3) := by decide +kernel
theorem dX12_packed_15 : decode cX12_packed 15 = .ok (.lload_n 1, 1) := by decide +kernel
theorem dX12_packed_16 : decode cX12_packed 16 = .ok (.lmul, 1) := by decide +kernel
theorem dX12_packed_17 : decode cX12_packed 17 = .ok (.aload_n 0, 1) := by decide +kernel
theorem dX12_packed_18 : decode cX12_packed 18 = .ok (.iload_n 3, 1) := by decide +kernel
theorem dX12_packed_19 : decode cX12_packed 19 = .ok (.invokevirtual 277, 3) := by decide +kernel
theorem dX12_packed_22 : decode cX12_packed 22 = .ok (.bipush 96, 2) := by decide +kernel
theorem dX12_packed_24 : decode cX12_packed 24 = .ok (.isub, 1) := by decide +kernel
theorem dX12_packed_25 : decode cX12_packed 25 = .ok (.i2l, 1) := by decide +kernel
theorem dX12_packed_26 : decode cX12_packed 26 = .ok (.ladd, 1) := by decide +kernel
theorem dX12_packed_27 : decode cX12_packed 27 = .ok (.lstore_n 1, 1) := by decide +kernel
theorem dX12_packed_28 : decode cX12_packed 28 = .ok (.iinc 3 1, 3) := by decide +kernel
theorem dX12_packed_31 : decode cX12_packed 31 = .ok (.goto (-27), 3) := by decide +kernel
theorem dX12_packed_34 : decode cX12_packed 34 = .ok (.lload_n 1, 1) := by decide +kernel
theorem dX12_packed_35 : decode cX12_packed 35 = .ok (.lreturn, 1) := by decide +kernel
theorem dX12_isWord_0 : decode cX12_isWord 0 = .ok (.aload_n 0, 1) := by decide +kernel
theorem dX12_isWord_1 : decode cX12_isWord 1 = .ok (.getfield 208, 3) := by decide +kernel
theorem dX12_isWord_4 : decode cX12_isWord 4 = .ok (.ifCond .ne 27, 3) := by decide +kernel
theorem dX12_isWord_7 : decode cX12_isWord 7 = .ok (.aload_n 0, 1) := by decide +kernel
theorem dX12_isWord_8 : decode cX12_isWord 8 = .ok (.getfield 220, 3) := by decide +kernel
theorem dX12_isWord_11 : decode cX12_isWord 11 = .ok (.iconst 2, 1) := by decide +kernel
theorem dX12_isWord_12 : decode cX12_isWord 12 = .ok (.if_icmp .ne 19, 3) := by decide +kernel
theorem dX12_isWord_15 : decode cX12_isWord 15 = .ok (.aload_n 0, 1) := by decide +kernel
theorem dX12_isWord_16 : decode cX12_isWord 16 = .ok (.getfield 246, 3) := by decide +kernel
theorem dX12_isWord_19 : decode cX12_isWord 19 = .ok (.aload_n 1, 1) := by decide +kernel
theorem dX12_isWord_20 : decode cX12_isWord 20 = .ok (.invokestatic 281, 3) := by decide +kernel
theorem dX12_isWord_23 : decode cX12_isWord 23 = .ok (.lcmp, 1) := by decide +kernel
theorem dX12_isWord_24 : decode cX12_isWord 24 = .ok (.ifCond .ne 7, 3) := by decide +kernel
theorem dX12_isWord_27 : decode cX12_isWord 27 = .ok (.iconst 1, 1) := by decide +kernel
theorem dX12_isWord_28 : decode cX12_isWord 28 = .ok (.goto 4, 3) := by decide +kernel
theorem dX12_isWord_31 : decode cX12_isWord 31 = .ok (.iconst 0, 1) := by decide +kernel
theorem dX12_isWord_32 : decode cX12_isWord 32 = .ok (.ireturn, 1) := by decide +kernel
theorem dX12_isName_0 : decode cX12_isName 0 = .ok (.aload_n 0, 1) := by decide +kernel
theorem dX12_isName_1 : decode cX12_isName 1 = .ok (.getfield 208, 3) := by decide +kernel
theorem dX12_isName_4 : decode cX12_isName 4 = .ok (.ifCond .ne 75, 3) := by decide +kernel
theorem dX12_isName_7 : decode cX12_isName 7 = .ok (.aload_n 0, 1) := by decide +kernel
theorem dX12_isName_8 : decode cX12_isName 8 = .ok (.getfield 220, 3) := by decide +kernel
theorem dX12_isName_11 : decode cX12_isName 11 = .ok (.iconst 2, 1) := by decide +kernel
theorem dX12_isName_12 : decode cX12_isName 12 = .ok (.if_icmp .ne 67, 3) := by decide +kernel
theorem dX12_isName_15 : decode cX12_isName 15 = .ok (.aload_n 0, 1) := by decide +kernel
theorem dX12_isName_16 : decode cX12_isName 16 = .ok (.ldc_w 285, 3) := by decide +kernel
theorem dX12_isName_19 : decode cX12_isName 19 = .ok (.invokevirtual 287, 3) := by decide +kernel
theorem dX12_isName_22 : decode cX12_isName 22 = .ok (.ifCond .ne 57, 3) := by decide +kernel
theorem dX12_isName_25 : decode cX12_isName 25 = .ok (.aload_n 0, 1) := by decide +kernel
theorem dX12_isName_26 : decode cX12_isName 26 = .ok (.ldc_w 291, 3) := by decide +kernel
theorem dX12_isName_29 : decode cX12_isName 29 = .ok (.invokevirtual 287, 3) := by decide +kernel
theorem dX12_isName_32 : decode cX12_isName 32 = .ok (.ifCond .ne 47, 3) := by decide +kernel
theorem dX12_isName_35 : decode cX12_isName 35 = .ok (.aload_n 0, 1) := by decide +kernel
theorem dX12_isName_36 : decode cX12_isName 36 = .ok (.ldc_w 293, 3) := by decide +kernel
theorem dX12_isName_39 : decode cX12_isName 39 = .ok (.invokevirtual 287, 3) := by decide +kernel
theorem dX12_isName_42 : decode cX12_isName 42 = .ok (.ifCond .ne 37, 3) := by decide +kernel
theorem dX12_isName_45 : decode cX12_isName 45 = .ok (.aload_n 0, 1) := by decide +kernel
theorem dX12_isName_46 : decode cX12_isName 46 = .ok (.ldc_w 295, 3) := by decide +kernel
theorem dX12_isName_49 : decode cX12_isName 49 = .ok (.invokevirtual 287, 3) := by decide +kernel
theorem dX12_isName_52 : decode cX12_isName 52 = .ok (.ifCond .ne 27, 3) := by decide +kernel
theorem dX12_isName_55 : decode cX12_isName 55 = .ok (.aload_n 0, 1) := by decide +kernel
theorem dX12_isName_56 : decode cX12_isName 56 = .ok (.ldc_w 297, 3) := by decide +kernel
theorem dX12_isName_59 : decode cX12_isName 59 = .ok (.invokevirtual 287, 3) := by decide +kernel
theorem dX12_isName_62 : decode cX12_isName 62 = .ok (.ifCond .ne 17, 3) := by decide +kernel
theorem dX12_isName_65 : decode cX12_isName 65 = .ok (.aload_n 0, 1) := by decide +kernel
theorem dX12_isName_66 : decode cX12_isName 66 = .ok (.ldc_w 299, 3) := by decide +kernel
theorem dX12_isName_69 : decode cX12_isName 69 = .ok (.invokevirtual 287, 3) := by decide +kernel
theorem dX12_isName_72 : decode cX12_isName 72 = .ok (.ifCond .ne 7, 3) := by decide +kernel
theorem dX12_isName_75 : decode cX12_isName 75 = .ok (.iconst 1, 1) := by decide +kernel
theorem dX12_isName_76 : decode cX12_isName 76 = .ok (.goto 4, 3) := by decide +kernel
theorem dX12_isName_79 : decode cX12_isName 79 = .ok (.iconst 0, 1) := by decide +kernel
theorem dX12_isName_80 : decode cX12_isName 80 = .ok (.ireturn, 1) := by decide +kernel
theorem dX12_whole_0 : decode cX12_whole 0 = .ok (.aload_n 0, 1) := by decide +kernel
theorem dX12_whole_1 : decode cX12_whole 1 = .ok (.getfield 220, 3) := by decide +kernel
theorem dX12_whole_4 : decode cX12_whole 4 = .ok (.iconst 3, 1) := by decide +kernel
theorem dX12_whole_5 : decode cX12_whole 5 = .ok (.if_icmp .eq 11, 3) := by decide +kernel
theorem dX12_whole_8 : decode cX12_whole 8 = .ok (.aload_n 0, 1) := by decide +kernel
theorem dX12_whole_9 : decode cX12_whole 9 = .ok (.iconst 1, 1) := by decide +kernel
theorem dX12_whole_10 : decode cX12_whole 10 = .ok (.invokevirtual 268, 3) := by decide +kernel
theorem dX12_whole_13 : decode cX12_whole 13 = .ok (.goto 20, 3) := by decide +kernel
theorem dX12_whole_16 : decode cX12_whole 16 = .ok (.aload_n 0, 1) := by decide +kernel
theorem dX12_whole_17 : decode cX12_whole 17 = .ok (.getfield 252, 3) := by decide +kernel
theorem dX12_whole_20 : decode cX12_whole 20 = .ok (.iload_n 1, 1) := by decide +kernel
theorem dX12_whole_21 : decode cX12_whole 21 = .ok (.iload_n 2, 1) := by decide +kernel
theorem dX12_whole_22 : decode cX12_whole 22 = .ok (.invokestatic 201, 3) := by decide +kernel
theorem dX12_whole_25 : decode cX12_whole 25 = .ok (.ifCond .ne 8, 3) := by decide +kernel
theorem dX12_whole_28 : decode cX12_whole 28 = .ok (.aload_n 0, 1) := by decide +kernel
theorem dX12_whole_29 : decode cX12_whole 29 = .ok (.iconst 4, 1) := by decide +kernel
theorem dX12_whole_30 : decode cX12_whole 30 = .ok (.invokevirtual 268, 3) := by decide +kernel
theorem dX12_whole_33 : decode cX12_whole 33 = .ok (.aload_n 0, 1) := by decide +kernel
theorem dX12_whole_34 : decode cX12_whole 34 = .ok (.getfield 208, 3) := by decide +kernel
theorem dX12_whole_37 : decode cX12_whole 37 = .ok (.ifCond .le 7, 3) := by decide +kernel
theorem dX12_whole_40 : decode cX12_whole 40 = .ok (.iload_n 1, 1) := by decide +kernel
theorem dX12_whole_41 : decode cX12_whole 41 = .ok (.goto 7, 3) := by decide +kernel
theorem dX12_whole_44 : decode cX12_whole 44 = .ok (.aload_n 0, 1) := by decide +kernel
theorem dX12_whole_45 : decode cX12_whole 45 = .ok (.getfield 252, 3) := by decide +kernel
theorem dX12_whole_48 : decode cX12_whole 48 = .ok (.istore_n 3, 1) := by decide +kernel
theorem dX12_whole_49 : decode cX12_whole 49 = .ok (.aload_n 0, 1) := by decide +kernel
theorem dX12_whole_50 : decode cX12_whole 50 = .ok (.invokevirtual 262, 3) := by decide +kernel
theorem dX12_whole_53 : decode cX12_whole 53 = .ok (.iload_n 3, 1) := by decide +kernel
theorem dX12_whole_54 : decode cX12_whole 54 = .ok (.ireturn, 1) := by decide +kernel
theorem dX12_lays_0 : decode cX12_lays 0 = .ok (.iconst 0, 1) := by decide +kernel
theorem dX12_lays_1 : decode cX12_lays 1 = .ok (.istore_n 3, 1) := by decide +kernel
theorem dX12_lays_2 : decode cX12_lays 2 = .ok (.iload_n 3, 1) := by decide +kernel
theorem dX12_lays_3 : decode cX12_lays 3 = .ok (.sipush 1024, 3) := by decide +kernel
theorem dX12_lays_6 : decode cX12_lays 6 = .ok (.if_icmp .ge 25, 3) := by decide +kernel
theorem dX12_lays_9 : decode cX12_lays 9 = .ok (.aload_n 0, 1) := by decide +kernel
theorem dX12_lays_10 : decode cX12_lays 10 = .ok (.getfield 17, 3) := by decide +kernel
theorem dX12_lays_13 : decode cX12_lays 13 = .ok (.aload_n 0, 1) := by decide +kernel
theorem dX12_lays_14 : decode cX12_lays 14 = .ok (.getfield 301, 3) := by decide +kernel
theorem dX12_lays_17 : decode cX12_lays 17 = .ok (.sipush 1024, 3) := by decide +kernel
theorem dX12_lays_20 : decode cX12_lays 20 = .ok (.imul, 1) := by decide +kernel
theorem dX12_lays_21 : decode cX12_lays 21 = .ok (.iload_n 3, 1) := by decide +kernel
theorem dX12_lays_22 : decode cX12_lays 22 = .ok (.iadd, 1) := by decide +kernel
theorem dX12_lays_23 : decode cX12_lays 23 = .ok (.lload_n 1, 1) := by decide +kernel
theorem dX12_lays_24 : decode cX12_lays 24 = .ok (.lastore, 1) := by decide +kernel
theorem dX12_lays_25 : decode cX12_lays 25 = .ok (.iinc 3 1, 3) := by decide +kernel
theorem dX12_lays_28 : decode cX12_lays 28 = .ok (.goto (-26), 3) := by decide +kernel
theorem dX12_lays_31 : decode cX12_lays 31 = .ok (.aload_n 0, 1) := by decide +kernel
theorem dX12_lays_32 : decode cX12_lays 32 = .ok (.dup, 1) := by decide +kernel
theorem dX12_lays_33 : decode cX12_lays 33 = .ok (.getfield 301, 3) := by decide +kernel
theorem dX12_lays_36 : decode cX12_lays 36 = .ok (.iconst 1, 1) := by decide +kernel
theorem dX12_lays_37 : decode cX12_lays 37 = .ok (.iadd, 1) := by decide +kernel
theorem dX12_lays_38 : decode cX12_lays 38 = .ok (.putfield 301, 3) := by decide +kernel
theorem dX12_lays_41 : decode cX12_lays 41 = .ok (.return_, 1) := by decide +kernel
theorem dX12_laysRange_0 : decode cX12_laysRange 0 = .ok (.aload_n 0, 1) := by decide +kernel
theorem dX12_laysRange_1 : decode cX12_laysRange 1 = .ok (.getfield 301, 3) := by decide +kernel
theorem dX12_laysRange_4 : decode cX12_laysRange 4 = .ok (.iconst 1, 1) := by decide +kernel
theorem dX12_laysRange_5 : decode cX12_laysRange 5 = .ok (.isub, 1) := by decide +kernel
theorem dX12_laysRange_6 : decode cX12_laysRange 6 = .ok (.sipush 1024, 3) := by decide +kernel
theorem dX12_laysRange_9 : decode cX12_laysRange 9 = .ok (.imul, 1) := by decide +kernel
theorem dX12_laysRange_10 : decode cX12_laysRange 10 = .ok (.istore_n 3, 1) := by decide +kernel
theorem dX12_laysRange_11 : decode cX12_laysRange 11 = .ok (.iload_n 1, 1) := by decide +kernel
theorem dX12_laysRange_12 : decode cX12_laysRange 12 = .ok (.bipush 64, 2) := by decide +kernel
theorem dX12_laysRange_14 : decode cX12_laysRange 14 = .ok (.idiv, 1) := by decide +kernel
theorem dX12_laysRange_15 : decode cX12_laysRange 15 = .ok (.istore 4, 2) := by decide +kernel
theorem dX12_laysRange_17 : decode cX12_laysRange 17 = .ok (.iload_n 2, 1) := by decide +kernel
theorem dX12_laysRange_18 : decode cX12_laysRange 18 = .ok (.bipush 64, 2) := by decide +kernel
theorem dX12_laysRange_20 : decode cX12_laysRange 20 = .ok (.idiv, 1) := by decide +kernel
theorem dX12_laysRange_21 : decode cX12_laysRange 21 = .ok (.istore 5, 2) := by decide +kernel
theorem dX12_laysRange_23 : decode cX12_laysRange 23 = .ok (.iload 4, 2) := by decide +kernel
theorem dX12_laysRange_25 : decode cX12_laysRange 25 = .ok (.istore 6, 2) := by decide +kernel
theorem dX12_laysRange_27 : decode cX12_laysRange 27 = .ok (.iload 6, 2) := by decide +kernel
theorem dX12_laysRange_29 : decode cX12_laysRange 29 = .ok (.iload 5, 2) := by decide +kernel
theorem dX12_laysRange_31 : decode cX12_laysRange 31 = .ok (.if_icmp .gt 71, 3) := by decide +kernel
theorem dX12_laysRange_34 : decode cX12_laysRange 34 = .ok (.ldc2_w 304, 3) := by decide +kernel
theorem dX12_laysRange_37 : decode cX12_laysRange 37 = .ok (.lstore 7, 2) := by decide +kernel
theorem dX12_laysRange_39 : decode cX12_laysRange 39 = .ok (.iload 6, 2) := by decide +kernel
theorem dX12_laysRange_41 : decode cX12_laysRange 41 = .ok (.iload 4, 2) := by decide +kernel
theorem dX12_laysRange_43 : decode cX12_laysRange 43 = .ok (.if_icmp .ne 16, 3) := by decide +kernel
theorem dX12_laysRange_46 : decode cX12_laysRange 46 = .ok (.lload 7, 2) := by decide +kernel
theorem dX12_laysRange_48 : decode cX12_laysRange 48 = .ok (.ldc2_w 304, 3) := by decide +kernel
theorem dX12_laysRange_51 : decode cX12_laysRange 51 = .ok (.iload_n 1, 1) := by decide +kernel
theorem dX12_laysRange_52 : decode cX12_laysRange 52 = .ok (.bipush 64, 2) := by decide +kernel
theorem dX12_laysRange_54 : decode cX12_laysRange 54 = .ok (.irem, 1) := by decide +kernel
theorem dX12_laysRange_55 : decode cX12_laysRange 55 = .ok (.lshl, 1) := by decide +kernel
theorem dX12_laysRange_56 : decode cX12_laysRange 56 = .ok (.land, 1) := by decide +kernel
theorem dX12_laysRange_57 : decode cX12_laysRange 57 = .ok (.lstore 7, 2) := by decide +kernel
theorem dX12_laysRange_59 : decode cX12_laysRange 59 = .ok (.iload 6, 2) := by decide +kernel
theorem dX12_laysRange_61 : decode cX12_laysRange 61 = .ok (.iload 5, 2) := by decide +kernel
theorem dX12_laysRange_63 : decode cX12_laysRange 63 = .ok (.if_icmp .ne 19, 3) := by decide +kernel
theorem dX12_laysRange_66 : decode cX12_laysRange 66 = .ok (.lload 7, 2) := by decide +kernel
theorem dX12_laysRange_68 : decode cX12_laysRange 68 = .ok (.ldc2_w 304, 3) := by decide +kernel
theorem dX12_laysRange_71 : decode cX12_laysRange 71 = .ok (.bipush 63, 2) := by decide +kernel
theorem dX12_laysRange_73 : decode cX12_laysRange 73 = .ok (.iload_n 2, 1) := by decide +kernel
theorem dX12_laysRange_74 : decode cX12_laysRange 74 = .ok (.bipush 64, 2) := by decide +kernel
theorem dX12_laysRange_76 : decode cX12_laysRange 76 = .ok (.irem, 1) := by decide +kernel
theorem dX12_laysRange_77 : decode cX12_laysRange 77 = .ok (.isub, 1) := by decide +kernel
theorem dX12_laysRange_78 : decode cX12_laysRange 78 = .ok (.lushr, 1) := by decide +kernel
theorem dX12_laysRange_79 : decode cX12_laysRange 79 = .ok (.land, 1) := by decide +kernel
theorem dX12_laysRange_80 : decode cX12_laysRange 80 = .ok (.lstore 7, 2) := by decide +kernel
theorem dX12_laysRange_82 : decode cX12_laysRange 82 = .ok (.aload_n 0, 1) := by decide +kernel
theorem dX12_laysRange_83 : decode cX12_laysRange 83 = .ok (.getfield 17, 3) := by decide +kernel
theorem dX12_laysRange_86 : decode cX12_laysRange 86 = .ok (.iload_n 3, 1) := by decide +kernel
theorem dX12_laysRange_87 : decode cX12_laysRange 87 = .ok (.iload 6, 2) := by decide +kernel
theorem dX12_laysRange_89 : decode cX12_laysRange 89 = .ok (.iadd, 1) := by decide +kernel
theorem dX12_laysRange_90 : decode cX12_laysRange 90 = .ok (.dup2, 1) := by decide +kernel
theorem dX12_laysRange_91 : decode cX12_laysRange 91 = .ok (.laload, 1) := by decide +kernel
theorem dX12_laysRange_92 : decode cX12_laysRange 92 = .ok (.lload 7, 2) := by decide +kernel
theorem dX12_laysRange_94 : decode cX12_laysRange 94 = .ok (.lor, 1) := by decide +kernel
theorem dX12_laysRange_95 : decode cX12_laysRange 95 = .ok (.lastore, 1) := by decide +kernel
theorem dX12_laysRange_96 : decode cX12_laysRange 96 = .ok (.iinc 6 1, 3) := by decide +kernel
theorem dX12_laysRange_99 : decode cX12_laysRange 99 = .ok (.goto (-72), 3) := by decide +kernel
theorem dX12_laysRange_102 : decode cX12_laysRange 102 = .ok (.return_, 1) := by decide +kernel
theorem dX12_joins_0 : decode cX12_joins 0 = .ok (.aload_n 0, 1) := by decide +kernel
theorem dX12_joins_1 : decode cX12_joins 1 = .ok (.dup, 1) := by decide +kernel
theorem dX12_joins_2 : decode cX12_joins 2 = .ok (.getfield 301, 3) := by decide +kernel
theorem dX12_joins_5 : decode cX12_joins 5 = .ok (.iconst 1, 1) := by decide +kernel
theorem dX12_joins_6 : decode cX12_joins 6 = .ok (.isub, 1) := by decide +kernel
theorem dX12_joins_7 : decode cX12_joins 7 = .ok (.putfield 301, 3) := by decide +kernel
theorem dX12_joins_10 : decode cX12_joins 10 = .ok (.aload_n 0, 1) := by decide +kernel
theorem dX12_joins_11 : decode cX12_joins 11 = .ok (.getfield 301, 3) := by decide +kernel
theorem dX12_joins_14 : decode cX12_joins 14 = .ok (.iconst 1, 1) := by decide +kernel
theorem dX12_joins_15 : decode cX12_joins 15 = .ok (.isub, 1) := by decide +kernel
theorem dX12_joins_16 : decode cX12_joins 16 = .ok (.sipush 1024, 3) := by decide +kernel
theorem dX12_joins_19 : decode cX12_joins 19 = .ok (.imul, 1) := by decide +kernel
theorem dX12_joins_20 : decode cX12_joins 20 = .ok (.istore_n 2, 1) := by decide +kernel
theorem dX12_joins_21 : decode cX12_joins 21 = .ok (.iconst 0, 1) := by decide +kernel
theorem dX12_joins_22 : decode cX12_joins 22 = .ok (.istore_n 3, 1) := by decide +kernel
theorem dX12_joins_23 : decode cX12_joins 23 = .ok (.iload_n 3, 1) := by decide +kernel
theorem dX12_joins_24 : decode cX12_joins 24 = .ok (.sipush 1024, 3) := by decide +kernel
theorem dX12_joins_27 : decode cX12_joins 27 = .ok (.if_icmp .ge 89, 3) := by decide +kernel
theorem dX12_joins_30 : decode cX12_joins 30 = .ok (.aload_n 0, 1) := by decide +kernel
theorem dX12_joins_31 : decode cX12_joins 31 = .ok (.getfield 17, 3) := by decide +kernel
theorem dX12_joins_34 : decode cX12_joins 34 = .ok (.aload_n 0, 1) := by decide +kernel
theorem dX12_joins_35 : decode cX12_joins 35 = .ok (.getfield 301, 3) := by decide +kernel
theorem dX12_joins_38 : decode cX12_joins 38 = .ok (.sipush 1024, 3) := by decide +kernel
theorem dX12_joins_41 : decode cX12_joins 41 = .ok (.imul, 1) := by decide +kernel
theorem dX12_joins_42 : decode cX12_joins 42 = .ok (.iload_n 3, 1) := by decide +kernel
theorem dX12_joins_43 : decode cX12_joins 43 = .ok (.iadd, 1) := by decide +kernel
theorem dX12_joins_44 : decode cX12_joins 44 = .ok (.laload, 1) := by decide +kernel
theorem dX12_joins_45 : decode cX12_joins 45 = .ok (.lstore 4, 2) := by decide +kernel
theorem dX12_joins_47 : decode cX12_joins 47 = .ok (.aload_n 0, 1) := by decide +kernel
theorem dX12_joins_48 : decode cX12_joins 48 = .ok (.getfield 17, 3) := by decide +kernel
theorem dX12_joins_51 : decode cX12_joins 51 = .ok (.iload_n 2, 1) := by decide +kernel
theorem dX12_joins_52 : decode cX12_joins 52 = .ok (.iload_n 3, 1) := by decide +kernel
theorem dX12_joins_53 : decode cX12_joins 53 = .ok (.iadd, 1) := by decide +kernel
theorem dX12_joins_54 : decode cX12_joins 54 = .ok (.iload_n 1, 1) := by decide +kernel
theorem dX12_joins_55 : decode cX12_joins 55 = .ok (.bipush 124, 2) := by decide +kernel
theorem dX12_joins_57 : decode cX12_joins 57 = .ok (.if_icmp .ne 17, 3) := by decide +kernel
theorem dX12_joins_60 : decode cX12_joins 60 = .ok (.aload_n 0, 1) := by decide +kernel
theorem dX12_joins_61 : decode cX12_joins 61 = .ok (.getfield 17, 3) := by decide +kernel
theorem dX12_joins_64 : decode cX12_joins 64 = .ok (.iload_n 2, 1) := by decide +kernel
theorem dX12_joins_65 : decode cX12_joins 65 = .ok (.iload_n 3, 1) := by decide +kernel
theorem dX12_joins_66 : decode cX12_joins 66 = .ok (.iadd, 1) := by decide +kernel
theorem dX12_joins_67 : decode cX12_joins 67 = .ok (.laload, 1) := by decide +kernel
theorem dX12_joins_68 : decode cX12_joins 68 = .ok (.lload 4, 2) := by decide +kernel
theorem dX12_joins_70 : decode cX12_joins 70 = .ok (.lor, 1) := by decide +kernel
theorem dX12_joins_71 : decode cX12_joins 71 = .ok (.goto 38, 3) := by decide +kernel
theorem dX12_joins_74 : decode cX12_joins 74 = .ok (.iload_n 1, 1) := by decide +kernel
theorem dX12_joins_75 : decode cX12_joins 75 = .ok (.bipush 38, 2) := by decide +kernel
theorem dX12_joins_77 : decode cX12_joins 77 = .ok (.if_icmp .ne 17, 3) := by decide +kernel
theorem dX12_joins_80 : decode cX12_joins 80 = .ok (.aload_n 0, 1) := by decide +kernel
theorem dX12_joins_81 : decode cX12_joins 81 = .ok (.getfield 17, 3) := by decide +kernel
theorem dX12_joins_84 : decode cX12_joins 84 = .ok (.iload_n 2, 1) := by decide +kernel
theorem dX12_joins_85 : decode cX12_joins 85 = .ok (.iload_n 3, 1) := by decide +kernel
theorem dX12_joins_86 : decode cX12_joins 86 = .ok (.iadd, 1) := by decide +kernel
theorem dX12_joins_87 : decode cX12_joins 87 = .ok (.laload, 1) := by decide +kernel
theorem dX12_joins_88 : decode cX12_joins 88 = .ok (.lload 4, 2) := by decide +kernel
theorem dX12_joins_90 : decode cX12_joins 90 = .ok (.land, 1) := by decide +kernel
theorem dX12_joins_91 : decode cX12_joins 91 = .ok (.goto 18, 3) := by decide +kernel
theorem dX12_joins_94 : decode cX12_joins 94 = .ok (.aload_n 0, 1) := by decide +kernel
theorem dX12_joins_95 : decode cX12_joins 95 = .ok (.getfield 17, 3) := by decide +kernel
theorem dX12_joins_98 : decode cX12_joins 98 = .ok (.iload_n 2, 1) := by decide +kernel
theorem dX12_joins_99 : decode cX12_joins 99 = .ok (.iload_n 3, 1) := by decide +kernel
theorem dX12_joins_100 : decode cX12_joins 100 = .ok (.iadd, 1) := by decide +kernel
theorem dX12_joins_101 : decode cX12_joins 101 = .ok (.laload, 1) := by decide +kernel
theorem dX12_joins_102 : decode cX12_joins 102 = .ok (.lload 4, 2) := by decide +kernel
theorem dX12_joins_104 : decode cX12_joins 104 = .ok (.ldc2_w 304, 3) := by decide +kernel
theorem dX12_joins_107 : decode cX12_joins 107 = .ok (.lxor, 1) := by decide +kernel
theorem dX12_joins_108 : decode cX12_joins 108 = .ok (.land, 1) := by decide +kernel
theorem dX12_joins_109 : decode cX12_joins 109 = .ok (.lastore, 1) := by decide +kernel
theorem dX12_joins_110 : decode cX12_joins 110 = .ok (.iinc 3 1, 3) := by decide +kernel
theorem dX12_joins_113 : decode cX12_joins 113 = .ok (.goto (-90), 3) := by decide +kernel
theorem dX12_joins_116 : decode cX12_joins 116 = .ok (.return_, 1) := by decide +kernel
theorem dX12_readBody_0 : decode cX12_readBody 0 = .ok (.aload_n 0, 1) := by decide +kernel
theorem dX12_readBody_1 : decode cX12_readBody 1 = .ok (.invokevirtual 306, 3) := by decide +kernel
theorem dX12_readBody_4 : decode cX12_readBody 4 = .ok (.aload_n 0, 1) := by decide +kernel
theorem dX12_readBody_5 : decode cX12_readBody 5 = .ok (.bipush 124, 2) := by decide +kernel
theorem dX12_readBody_7 : decode cX12_readBody 7 = .ok (.invokevirtual 265, 3) := by decide +kernel
theorem dX12_readBody_10 : decode cX12_readBody 10 = .ok (.ifCond .eq 16, 3) := by decide +kernel
theorem dX12_readBody_13 : decode cX12_readBody 13 = .ok (.aload_n 0, 1) := by decide +kernel
theorem dX12_readBody_14 : decode cX12_readBody 14 = .ok (.invokevirtual 306, 3) := by decide +kernel
theorem dX12_readBody_17 : decode cX12_readBody 17 = .ok (.aload_n 0, 1) := by decide +kernel
theorem dX12_readBody_18 : decode cX12_readBody 18 = .ok (.bipush 124, 2) := by decide +kernel
theorem dX12_readBody_20 : decode cX12_readBody 20 = .ok (.invokevirtual 309, 3) := by decide +kernel
theorem dX12_readBody_23 : decode cX12_readBody 23 = .ok (.goto (-19), 3) := by decide +kernel
theorem dX12_readBody_26 : decode cX12_readBody 26 = .ok (.return_, 1) := by decide +kernel
theorem dX12_readMeet_0 : decode cX12_readMeet 0 = .ok (.aload_n 0, 1) := by decide +kernel
theorem dX12_readMeet_1 : decode cX12_readMeet 1 = .ok (.invokevirtual 312, 3) := by decide +kernel
theorem dX12_readMeet_4 : decode cX12_readMeet 4 = .ok (.aload_n 0, 1) := by decide +kernel
theorem dX12_readMeet_5 : decode cX12_readMeet 5 = .ok (.bipush 38, 2) := by decide +kernel
theorem dX12_readMeet_7 : decode cX12_readMeet 7 = .ok (.invokevirtual 259, 3) := by decide +kernel
theorem dX12_readMeet_10 : decode cX12_readMeet 10 = .ok (.ifCond .ne 12, 3) := by decide +kernel
theorem dX12_readMeet_13 : decode cX12_readMeet 13 = .ok (.aload_n 0, 1) := by decide +kernel
theorem dX12_readMeet_14 : decode cX12_readMeet 14 = .ok (.bipush 45, 2) := by decide +kernel
theorem dX12_readMeet_16 : decode cX12_readMeet 16 = .ok (.invokevirtual 259, 3) := by decide +kernel
theorem dX12_readMeet_19 : decode cX12_readMeet 19 = .ok (.ifCond .eq 24, 3) := by decide +kernel
theorem dX12_readMeet_22 : decode cX12_readMeet 22 = .ok (.aload_n 0, 1) := by decide +kernel
theorem dX12_readMeet_23 : decode cX12_readMeet 23 = .ok (.getfield 252, 3) := by decide +kernel
theorem dX12_readMeet_26 : decode cX12_readMeet 26 = .ok (.istore_n 1, 1) := by decide +kernel
theorem dX12_readMeet_27 : decode cX12_readMeet 27 = .ok (.aload_n 0, 1) := by decide +kernel
theorem dX12_readMeet_28 : decode cX12_readMeet 28 = .ok (.invokevirtual 262, 3) := by decide +kernel
theorem dX12_readMeet_31 : decode cX12_readMeet 31 = .ok (.aload_n 0, 1) := by decide +kernel
theorem dX12_readMeet_32 : decode cX12_readMeet 32 = .ok (.invokevirtual 312, 3) := by decide +kernel
theorem dX12_readMeet_35 : decode cX12_readMeet 35 = .ok (.aload_n 0, 1) := by decide +kernel
theorem dX12_readMeet_36 : decode cX12_readMeet 36 = .ok (.iload_n 1, 1) := by decide +kernel
theorem dX12_readMeet_37 : decode cX12_readMeet 37 = .ok (.invokevirtual 309, 3) := by decide +kernel
theorem dX12_readMeet_40 : decode cX12_readMeet 40 = .ok (.goto (-36), 3) := by decide +kernel
theorem dX12_readMeet_43 : decode cX12_readMeet 43 = .ok (.return_, 1) := by decide +kernel
theorem dX12_opens_0 : decode cX12_opens 0 = .ok (.aload_n 0, 1) := by decide +kernel
theorem dX12_opens_1 : decode cX12_opens 1 = .ok (.getfield 315, 3) := by decide +kernel
theorem dX12_opens_4 : decode cX12_opens 4 = .ok (.bipush 12, 2) := by decide +kernel
theorem dX12_opens_6 : decode cX12_opens 6 = .ok (.if_icmp .ne 11, 3) := by decide +kernel
theorem dX12_opens_9 : decode cX12_opens 9 = .ok (.aload_n 0, 1) := by decide +kernel
theorem dX12_opens_10 : decode cX12_opens 10 = .ok (.bipush 6, 2) := by decide +kernel
theorem dX12_opens_12 : decode cX12_opens 12 = .ok (.invokevirtual 268, 3) := by decide +kernel
theorem dX12_opens_15 : decode cX12_opens 15 = .ok (.iconst 0, 1) := by decide +kernel
theorem dX12_opens_16 : decode cX12_opens 16 = .ok (.ireturn, 1) := by decide +kernel
theorem dX12_opens_17 : decode cX12_opens 17 = .ok (.aload_n 0, 1) := by decide +kernel
theorem dX12_opens_18 : decode cX12_opens 18 = .ok (.dup, 1) := by decide +kernel
theorem dX12_opens_19 : decode cX12_opens 19 = .ok (.getfield 315, 3) := by decide +kernel
theorem dX12_opens_22 : decode cX12_opens 22 = .ok (.iconst 1, 1) := by decide +kernel
theorem dX12_opens_23 : decode cX12_opens 23 = .ok (.iadd, 1) := by decide +kernel
theorem dX12_opens_24 : decode cX12_opens 24 = .ok (.putfield 315, 3) := by decide +kernel
theorem dX12_opens_27 : decode cX12_opens 27 = .ok (.aload_n 0, 1) := by decide +kernel
theorem dX12_opens_28 : decode cX12_opens 28 = .ok (.invokevirtual 262, 3) := by decide +kernel
theorem dX12_opens_31 : decode cX12_opens 31 = .ok (.iconst 1, 1) := by decide +kernel
theorem dX12_opens_32 : decode cX12_opens 32 = .ok (.ireturn, 1) := by decide +kernel
theorem dX12_readPart_0 : decode cX12_readPart 0 = .ok (.aload_n 0, 1) := by decide +kernel
theorem dX12_readPart_1 : decode cX12_readPart 1 = .ok (.bipush 33, 2) := by decide +kernel
theorem dX12_readPart_3 : decode cX12_readPart 3 = .ok (.invokevirtual 259, 3) := by decide +kernel
theorem dX12_readPart_6 : decode cX12_readPart 6 = .ok (.ifCond .eq 17, 3) := by decide +kernel
theorem dX12_readPart_9 : decode cX12_readPart 9 = .ok (.aload_n 0, 1) := by decide +kernel
theorem dX12_readPart_10 : decode cX12_readPart 10 = .ok (.invokevirtual 318, 3) := by decide +kernel
theorem dX12_readPart_13 : decode cX12_readPart 13 = .ok (.ifCond .eq 10, 3) := by decide +kernel
theorem dX12_readPart_16 : decode cX12_readPart 16 = .ok (.aload_n 0, 1) := by decide +kernel
theorem dX12_readPart_17 : decode cX12_readPart 17 = .ok (.invokevirtual 322, 3) := by decide +kernel
theorem dX12_readPart_20 : decode cX12_readPart 20 = .ok (.goto 63, 3) := by decide +kernel
theorem dX12_readPart_23 : decode cX12_readPart 23 = .ok (.aload_n 0, 1) := by decide +kernel
theorem dX12_readPart_24 : decode cX12_readPart 24 = .ok (.bipush 40, 2) := by decide +kernel
theorem dX12_readPart_26 : decode cX12_readPart 26 = .ok (.invokevirtual 259, 3) := by decide +kernel
theorem dX12_readPart_29 : decode cX12_readPart 29 = .ok (.ifCond .eq 17, 3) := by decide +kernel
theorem dX12_readPart_32 : decode cX12_readPart 32 = .ok (.aload_n 0, 1) := by decide +kernel
theorem dX12_readPart_33 : decode cX12_readPart 33 = .ok (.invokevirtual 318, 3) := by decide +kernel
theorem dX12_readPart_36 : decode cX12_readPart 36 = .ok (.ifCond .eq 10, 3) := by decide +kernel
theorem dX12_readPart_39 : decode cX12_readPart 39 = .ok (.aload_n 0, 1) := by decide +kernel
theorem dX12_readPart_40 : decode cX12_readPart 40 = .ok (.invokevirtual 325, 3) := by decide +kernel
theorem dX12_readPart_43 : decode cX12_readPart 43 = .ok (.goto 40, 3) := by decide +kernel
theorem dX12_readPart_46 : decode cX12_readPart 46 = .ok (.aload_n 0, 1) := by decide +kernel
theorem dX12_readPart_47 : decode cX12_readPart 47 = .ok (.bipush 91, 2) := by decide +kernel
theorem dX12_readPart_49 : decode cX12_readPart 49 = .ok (.invokevirtual 265, 3) := by decide +kernel
theorem dX12_readPart_52 : decode cX12_readPart 52 = .ok (.ifCond .eq 10, 3) := by decide +kernel
theorem dX12_readPart_55 : decode cX12_readPart 55 = .ok (.aload_n 0, 1) := by decide +kernel
theorem dX12_readPart_56 : decode cX12_readPart 56 = .ok (.invokevirtual 328, 3) := by decide +kernel
theorem dX12_readPart_59 : decode cX12_readPart 59 = .ok (.goto 24, 3) := by decide +kernel
theorem dX12_readPart_62 : decode cX12_readPart 62 = .ok (.aload_n 0, 1) := by decide +kernel
theorem dX12_readPart_63 : decode cX12_readPart 63 = .ok (.ldc_w 299, 3) := by decide +kernel
theorem dX12_readPart_66 : decode cX12_readPart 66 = .ok (.invokevirtual 287, 3) := by decide +kernel
theorem dX12_readPart_69 : decode cX12_readPart 69 = .ok (.ifCond .eq 10, 3) := by decide +kernel
theorem dX12_readPart_72 : decode cX12_readPart 72 = .ok (.aload_n 0, 1) := by decide +kernel
theorem dX12_readPart_73 : decode cX12_readPart 73 = .ok (.invokevirtual 331, 3) := by decide +kernel
theorem dX12_readPart_76 : decode cX12_readPart 76 = .ok (.goto 7, 3) := by decide +kernel
theorem dX12_readPart_79 : decode cX12_readPart 79 = .ok (.aload_n 0, 1) := by decide +kernel
theorem dX12_readPart_80 : decode cX12_readPart 80 = .ok (.invokevirtual 334, 3) := by decide +kernel
theorem dX12_readPart_83 : decode cX12_readPart 83 = .ok (.return_, 1) := by decide +kernel
theorem dX12_readOthers_0 : decode cX12_readOthers 0 = .ok (.aload_n 0, 1) := by decide +kernel
theorem dX12_readOthers_1 : decode cX12_readOthers 1 = .ok (.invokevirtual 312, 3) := by decide +kernel
theorem dX12_readOthers_4 : decode cX12_readOthers 4 = .ok (.iconst 0, 1) := by decide +kernel
theorem dX12_readOthers_5 : decode cX12_readOthers 5 = .ok (.istore_n 1, 1) := by decide +kernel
theorem dX12_readOthers_6 : decode cX12_readOthers 6 = .ok (.iload_n 1, 1) := by decide +kernel
theorem dX12_readOthers_7 : decode cX12_readOthers 7 = .ok (.sipush 1024, 3) := by decide +kernel
theorem dX12_readOthers_10 : decode cX12_readOthers 10 = .ok (.if_icmp .ge 47, 3) := by decide +kernel
theorem dX12_readOthers_13 : decode cX12_readOthers 13 = .ok (.aload_n 0, 1) := by decide +kernel
theorem dX12_readOthers_14 : decode cX12_readOthers 14 = .ok (.getfield 17, 3) := by decide +kernel
theorem dX12_readOthers_17 : decode cX12_readOthers 17 = .ok (.aload_n 0, 1) := by decide +kernel
theorem dX12_readOthers_18 : decode cX12_readOthers 18 = .ok (.getfield 301, 3) := by decide +kernel
theorem dX12_readOthers_21 : decode cX12_readOthers 21 = .ok (.iconst 1, 1) := by decide +kernel
theorem dX12_readOthers_22 : decode cX12_readOthers 22 = .ok (.isub, 1) := by decide +kernel
theorem dX12_readOthers_23 : decode cX12_readOthers 23 = .ok (.sipush 1024, 3) := by decide +kernel
theorem dX12_readOthers_26 : decode cX12_readOthers 26 = .ok (.imul, 1) := by decide +kernel
theorem dX12_readOthers_27 : decode cX12_readOthers 27 = .ok (.iload_n 1, 1) := by decide +kernel
theorem dX12_readOthers_28 : decode cX12_readOthers 28 = .ok (.iadd, 1) := by decide +kernel
theorem dX12_readOthers_29 : decode cX12_readOthers 29 = .ok (.aload_n 0, 1) := by decide +kernel
theorem dX12_readOthers_30 : decode cX12_readOthers 30 = .ok (.getfield 17, 3) := by decide +kernel
theorem dX12_readOthers_33 : decode cX12_readOthers 33 = .ok (.aload_n 0, 1) := by decide +kernel
theorem dX12_readOthers_34 : decode cX12_readOthers 34 = .ok (.getfield 301, 3) := by decide +kernel
theorem dX12_readOthers_37 : decode cX12_readOthers 37 = .ok (.iconst 1, 1) := by decide +kernel
theorem dX12_readOthers_38 : decode cX12_readOthers 38 = .ok (.isub, 1) := by decide +kernel
theorem dX12_readOthers_39 : decode cX12_readOthers 39 = .ok (.sipush 1024, 3) := by decide +kernel
theorem dX12_readOthers_42 : decode cX12_readOthers 42 = .ok (.imul, 1) := by decide +kernel
theorem dX12_readOthers_43 : decode cX12_readOthers 43 = .ok (.iload_n 1, 1) := by decide +kernel
theorem dX12_readOthers_44 : decode cX12_readOthers 44 = .ok (.iadd, 1) := by decide +kernel
theorem dX12_readOthers_45 : decode cX12_readOthers 45 = .ok (.laload, 1) := by decide +kernel
theorem dX12_readOthers_46 : decode cX12_readOthers 46 = .ok (.ldc2_w 304, 3) := by decide +kernel
theorem dX12_readOthers_49 : decode cX12_readOthers 49 = .ok (.lxor, 1) := by decide +kernel
theorem dX12_readOthers_50 : decode cX12_readOthers 50 = .ok (.lastore, 1) := by decide +kernel
theorem dX12_readOthers_51 : decode cX12_readOthers 51 = .ok (.iinc 1 1, 3) := by decide +kernel
theorem dX12_readOthers_54 : decode cX12_readOthers 54 = .ok (.goto (-48), 3) := by decide +kernel
theorem dX12_readOthers_57 : decode cX12_readOthers 57 = .ok (.aload_n 0, 1) := by decide +kernel
theorem dX12_readOthers_58 : decode cX12_readOthers 58 = .ok (.dup, 1) := by decide +kernel
theorem dX12_readOthers_59 : decode cX12_readOthers 59 = .ok (.getfield 315, 3) := by decide +kernel
theorem dX12_readOthers_62 : decode cX12_readOthers 62 = .ok (.iconst 1, 1) := by decide +kernel
theorem dX12_readOthers_63 : decode cX12_readOthers 63 = .ok (.isub, 1) := by decide +kernel
theorem dX12_readOthers_64 : decode cX12_readOthers 64 = .ok (.putfield 315, 3) := by decide +kernel
theorem dX12_readOthers_67 : decode cX12_readOthers 67 = .ok (.return_, 1) := by decide +kernel
theorem dX12_readInner_0 : decode cX12_readInner 0 = .ok (.aload_n 0, 1) := by decide +kernel
theorem dX12_readInner_1 : decode cX12_readInner 1 = .ok (.invokevirtual 337, 3) := by decide +kernel
theorem dX12_readInner_4 : decode cX12_readInner 4 = .ok (.aload_n 0, 1) := by decide +kernel
theorem dX12_readInner_5 : decode cX12_readInner 5 = .ok (.bipush 41, 2) := by decide +kernel
theorem dX12_readInner_7 : decode cX12_readInner 7 = .ok (.invokevirtual 340, 3) := by decide +kernel
theorem dX12_readInner_10 : decode cX12_readInner 10 = .ok (.aload_n 0, 1) := by decide +kernel
theorem dX12_readInner_11 : decode cX12_readInner 11 = .ok (.dup, 1) := by decide +kernel
theorem dX12_readInner_12 : decode cX12_readInner 12 = .ok (.getfield 315, 3) := by decide +kernel
theorem dX12_readInner_15 : decode cX12_readInner 15 = .ok (.iconst 1, 1) := by decide +kernel
theorem dX12_readInner_16 : decode cX12_readInner 16 = .ok (.isub, 1) := by decide +kernel
theorem dX12_readInner_17 : decode cX12_readInner 17 = .ok (.putfield 315, 3) := by decide +kernel
theorem dX12_readInner_20 : decode cX12_readInner 20 = .ok (.return_, 1) := by decide +kernel
theorem dX12_readAny_0 : decode cX12_readAny 0 = .ok (.aload_n 0, 1) := by decide +kernel
theorem dX12_readAny_1 : decode cX12_readAny 1 = .ok (.ldc2_w 304, 3) := by decide +kernel
theorem dX12_readAny_4 : decode cX12_readAny 4 = .ok (.invokevirtual 343, 3) := by decide +kernel
theorem dX12_readAny_7 : decode cX12_readAny 7 = .ok (.aload_n 0, 1) := by decide +kernel
theorem dX12_readAny_8 : decode cX12_readAny 8 = .ok (.invokevirtual 262, 3) := by decide +kernel
theorem dX12_readAny_11 : decode cX12_readAny 11 = .ok (.return_, 1) := by decide +kernel
theorem dX12_readRanges_0 : decode cX12_readRanges 0 = .ok (.aload_n 0, 1) := by decide +kernel
theorem dX12_readRanges_1 : decode cX12_readRanges 1 = .ok (.lconst 0, 1) := by decide +kernel
theorem dX12_readRanges_2 : decode cX12_readRanges 2 = .ok (.invokevirtual 343, 3) := by decide +kernel
theorem dX12_readRanges_5 : decode cX12_readRanges 5 = .ok (.aload_n 0, 1) := by decide +kernel
theorem dX12_readRanges_6 : decode cX12_readRanges 6 = .ok (.invokevirtual 347, 3) := by decide +kernel
theorem dX12_readRanges_9 : decode cX12_readRanges 9 = .ok (.aload_n 0, 1) := by decide +kernel
theorem dX12_readRanges_10 : decode cX12_readRanges 10 = .ok (.bipush 44, 2) := by decide +kernel
theorem dX12_readRanges_12 : decode cX12_readRanges 12 = .ok (.invokevirtual 265, 3) := by decide +kernel
theorem dX12_readRanges_15 : decode cX12_readRanges 15 = .ok (.ifCond .eq 10, 3) := by decide +kernel
theorem dX12_readRanges_18 : decode cX12_readRanges 18 = .ok (.aload_n 0, 1) := by decide +kernel
theorem dX12_readRanges_19 : decode cX12_readRanges 19 = .ok (.invokevirtual 347, 3) := by decide +kernel
theorem dX12_readRanges_22 : decode cX12_readRanges 22 = .ok (.goto (-13), 3) := by decide +kernel
theorem dX12_readRanges_25 : decode cX12_readRanges 25 = .ok (.aload_n 0, 1) := by decide +kernel
theorem dX12_readRanges_26 : decode cX12_readRanges 26 = .ok (.bipush 93, 2) := by decide +kernel
theorem dX12_readRanges_28 : decode cX12_readRanges 28 = .ok (.invokevirtual 340, 3) := by decide +kernel
theorem dX12_readRanges_31 : decode cX12_readRanges 31 = .ok (.return_, 1) := by decide +kernel
theorem dX12_readRange_0 : decode cX12_readRange 0 = .ok (.aload_n 0, 1) := by decide +kernel
theorem dX12_readRange_1 : decode cX12_readRange 1 = .ok (.iconst 0, 1) := by decide +kernel
theorem dX12_readRange_2 : decode cX12_readRange 2 = .ok (.ldc 200, 2) := by decide +kernel
theorem dX12_readRange_4 : decode cX12_readRange 4 = .ok (.invokevirtual 350, 3) := by decide +kernel
theorem dX12_readRange_7 : decode cX12_readRange 7 = .ok (.istore_n 1, 1) := by decide +kernel
theorem dX12_readRange_8 : decode cX12_readRange 8 = .ok (.iload_n 1, 1) := by decide +kernel
theorem dX12_readRange_9 : decode cX12_readRange 9 = .ok (.istore_n 2, 1) := by decide +kernel
theorem dX12_readRange_10 : decode cX12_readRange 10 = .ok (.aload_n 0, 1) := by decide +kernel
theorem dX12_readRange_11 : decode cX12_readRange 11 = .ok (.getfield 208, 3) := by decide +kernel
theorem dX12_readRange_14 : decode cX12_readRange 14 = .ok (.ifCond .ne 23, 3) := by decide +kernel
theorem dX12_readRange_17 : decode cX12_readRange 17 = .ok (.aload_n 0, 1) := by decide +kernel
theorem dX12_readRange_18 : decode cX12_readRange 18 = .ok (.getfield 220, 3) := by decide +kernel
theorem dX12_readRange_21 : decode cX12_readRange 21 = .ok (.iconst 4, 1) := by decide +kernel
theorem dX12_readRange_22 : decode cX12_readRange 22 = .ok (.if_icmp .ne 15, 3) := by decide +kernel
theorem dX12_readRange_25 : decode cX12_readRange 25 = .ok (.aload_n 0, 1) := by decide +kernel
theorem dX12_readRange_26 : decode cX12_readRange 26 = .ok (.invokevirtual 262, 3) := by decide +kernel
theorem dX12_readRange_29 : decode cX12_readRange 29 = .ok (.aload_n 0, 1) := by decide +kernel
theorem dX12_readRange_30 : decode cX12_readRange 30 = .ok (.iload_n 1, 1) := by decide +kernel
theorem dX12_readRange_31 : decode cX12_readRange 31 = .ok (.ldc 200, 2) := by decide +kernel
theorem dX12_readRange_33 : decode cX12_readRange 33 = .ok (.invokevirtual 350, 3) := by decide +kernel
theorem dX12_readRange_36 : decode cX12_readRange 36 = .ok (.istore_n 2, 1) := by decide +kernel
theorem dX12_readRange_37 : decode cX12_readRange 37 = .ok (.aload_n 0, 1) := by decide +kernel
theorem dX12_readRange_38 : decode cX12_readRange 38 = .ok (.getfield 208, 3) := by decide +kernel
theorem dX12_readRange_41 : decode cX12_readRange 41 = .ok (.ifCond .ne 9, 3) := by decide +kernel
theorem dX12_readRange_44 : decode cX12_readRange 44 = .ok (.aload_n 0, 1) := by decide +kernel
theorem dX12_readRange_45 : decode cX12_readRange 45 = .ok (.iload_n 1, 1) := by decide +kernel
theorem dX12_readRange_46 : decode cX12_readRange 46 = .ok (.iload_n 2, 1) := by decide +kernel
theorem dX12_readRange_47 : decode cX12_readRange 47 = .ok (.invokevirtual 354, 3) := by decide +kernel
theorem dX12_readRange_50 : decode cX12_readRange 50 = .ok (.return_, 1) := by decide +kernel
theorem dX12_readNamed_0 : decode cX12_readNamed 0 = .ok (.aload_n 0, 1) := by decide +kernel
theorem dX12_readNamed_1 : decode cX12_readNamed 1 = .ok (.lconst 0, 1) := by decide +kernel
theorem dX12_readNamed_2 : decode cX12_readNamed 2 = .ok (.invokevirtual 343, 3) := by decide +kernel
theorem dX12_readNamed_5 : decode cX12_readNamed 5 = .ok (.aload_n 0, 1) := by decide +kernel
theorem dX12_readNamed_6 : decode cX12_readNamed 6 = .ok (.invokevirtual 357, 3) := by decide +kernel
theorem dX12_readNamed_9 : decode cX12_readNamed 9 = .ok (.ifCond .ne 8, 3) := by decide +kernel
theorem dX12_readNamed_12 : decode cX12_readNamed 12 = .ok (.aload_n 0, 1) := by decide +kernel
theorem dX12_readNamed_13 : decode cX12_readNamed 13 = .ok (.iconst 1, 1) := by decide +kernel
theorem dX12_readNamed_14 : decode cX12_readNamed 14 = .ok (.invokevirtual 268, 3) := by decide +kernel
theorem dX12_readNamed_17 : decode cX12_readNamed 17 = .ok (.aload_n 0, 1) := by decide +kernel
theorem dX12_readNamed_18 : decode cX12_readNamed 18 = .ok (.invokevirtual 360, 3) := by decide +kernel
theorem dX12_readNamed_21 : decode cX12_readNamed 21 = .ok (.istore_n 1, 1) := by decide +kernel
theorem dX12_readNamed_22 : decode cX12_readNamed 22 = .ok (.iload_n 1, 1) := by decide +kernel
theorem dX12_readNamed_23 : decode cX12_readNamed 23 = .ok (.iconst (-1), 1) := by decide +kernel
theorem dX12_readNamed_24 : decode cX12_readNamed 24 = .ok (.if_icmp .ne 8, 3) := by decide +kernel
theorem dX12_readNamed_27 : decode cX12_readNamed 27 = .ok (.aload_n 0, 1) := by decide +kernel
theorem dX12_readNamed_28 : decode cX12_readNamed 28 = .ok (.iconst 2, 1) := by decide +kernel
theorem dX12_readNamed_29 : decode cX12_readNamed 29 = .ok (.invokevirtual 268, 3) := by decide +kernel
theorem dX12_readNamed_32 : decode cX12_readNamed 32 = .ok (.aload_n 0, 1) := by decide +kernel
theorem dX12_readNamed_33 : decode cX12_readNamed 33 = .ok (.getfield 208, 3) := by decide +kernel
theorem dX12_readNamed_36 : decode cX12_readNamed 36 = .ok (.ifCond .le 4, 3) := by decide +kernel
theorem dX12_readNamed_39 : decode cX12_readNamed 39 = .ok (.return_, 1) := by decide +kernel
theorem dX12_readNamed_40 : decode cX12_readNamed 40 = .ok (.iconst 0, 1) := by decide +kernel
theorem dX12_readNamed_41 : decode cX12_readNamed 41 = .ok (.istore_n 2, 1) := by decide +kernel
theorem dX12_readNamed_42 : decode cX12_readNamed 42 = .ok (.iload_n 2, 1) := by decide +kernel
theorem dX12_readNamed_43 : decode cX12_readNamed 43 = .ok (.aload_n 0, 1) := by decide +kernel
theorem dX12_readNamed_44 : decode cX12_readNamed 44 = .ok (.getfield 28, 3) := by decide +kernel
theorem dX12_readNamed_47 : decode cX12_readNamed 47 = .ok (.bipush 12, 2) := by decide +kernel
theorem dX12_readNamed_49 : decode cX12_readNamed 49 = .ok (.iload_n 1, 1) := by decide +kernel
theorem dX12_readNamed_50 : decode cX12_readNamed 50 = .ok (.iadd, 1) := by decide +kernel
theorem dX12_readNamed_51 : decode cX12_readNamed 51 = .ok (.iaload, 1) := by decide +kernel
theorem dX12_readNamed_52 : decode cX12_readNamed 52 = .ok (.if_icmp .ge 41, 3) := by decide +kernel
theorem dX12_readNamed_55 : decode cX12_readNamed 55 = .ok (.aload_n 0, 1) := by decide +kernel
theorem dX12_readNamed_56 : decode cX12_readNamed 56 = .ok (.aload_n 0, 1) := by decide +kernel
theorem dX12_readNamed_57 : decode cX12_readNamed 57 = .ok (.getfield 31, 3) := by decide +kernel
theorem dX12_readNamed_60 : decode cX12_readNamed 60 = .ok (.bipush 12, 2) := by decide +kernel
theorem dX12_readNamed_62 : decode cX12_readNamed 62 = .ok (.iload_n 1, 1) := by decide +kernel
theorem dX12_readNamed_63 : decode cX12_readNamed 63 = .ok (.iadd, 1) := by decide +kernel
theorem dX12_readNamed_64 : decode cX12_readNamed 64 = .ok (.bipush 24, 2) := by decide +kernel
theorem dX12_readNamed_66 : decode cX12_readNamed 66 = .ok (.imul, 1) := by decide +kernel
theorem dX12_readNamed_67 : decode cX12_readNamed 67 = .ok (.iload_n 2, 1) := by decide +kernel
theorem dX12_readNamed_68 : decode cX12_readNamed 68 = .ok (.iadd, 1) := by decide +kernel
theorem dX12_readNamed_69 : decode cX12_readNamed 69 = .ok (.iaload, 1) := by decide +kernel
theorem dX12_readNamed_70 : decode cX12_readNamed 70 = .ok (.aload_n 0, 1) := by decide +kernel
theorem dX12_readNamed_71 : decode cX12_readNamed 71 = .ok (.getfield 34, 3) := by decide +kernel
theorem dX12_readNamed_74 : decode cX12_readNamed 74 = .ok (.bipush 12, 2) := by decide +kernel
theorem dX12_readNamed_76 : decode cX12_readNamed 76 = .ok (.iload_n 1, 1) := by decide +kernel
theorem dX12_readNamed_77 : decode cX12_readNamed 77 = .ok (.iadd, 1) := by decide +kernel
theorem dX12_readNamed_78 : decode cX12_readNamed 78 = .ok (.bipush 24, 2) := by decide +kernel
theorem dX12_readNamed_80 : decode cX12_readNamed 80 = .ok (.imul, 1) := by decide +kernel
theorem dX12_readNamed_81 : decode cX12_readNamed 81 = .ok (.iload_n 2, 1) := by decide +kernel
theorem dX12_readNamed_82 : decode cX12_readNamed 82 = .ok (.iadd, 1) := by decide +kernel
theorem dX12_readNamed_83 : decode cX12_readNamed 83 = .ok (.iaload, 1) := by decide +kernel
theorem dX12_readNamed_84 : decode cX12_readNamed 84 = .ok (.invokevirtual 354, 3) := by decide +kernel
theorem dX12_readNamed_87 : decode cX12_readNamed 87 = .ok (.iinc 2 1, 3) := by decide +kernel
theorem dX12_readNamed_90 : decode cX12_readNamed 90 = .ok (.goto (-48), 3) := by decide +kernel
theorem dX12_readNamed_93 : decode cX12_readNamed 93 = .ok (.aload_n 0, 1) := by decide +kernel
theorem dX12_readNamed_94 : decode cX12_readNamed 94 = .ok (.invokevirtual 262, 3) := by decide +kernel
theorem dX12_readNamed_97 : decode cX12_readNamed 97 = .ok (.return_, 1) := by decide +kernel
theorem dX12_named_0 : decode cX12_named 0 = .ok (.iconst 0, 1) := by decide +kernel
theorem dX12_named_1 : decode cX12_named 1 = .ok (.istore_n 1, 1) := by decide +kernel
theorem dX12_named_2 : decode cX12_named 2 = .ok (.iload_n 1, 1) := by decide +kernel
theorem dX12_named_3 : decode cX12_named 3 = .ok (.aload_n 0, 1) := by decide +kernel
theorem dX12_named_4 : decode cX12_named 4 = .ok (.getfield 363, 3) := by decide +kernel
theorem dX12_named_7 : decode cX12_named 7 = .ok (.if_icmp .ge 25, 3) := by decide +kernel
theorem dX12_named_10 : decode cX12_named 10 = .ok (.aload_n 0, 1) := by decide +kernel
theorem dX12_named_11 : decode cX12_named 11 = .ok (.getfield 37, 3) := by decide +kernel
theorem dX12_named_14 : decode cX12_named 14 = .ok (.iload_n 1, 1) := by decide +kernel
theorem dX12_named_15 : decode cX12_named 15 = .ok (.laload, 1) := by decide +kernel
theorem dX12_named_16 : decode cX12_named 16 = .ok (.aload_n 0, 1) := by decide +kernel
theorem dX12_named_17 : decode cX12_named 17 = .ok (.getfield 246, 3) := by decide +kernel
theorem dX12_named_20 : decode cX12_named 20 = .ok (.lcmp, 1) := by decide +kernel
theorem dX12_named_21 : decode cX12_named 21 = .ok (.ifCond .ne 5, 3) := by decide +kernel
theorem dX12_named_24 : decode cX12_named 24 = .ok (.iload_n 1, 1) := by decide +kernel
theorem dX12_named_25 : decode cX12_named 25 = .ok (.ireturn, 1) := by decide +kernel
theorem dX12_named_26 : decode cX12_named 26 = .ok (.iinc 1 1, 3) := by decide +kernel
theorem dX12_named_29 : decode cX12_named 29 = .ok (.goto (-27), 3) := by decide +kernel
theorem dX12_named_32 : decode cX12_named 32 = .ok (.iconst (-1), 1) := by decide +kernel
theorem dX12_named_33 : decode cX12_named 33 = .ok (.ireturn, 1) := by decide +kernel
theorem dX12_bitAt_0 : decode cX12_bitAt 0 = .ok (.aload_n 0, 1) := by decide +kernel
theorem dX12_bitAt_1 : decode cX12_bitAt 1 = .ok (.getfield 17, 3) := by decide +kernel
theorem dX12_bitAt_4 : decode cX12_bitAt 4 = .ok (.iload_n 1, 1) := by decide +kernel
theorem dX12_bitAt_5 : decode cX12_bitAt 5 = .ok (.bipush 64, 2) := by decide +kernel
theorem dX12_bitAt_7 : decode cX12_bitAt 7 = .ok (.idiv, 1) := by decide +kernel
theorem dX12_bitAt_8 : decode cX12_bitAt 8 = .ok (.laload, 1) := by decide +kernel
theorem dX12_bitAt_9 : decode cX12_bitAt 9 = .ok (.iload_n 1, 1) := by decide +kernel
theorem dX12_bitAt_10 : decode cX12_bitAt 10 = .ok (.bipush 64, 2) := by decide +kernel
theorem dX12_bitAt_12 : decode cX12_bitAt 12 = .ok (.irem, 1) := by decide +kernel
theorem dX12_bitAt_13 : decode cX12_bitAt 13 = .ok (.invokestatic 366, 3) := by decide +kernel
theorem dX12_bitAt_16 : decode cX12_bitAt 16 = .ok (.ireturn, 1) := by decide +kernel
theorem dX12_readSet_0 : decode cX12_readSet 0 = .ok (.aload_n 0, 1) := by decide +kernel
theorem dX12_readSet_1 : decode cX12_readSet 1 = .ok (.getfield 217, 3) := by decide +kernel
theorem dX12_readSet_4 : decode cX12_readSet 4 = .ok (.istore_n 1, 1) := by decide +kernel
theorem dX12_readSet_5 : decode cX12_readSet 5 = .ok (.aload_n 0, 1) := by decide +kernel
theorem dX12_readSet_6 : decode cX12_readSet 6 = .ok (.iconst 0, 1) := by decide +kernel
theorem dX12_readSet_7 : decode cX12_readSet 7 = .ok (.putfield 301, 3) := by decide +kernel
theorem dX12_readSet_10 : decode cX12_readSet 10 = .ok (.aload_n 0, 1) := by decide +kernel
theorem dX12_readSet_11 : decode cX12_readSet 11 = .ok (.iconst 0, 1) := by decide +kernel
theorem dX12_readSet_12 : decode cX12_readSet 12 = .ok (.putfield 315, 3) := by decide +kernel
theorem dX12_readSet_15 : decode cX12_readSet 15 = .ok (.aload_n 0, 1) := by decide +kernel
theorem dX12_readSet_16 : decode cX12_readSet 16 = .ok (.iconst 0, 1) := by decide +kernel
theorem dX12_readSet_17 : decode cX12_readSet 17 = .ok (.putfield 370, 3) := by decide +kernel
theorem dX12_readSet_20 : decode cX12_readSet 20 = .ok (.aload_n 0, 1) := by decide +kernel
theorem dX12_readSet_21 : decode cX12_readSet 21 = .ok (.invokevirtual 337, 3) := by decide +kernel
theorem dX12_readSet_24 : decode cX12_readSet 24 = .ok (.aload_n 0, 1) := by decide +kernel
theorem dX12_readSet_25 : decode cX12_readSet 25 = .ok (.getfield 208, 3) := by decide +kernel
theorem dX12_readSet_28 : decode cX12_readSet 28 = .ok (.ifCond .le 4, 3) := by decide +kernel
theorem dX12_readSet_31 : decode cX12_readSet 31 = .ok (.return_, 1) := by decide +kernel
theorem dX12_readSet_32 : decode cX12_readSet 32 = .ok (.iconst 0, 1) := by decide +kernel
theorem dX12_readSet_33 : decode cX12_readSet 33 = .ok (.istore_n 2, 1) := by decide +kernel
theorem dX12_readSet_34 : decode cX12_readSet 34 = .ok (.iload_n 2, 1) := by decide +kernel
theorem dX12_readSet_35 : decode cX12_readSet 35 = .ok (.ldc_w 373, 3) := by decide +kernel
theorem dX12_readSet_38 : decode cX12_readSet 38 = .ok (.if_icmp .ge 55, 3) := by decide +kernel
theorem dX12_readSet_41 : decode cX12_readSet 41 = .ok (.aload_n 0, 1) := by decide +kernel
theorem dX12_readSet_42 : decode cX12_readSet 42 = .ok (.getfield 17, 3) := by decide +kernel
theorem dX12_readSet_45 : decode cX12_readSet 45 = .ok (.iload_n 2, 1) := by decide +kernel
theorem dX12_readSet_46 : decode cX12_readSet 46 = .ok (.bipush 64, 2) := by decide +kernel
theorem dX12_readSet_48 : decode cX12_readSet 48 = .ok (.idiv, 1) := by decide +kernel
theorem dX12_readSet_49 : decode cX12_readSet 49 = .ok (.laload, 1) := by decide +kernel
theorem dX12_readSet_50 : decode cX12_readSet 50 = .ok (.lstore_n 3, 1) := by decide +kernel
theorem dX12_readSet_51 : decode cX12_readSet 51 = .ok (.iload_n 2, 1) := by decide +kernel
theorem dX12_readSet_52 : decode cX12_readSet 52 = .ok (.bipush 64, 2) := by decide +kernel
theorem dX12_readSet_54 : decode cX12_readSet 54 = .ok (.irem, 1) := by decide +kernel
theorem dX12_readSet_55 : decode cX12_readSet 55 = .ok (.ifCond .ne 15, 3) := by decide +kernel
theorem dX12_readSet_58 : decode cX12_readSet 58 = .ok (.lload_n 3, 1) := by decide +kernel
theorem dX12_readSet_59 : decode cX12_readSet 59 = .ok (.lconst 0, 1) := by decide +kernel
theorem dX12_readSet_60 : decode cX12_readSet 60 = .ok (.lcmp, 1) := by decide +kernel
theorem dX12_readSet_61 : decode cX12_readSet 61 = .ok (.ifCond .ne 9, 3) := by decide +kernel
theorem dX12_readSet_64 : decode cX12_readSet 64 = .ok (.iinc 2 64, 3) := by decide +kernel
theorem dX12_readSet_67 : decode cX12_readSet 67 = .ok (.goto 23, 3) := by decide +kernel
theorem dX12_readSet_70 : decode cX12_readSet 70 = .ok (.aload_n 0, 1) := by decide +kernel
theorem dX12_readSet_71 : decode cX12_readSet 71 = .ok (.iload_n 2, 1) := by decide +kernel
theorem dX12_readSet_72 : decode cX12_readSet 72 = .ok (.invokevirtual 374, 3) := by decide +kernel
theorem dX12_readSet_75 : decode cX12_readSet 75 = .ok (.ifCond .ne 9, 3) := by decide +kernel
theorem dX12_readSet_78 : decode cX12_readSet 78 = .ok (.iinc 2 1, 3) := by decide +kernel
theorem dX12_readSet_81 : decode cX12_readSet 81 = .ok (.goto 9, 3) := by decide +kernel
theorem dX12_readSet_84 : decode cX12_readSet 84 = .ok (.aload_n 0, 1) := by decide +kernel
theorem dX12_readSet_85 : decode cX12_readSet 85 = .ok (.iload_n 2, 1) := by decide +kernel
theorem dX12_readSet_86 : decode cX12_readSet 86 = .ok (.invokevirtual 377, 3) := by decide +kernel
theorem dX12_readSet_89 : decode cX12_readSet 89 = .ok (.istore_n 2, 1) := by decide +kernel
theorem dX12_readSet_90 : decode cX12_readSet 90 = .ok (.goto (-56), 3) := by decide +kernel
theorem dX12_readSet_93 : decode cX12_readSet 93 = .ok (.aload_n 0, 1) := by decide +kernel
theorem dX12_readSet_94 : decode cX12_readSet 94 = .ok (.getfield 370, 3) := by decide +kernel
theorem dX12_readSet_97 : decode cX12_readSet 97 = .ok (.bipush 24, 2) := by decide +kernel
theorem dX12_readSet_99 : decode cX12_readSet 99 = .ok (.if_icmp .le 9, 3) := by decide +kernel
theorem dX12_readSet_102 : decode cX12_readSet 102 = .ok (.aload_n 0, 1) := by decide +kernel
theorem dX12_readSet_103 : decode cX12_readSet 103 = .ok (.iconst 5, 1) := by decide +kernel
theorem dX12_readSet_104 : decode cX12_readSet 104 = .ok (.iload_n 1, 1) := by decide +kernel
theorem dX12_readSet_105 : decode cX12_readSet 105 = .ok (.invokevirtual 255, 3) := by decide +kernel
theorem dX12_readSet_108 : decode cX12_readSet 108 = .ok (.return_, 1) := by decide +kernel
theorem dX12_foundRange_0 : decode cX12_foundRange 0 = .ok (.iload_n 1, 1) := by decide +kernel
theorem dX12_foundRange_1 : decode cX12_foundRange 1 = .ok (.istore_n 2, 1) := by decide +kernel
theorem dX12_foundRange_2 : decode cX12_foundRange 2 = .ok (.iload_n 2, 1) := by decide +kernel
theorem dX12_foundRange_3 : decode cX12_foundRange 3 = .ok (.ldc_w 373, 3) := by decide +kernel
theorem dX12_foundRange_6 : decode cX12_foundRange 6 = .ok (.if_icmp .ge 46, 3) := by decide +kernel
theorem dX12_foundRange_9 : decode cX12_foundRange 9 = .ok (.aload_n 0, 1) := by decide +kernel
theorem dX12_foundRange_10 : decode cX12_foundRange 10 = .ok (.iload_n 2, 1) := by decide +kernel
theorem dX12_foundRange_11 : decode cX12_foundRange 11 = .ok (.invokevirtual 374, 3) := by decide +kernel
theorem dX12_foundRange_14 : decode cX12_foundRange 14 = .ok (.ifCond .eq 38, 3) := by decide +kernel
theorem dX12_foundRange_17 : decode cX12_foundRange 17 = .ok (.iload_n 2, 1) := by decide +kernel
theorem dX12_foundRange_18 : decode cX12_foundRange 18 = .ok (.iload_n 2, 1) := by decide +kernel
theorem dX12_foundRange_19 : decode cX12_foundRange 19 = .ok (.bipush 64, 2) := by decide +kernel
theorem dX12_foundRange_21 : decode cX12_foundRange 21 = .ok (.irem, 1) := by decide +kernel
theorem dX12_foundRange_22 : decode cX12_foundRange 22 = .ok (.ifCond .ne 24, 3) := by decide +kernel
theorem dX12_foundRange_25 : decode cX12_foundRange 25 = .ok (.aload_n 0, 1) := by decide +kernel
theorem dX12_foundRange_26 : decode cX12_foundRange 26 = .ok (.getfield 17, 3) := by decide +kernel
theorem dX12_foundRange_29 : decode cX12_foundRange 29 = .ok (.iload_n 2, 1) := by decide +kernel
theorem dX12_foundRange_30 : decode cX12_foundRange 30 = .ok (.bipush 64, 2) := by decide +kernel
theorem dX12_foundRange_32 : decode cX12_foundRange 32 = .ok (.idiv, 1) := by decide +kernel
theorem dX12_foundRange_33 : decode cX12_foundRange 33 = .ok (.laload, 1) := by decide +kernel
theorem dX12_foundRange_34 : decode cX12_foundRange 34 = .ok (.ldc2_w 304, 3) := by decide +kernel
theorem dX12_foundRange_37 : decode cX12_foundRange 37 = .ok (.lcmp, 1) := by decide +kernel
theorem dX12_foundRange_38 : decode cX12_foundRange 38 = .ok (.ifCond .ne 8, 3) := by decide +kernel
theorem dX12_foundRange_41 : decode cX12_foundRange 41 = .ok (.bipush 64, 2) := by decide +kernel
theorem dX12_foundRange_43 : decode cX12_foundRange 43 = .ok (.goto 4, 3) := by decide +kernel
theorem dX12_foundRange_46 : decode cX12_foundRange 46 = .ok (.iconst 1, 1) := by decide +kernel
theorem dX12_foundRange_47 : decode cX12_foundRange 47 = .ok (.iadd, 1) := by decide +kernel
theorem dX12_foundRange_48 : decode cX12_foundRange 48 = .ok (.istore_n 2, 1) := by decide +kernel
theorem dX12_foundRange_49 : decode cX12_foundRange 49 = .ok (.goto (-47), 3) := by decide +kernel
theorem dX12_foundRange_52 : decode cX12_foundRange 52 = .ok (.aload_n 0, 1) := by decide +kernel
theorem dX12_foundRange_53 : decode cX12_foundRange 53 = .ok (.getfield 370, 3) := by decide +kernel
theorem dX12_foundRange_56 : decode cX12_foundRange 56 = .ok (.bipush 24, 2) := by decide +kernel
theorem dX12_foundRange_58 : decode cX12_foundRange 58 = .ok (.if_icmp .ge 25, 3) := by decide +kernel
theorem dX12_foundRange_61 : decode cX12_foundRange 61 = .ok (.aload_n 0, 1) := by decide +kernel
theorem dX12_foundRange_62 : decode cX12_foundRange 62 = .ok (.getfield 21, 3) := by decide +kernel
theorem dX12_foundRange_65 : decode cX12_foundRange 65 = .ok (.aload_n 0, 1) := by decide +kernel
theorem dX12_foundRange_66 : decode cX12_foundRange 66 = .ok (.getfield 370, 3) := by decide +kernel
theorem dX12_foundRange_69 : decode cX12_foundRange 69 = .ok (.iload_n 1, 1) := by decide +kernel
theorem dX12_foundRange_70 : decode cX12_foundRange 70 = .ok (.iastore, 1) := by decide +kernel
theorem dX12_foundRange_71 : decode cX12_foundRange 71 = .ok (.aload_n 0, 1) := by decide +kernel
theorem dX12_foundRange_72 : decode cX12_foundRange 72 = .ok (.getfield 25, 3) := by decide +kernel
theorem dX12_foundRange_75 : decode cX12_foundRange 75 = .ok (.aload_n 0, 1) := by decide +kernel
theorem dX12_foundRange_76 : decode cX12_foundRange 76 = .ok (.getfield 370, 3) := by decide +kernel
theorem dX12_foundRange_79 : decode cX12_foundRange 79 = .ok (.iload_n 2, 1) := by decide +kernel
theorem dX12_foundRange_80 : decode cX12_foundRange 80 = .ok (.iconst 1, 1) := by decide +kernel
theorem dX12_foundRange_81 : decode cX12_foundRange 81 = .ok (.isub, 1) := by decide +kernel
theorem dX12_foundRange_82 : decode cX12_foundRange 82 = .ok (.iastore, 1) := by decide +kernel
theorem dX12_foundRange_83 : decode cX12_foundRange 83 = .ok (.aload_n 0, 1) := by decide +kernel
theorem dX12_foundRange_84 : decode cX12_foundRange 84 = .ok (.dup, 1) := by decide +kernel
theorem dX12_foundRange_85 : decode cX12_foundRange 85 = .ok (.getfield 370, 3) := by decide +kernel
theorem dX12_foundRange_88 : decode cX12_foundRange 88 = .ok (.iconst 1, 1) := by decide +kernel
theorem dX12_foundRange_89 : decode cX12_foundRange 89 = .ok (.iadd, 1) := by decide +kernel
theorem dX12_foundRange_90 : decode cX12_foundRange 90 = .ok (.putfield 370, 3) := by decide +kernel
theorem dX12_foundRange_93 : decode cX12_foundRange 93 = .ok (.iload_n 2, 1) := by decide +kernel
theorem dX12_foundRange_94 : decode cX12_foundRange 94 = .ok (.ireturn, 1) := by decide +kernel
theorem dX12_readAll_0 : decode cX12_readAll 0 = .ok (.aload_n 0, 1) := by decide +kernel
theorem dX12_readAll_1 : decode cX12_readAll 1 = .ok (.invokevirtual 380, 3) := by decide +kernel
theorem dX12_readAll_4 : decode cX12_readAll 4 = .ok (.aload_n 0, 1) := by decide +kernel
theorem dX12_readAll_5 : decode cX12_readAll 5 = .ok (.bipush 59, 2) := by decide +kernel
theorem dX12_readAll_7 : decode cX12_readAll 7 = .ok (.invokevirtual 265, 3) := by decide +kernel
theorem dX12_readAll_10 : decode cX12_readAll 10 = .ok (.ifCond .eq 10, 3) := by decide +kernel
theorem dX12_readAll_13 : decode cX12_readAll 13 = .ok (.aload_n 0, 1) := by decide +kernel
theorem dX12_readAll_14 : decode cX12_readAll 14 = .ok (.invokevirtual 380, 3) := by decide +kernel
theorem dX12_readAll_17 : decode cX12_readAll 17 = .ok (.goto (-13), 3) := by decide +kernel
theorem dX12_readAll_20 : decode cX12_readAll 20 = .ok (.aload_n 0, 1) := by decide +kernel
theorem dX12_readAll_21 : decode cX12_readAll 21 = .ok (.getfield 220, 3) := by decide +kernel
theorem dX12_readAll_24 : decode cX12_readAll 24 = .ok (.iconst 1, 1) := by decide +kernel
theorem dX12_readAll_25 : decode cX12_readAll 25 = .ok (.if_icmp .eq 8, 3) := by decide +kernel
theorem dX12_readAll_28 : decode cX12_readAll 28 = .ok (.aload_n 0, 1) := by decide +kernel
theorem dX12_readAll_29 : decode cX12_readAll 29 = .ok (.iconst 1, 1) := by decide +kernel
theorem dX12_readAll_30 : decode cX12_readAll 30 = .ok (.invokevirtual 268, 3) := by decide +kernel
theorem dX12_readAll_33 : decode cX12_readAll 33 = .ok (.aload_n 0, 1) := by decide +kernel
theorem dX12_readAll_34 : decode cX12_readAll 34 = .ok (.getfield 383, 3) := by decide +kernel
theorem dX12_readAll_37 : decode cX12_readAll 37 = .ok (.ifCond .ne 9, 3) := by decide +kernel
theorem dX12_readAll_40 : decode cX12_readAll 40 = .ok (.aload_n 0, 1) := by decide +kernel
theorem dX12_readAll_41 : decode cX12_readAll 41 = .ok (.bipush 7, 2) := by decide +kernel
theorem dX12_readAll_43 : decode cX12_readAll 43 = .ok (.invokevirtual 268, 3) := by decide +kernel
theorem dX12_readAll_46 : decode cX12_readAll 46 = .ok (.iconst 0, 1) := by decide +kernel
theorem dX12_readAll_47 : decode cX12_readAll 47 = .ok (.istore_n 1, 1) := by decide +kernel
theorem dX12_readAll_48 : decode cX12_readAll 48 = .ok (.iload_n 1, 1) := by decide +kernel
theorem dX12_readAll_49 : decode cX12_readAll 49 = .ok (.aload_n 0, 1) := by decide +kernel
theorem dX12_readAll_50 : decode cX12_readAll 50 = .ok (.getfield 383, 3) := by decide +kernel
theorem dX12_readAll_53 : decode cX12_readAll 53 = .ok (.if_icmp .ge 38, 3) := by decide +kernel
theorem dX12_readAll_56 : decode cX12_readAll 56 = .ok (.aload_n 0, 1) := by decide +kernel
theorem dX12_readAll_57 : decode cX12_readAll 57 = .ok (.getfield 208, 3) := by decide +kernel
theorem dX12_readAll_60 : decode cX12_readAll 60 = .ok (.ifCond .ne 31, 3) := by decide +kernel
theorem dX12_readAll_63 : decode cX12_readAll 63 = .ok (.aload_n 0, 1) := by decide +kernel
theorem dX12_readAll_64 : decode cX12_readAll 64 = .ok (.iload_n 1, 1) := by decide +kernel
theorem dX12_readAll_65 : decode cX12_readAll 65 = .ok (.invokevirtual 386, 3) := by decide +kernel
theorem dX12_readAll_68 : decode cX12_readAll 68 = .ok (.aload_n 0, 1) := by decide +kernel
theorem dX12_readAll_69 : decode cX12_readAll 69 = .ok (.bipush 10, 2) := by decide +kernel
theorem dX12_readAll_71 : decode cX12_readAll 71 = .ok (.iload_n 1, 1) := by decide +kernel
theorem dX12_readAll_72 : decode cX12_readAll 72 = .ok (.iadd, 1) := by decide +kernel
theorem dX12_readAll_73 : decode cX12_readAll 73 = .ok (.invokevirtual 389, 3) := by decide +kernel
theorem dX12_readAll_76 : decode cX12_readAll 76 = .ok (.ifCond .ne 9, 3) := by decide +kernel
theorem dX12_readAll_79 : decode cX12_readAll 79 = .ok (.aload_n 0, 1) := by decide +kernel
theorem dX12_readAll_80 : decode cX12_readAll 80 = .ok (.bipush 8, 2) := by decide +kernel
theorem dX12_readAll_82 : decode cX12_readAll 82 = .ok (.invokevirtual 268, 3) := by decide +kernel
theorem dX12_readAll_85 : decode cX12_readAll 85 = .ok (.iinc 1 1, 3) := by decide +kernel
theorem dX12_readAll_88 : decode cX12_readAll 88 = .ok (.goto (-40), 3) := by decide +kernel
theorem dX12_readAll_91 : decode cX12_readAll 91 = .ok (.return_, 1) := by decide +kernel
theorem dX12_readLine_0 : decode cX12_readLine 0 = .ok (.aload_n 0, 1) := by decide +kernel
theorem dX12_readLine_1 : decode cX12_readLine 1 = .ok (.ldc_w 285, 3) := by decide +kernel
theorem dX12_readLine_4 : decode cX12_readLine 4 = .ok (.invokevirtual 287, 3) := by decide +kernel
theorem dX12_readLine_7 : decode cX12_readLine 7 = .ok (.ifCond .eq 10, 3) := by decide +kernel
theorem dX12_readLine_10 : decode cX12_readLine 10 = .ok (.aload_n 0, 1) := by decide +kernel
theorem dX12_readLine_11 : decode cX12_readLine 11 = .ok (.invokevirtual 392, 3) := by decide +kernel
theorem dX12_readLine_14 : decode cX12_readLine 14 = .ok (.goto 76, 3) := by decide +kernel
theorem dX12_readLine_17 : decode cX12_readLine 17 = .ok (.aload_n 0, 1) := by decide +kernel
theorem dX12_readLine_18 : decode cX12_readLine 18 = .ok (.ldc_w 291, 3) := by decide +kernel
theorem dX12_readLine_21 : decode cX12_readLine 21 = .ok (.invokevirtual 287, 3) := by decide +kernel
theorem dX12_readLine_24 : decode cX12_readLine 24 = .ok (.ifCond .eq 10, 3) := by decide +kernel
theorem dX12_readLine_27 : decode cX12_readLine 27 = .ok (.aload_n 0, 1) := by decide +kernel
theorem dX12_readLine_28 : decode cX12_readLine 28 = .ok (.invokevirtual 395, 3) := by decide +kernel
theorem dX12_readLine_31 : decode cX12_readLine 31 = .ok (.goto 59, 3) := by decide +kernel
theorem dX12_readLine_34 : decode cX12_readLine 34 = .ok (.aload_n 0, 1) := by decide +kernel
theorem dX12_readLine_35 : decode cX12_readLine 35 = .ok (.ldc_w 293, 3) := by decide +kernel
theorem dX12_readLine_38 : decode cX12_readLine 38 = .ok (.invokevirtual 287, 3) := by decide +kernel
theorem dX12_readLine_41 : decode cX12_readLine 41 = .ok (.ifCond .eq 10, 3) := by decide +kernel
theorem dX12_readLine_44 : decode cX12_readLine 44 = .ok (.aload_n 0, 1) := by decide +kernel
theorem dX12_readLine_45 : decode cX12_readLine 45 = .ok (.invokevirtual 398, 3) := by decide +kernel
theorem dX12_readLine_48 : decode cX12_readLine 48 = .ok (.goto 42, 3) := by decide +kernel
theorem dX12_readLine_51 : decode cX12_readLine 51 = .ok (.aload_n 0, 1) := by decide +kernel
theorem dX12_readLine_52 : decode cX12_readLine 52 = .ok (.ldc_w 295, 3) := by decide +kernel
theorem dX12_readLine_55 : decode cX12_readLine 55 = .ok (.invokevirtual 287, 3) := by decide +kernel
theorem dX12_readLine_58 : decode cX12_readLine 58 = .ok (.ifCond .eq 10, 3) := by decide +kernel
theorem dX12_readLine_61 : decode cX12_readLine 61 = .ok (.aload_n 0, 1) := by decide +kernel
theorem dX12_readLine_62 : decode cX12_readLine 62 = .ok (.invokevirtual 401, 3) := by decide +kernel
theorem dX12_readLine_65 : decode cX12_readLine 65 = .ok (.goto 25, 3) := by decide +kernel
theorem dX12_readLine_68 : decode cX12_readLine 68 = .ok (.aload_n 0, 1) := by decide +kernel
theorem dX12_readLine_69 : decode cX12_readLine 69 = .ok (.ldc_w 297, 3) := by decide +kernel
theorem dX12_readLine_72 : decode cX12_readLine 72 = .ok (.invokevirtual 287, 3) := by decide +kernel
theorem dX12_readLine_75 : decode cX12_readLine 75 = .ok (.ifCond .eq 10, 3) := by decide +kernel
theorem dX12_readLine_78 : decode cX12_readLine 78 = .ok (.aload_n 0, 1) := by decide +kernel
theorem dX12_readLine_79 : decode cX12_readLine 79 = .ok (.invokevirtual 404, 3) := by decide +kernel
theorem dX12_readLine_82 : decode cX12_readLine 82 = .ok (.goto 8, 3) := by decide +kernel
theorem dX12_readLine_85 : decode cX12_readLine 85 = .ok (.aload_n 0, 1) := by decide +kernel
theorem dX12_readLine_86 : decode cX12_readLine 86 = .ok (.iconst 1, 1) := by decide +kernel
theorem dX12_readLine_87 : decode cX12_readLine 87 = .ok (.invokevirtual 268, 3) := by decide +kernel
theorem dX12_readLine_90 : decode cX12_readLine 90 = .ok (.return_, 1) := by decide +kernel
theorem dX12_readSetLine_0 : decode cX12_readSetLine 0 = .ok (.aload_n 0, 1) := by decide +kernel
theorem dX12_readSetLine_1 : decode cX12_readSetLine 1 = .ok (.getfield 363, 3) := by decide +kernel
theorem dX12_readSetLine_4 : decode cX12_readSetLine 4 = .ok (.bipush 12, 2) := by decide +kernel
theorem dX12_readSetLine_6 : decode cX12_readSetLine 6 = .ok (.if_icmp .ne 8, 3) := by decide +kernel
theorem dX12_readSetLine_9 : decode cX12_readSetLine 9 = .ok (.aload_n 0, 1) := by decide +kernel
theorem dX12_readSetLine_10 : decode cX12_readSetLine 10 = .ok (.iconst 5, 1) := by decide +kernel
theorem dX12_readSetLine_11 : decode cX12_readSetLine 11 = .ok (.invokevirtual 268, 3) := by decide +kernel
theorem dX12_readSetLine_14 : decode cX12_readSetLine 14 = .ok (.aload_n 0, 1) := by decide +kernel
theorem dX12_readSetLine_15 : decode cX12_readSetLine 15 = .ok (.invokevirtual 262, 3) := by decide +kernel
theorem dX12_readSetLine_18 : decode cX12_readSetLine 18 = .ok (.aload_n 0, 1) := by decide +kernel
theorem dX12_readSetLine_19 : decode cX12_readSetLine 19 = .ok (.invokevirtual 357, 3) := by decide +kernel
theorem dX12_readSetLine_22 : decode cX12_readSetLine 22 = .ok (.ifCond .ne 8, 3) := by decide +kernel
theorem dX12_readSetLine_25 : decode cX12_readSetLine 25 = .ok (.aload_n 0, 1) := by decide +kernel
theorem dX12_readSetLine_26 : decode cX12_readSetLine 26 = .ok (.iconst 1, 1) := by decide +kernel
theorem dX12_readSetLine_27 : decode cX12_readSetLine 27 = .ok (.invokevirtual 268, 3) := by decide +kernel
theorem dX12_readSetLine_30 : decode cX12_readSetLine 30 = .ok (.aload_n 0, 1) := by decide +kernel
theorem dX12_readSetLine_31 : decode cX12_readSetLine 31 = .ok (.getfield 208, 3) := by decide +kernel
theorem dX12_readSetLine_34 : decode cX12_readSetLine 34 = .ok (.ifCond .ne 16, 3) := by decide +kernel
theorem dX12_readSetLine_37 : decode cX12_readSetLine 37 = .ok (.aload_n 0, 1) := by decide +kernel
theorem dX12_readSetLine_38 : decode cX12_readSetLine 38 = .ok (.invokevirtual 360, 3) := by decide +kernel
theorem dX12_readSetLine_41 : decode cX12_readSetLine 41 = .ok (.iconst (-1), 1) := by decide +kernel
theorem dX12_readSetLine_42 : decode cX12_readSetLine 42 = .ok (.if_icmp .eq 8, 3) := by decide +kernel
theorem dX12_readSetLine_45 : decode cX12_readSetLine 45 = .ok (.aload_n 0, 1) := by decide +kernel
theorem dX12_readSetLine_46 : decode cX12_readSetLine 46 = .ok (.iconst 3, 1) := by decide +kernel
theorem dX12_readSetLine_47 : decode cX12_readSetLine 47 = .ok (.invokevirtual 268, 3) := by decide +kernel
theorem dX12_readSetLine_50 : decode cX12_readSetLine 50 = .ok (.aload_n 0, 1) := by decide +kernel
theorem dX12_readSetLine_51 : decode cX12_readSetLine 51 = .ok (.getfield 246, 3) := by decide +kernel
theorem dX12_readSetLine_54 : decode cX12_readSetLine 54 = .ok (.lstore_n 1, 1) := by decide +kernel
theorem dX12_readSetLine_55 : decode cX12_readSetLine 55 = .ok (.aload_n 0, 1) := by decide +kernel
theorem dX12_readSetLine_56 : decode cX12_readSetLine 56 = .ok (.invokevirtual 262, 3) := by decide +kernel
theorem dX12_readSetLine_59 : decode cX12_readSetLine 59 = .ok (.aload_n 0, 1) := by decide +kernel
theorem dX12_readSetLine_60 : decode cX12_readSetLine 60 = .ok (.invokevirtual 407, 3) := by decide +kernel
theorem dX12_readSetLine_63 : decode cX12_readSetLine 63 = .ok (.aload_n 0, 1) := by decide +kernel
theorem dX12_readSetLine_64 : decode cX12_readSetLine 64 = .ok (.getfield 208, 3) := by decide +kernel
theorem dX12_readSetLine_67 : decode cX12_readSetLine 67 = .ok (.ifCond .le 4, 3) := by decide +kernel
theorem dX12_readSetLine_70 : decode cX12_readSetLine 70 = .ok (.return_, 1) := by decide +kernel
theorem dX12_readSetLine_71 : decode cX12_readSetLine 71 = .ok (.aload_n 0, 1) := by decide +kernel
theorem dX12_readSetLine_72 : decode cX12_readSetLine 72 = .ok (.bipush 12, 2) := by decide +kernel
theorem dX12_readSetLine_74 : decode cX12_readSetLine 74 = .ok (.aload_n 0, 1) := by decide +kernel
theorem dX12_readSetLine_75 : decode cX12_readSetLine 75 = .ok (.getfield 363, 3) := by decide +kernel
theorem dX12_readSetLine_78 : decode cX12_readSetLine 78 = .ok (.iadd, 1) := by decide +kernel
theorem dX12_readSetLine_79 : decode cX12_readSetLine 79 = .ok (.aload_n 0, 1) := by decide +kernel
theorem dX12_readSetLine_80 : decode cX12_readSetLine 80 = .ok (.getfield 28, 3) := by decide +kernel
theorem dX12_readSetLine_83 : decode cX12_readSetLine 83 = .ok (.aload_n 0, 1) := by decide +kernel
theorem dX12_readSetLine_84 : decode cX12_readSetLine 84 = .ok (.getfield 31, 3) := by decide +kernel
theorem dX12_readSetLine_87 : decode cX12_readSetLine 87 = .ok (.aload_n 0, 1) := by decide +kernel
theorem dX12_readSetLine_88 : decode cX12_readSetLine 88 = .ok (.getfield 34, 3) := by decide +kernel
theorem dX12_readSetLine_91 : decode cX12_readSetLine 91 = .ok (.invokevirtual 410, 3) := by decide +kernel
theorem dX12_readSetLine_94 : decode cX12_readSetLine 94 = .ok (.aload_n 0, 1) := by decide +kernel
theorem dX12_readSetLine_95 : decode cX12_readSetLine 95 = .ok (.getfield 37, 3) := by decide +kernel
theorem dX12_readSetLine_98 : decode cX12_readSetLine 98 = .ok (.aload_n 0, 1) := by decide +kernel
theorem dX12_readSetLine_99 : decode cX12_readSetLine 99 = .ok (.getfield 363, 3) := by decide +kernel
theorem dX12_readSetLine_102 : decode cX12_readSetLine 102 = .ok (.lload_n 1, 1) := by decide +kernel
theorem dX12_readSetLine_103 : decode cX12_readSetLine 103 = .ok (.lastore, 1) := by decide +kernel
theorem dX12_readSetLine_104 : decode cX12_readSetLine 104 = .ok (.aload_n 0, 1) := by decide +kernel
theorem dX12_readSetLine_105 : decode cX12_readSetLine 105 = .ok (.dup, 1) := by decide +kernel
theorem dX12_readSetLine_106 : decode cX12_readSetLine 106 = .ok (.getfield 363, 3) := by decide +kernel
theorem dX12_readSetLine_109 : decode cX12_readSetLine 109 = .ok (.iconst 1, 1) := by decide +kernel
theorem dX12_readSetLine_110 : decode cX12_readSetLine 110 = .ok (.iadd, 1) := by decide +kernel
theorem dX12_readSetLine_111 : decode cX12_readSetLine 111 = .ok (.putfield 363, 3) := by decide +kernel
theorem dX12_readSetLine_114 : decode cX12_readSetLine 114 = .ok (.return_, 1) := by decide +kernel
theorem dX12_keepsRanges_0 : decode cX12_keepsRanges 0 = .ok (.aload_n 2, 1) := by decide +kernel
theorem dX12_keepsRanges_1 : decode cX12_keepsRanges 1 = .ok (.iload_n 1, 1) := by decide +kernel
theorem dX12_keepsRanges_2 : decode cX12_keepsRanges 2 = .ok (.aload_n 0, 1) := by decide +kernel
theorem dX12_keepsRanges_3 : decode cX12_keepsRanges 3 = .ok (.getfield 370, 3) := by decide +kernel
theorem dX12_keepsRanges_6 : decode cX12_keepsRanges 6 = .ok (.iastore, 1) := by decide +kernel
theorem dX12_keepsRanges_7 : decode cX12_keepsRanges 7 = .ok (.iconst 0, 1) := by decide +kernel
theorem dX12_keepsRanges_8 : decode cX12_keepsRanges 8 = .ok (.istore 5, 2) := by decide +kernel
theorem dX12_keepsRanges_10 : decode cX12_keepsRanges 10 = .ok (.iload 5, 2) := by decide +kernel
theorem dX12_keepsRanges_12 : decode cX12_keepsRanges 12 = .ok (.aload_n 0, 1) := by decide +kernel
theorem dX12_keepsRanges_13 : decode cX12_keepsRanges 13 = .ok (.getfield 370, 3) := by decide +kernel
theorem dX12_keepsRanges_16 : decode cX12_keepsRanges 16 = .ok (.if_icmp .ge 42, 3) := by decide +kernel
theorem dX12_keepsRanges_19 : decode cX12_keepsRanges 19 = .ok (.aload_n 3, 1) := by decide +kernel
theorem dX12_keepsRanges_20 : decode cX12_keepsRanges 20 = .ok (.iload_n 1, 1) := by decide +kernel
theorem dX12_keepsRanges_21 : decode cX12_keepsRanges 21 = .ok (.bipush 24, 2) := by decide +kernel
theorem dX12_keepsRanges_23 : decode cX12_keepsRanges 23 = .ok (.imul, 1) := by decide +kernel
theorem dX12_keepsRanges_24 : decode cX12_keepsRanges 24 = .ok (.iload 5, 2) := by decide +kernel
theorem dX12_keepsRanges_26 : decode cX12_keepsRanges 26 = .ok (.iadd, 1) := by decide +kernel
theorem dX12_keepsRanges_27 : decode cX12_keepsRanges 27 = .ok (.aload_n 0, 1) := by decide +kernel
theorem dX12_keepsRanges_28 : decode cX12_keepsRanges 28 = .ok (.getfield 21, 3) := by decide +kernel
theorem dX12_keepsRanges_31 : decode cX12_keepsRanges 31 = .ok (.iload 5, 2) := by decide +kernel
theorem dX12_keepsRanges_33 : decode cX12_keepsRanges 33 = .ok (.iaload, 1) := by decide +kernel
theorem dX12_keepsRanges_34 : decode cX12_keepsRanges 34 = .ok (.iastore, 1) := by decide +kernel
theorem dX12_keepsRanges_35 : decode cX12_keepsRanges 35 = .ok (.aload 4, 2) := by decide +kernel
theorem dX12_keepsRanges_37 : decode cX12_keepsRanges 37 = .ok (.iload_n 1, 1) := by decide +kernel
theorem dX12_keepsRanges_38 : decode cX12_keepsRanges 38 = .ok (.bipush 24, 2) := by decide +kernel
theorem dX12_keepsRanges_40 : decode cX12_keepsRanges 40 = .ok (.imul, 1) := by decide +kernel
theorem dX12_keepsRanges_41 : decode cX12_keepsRanges 41 = .ok (.iload 5, 2) := by decide +kernel
theorem dX12_keepsRanges_43 : decode cX12_keepsRanges 43 = .ok (.iadd, 1) := by decide +kernel
theorem dX12_keepsRanges_44 : decode cX12_keepsRanges 44 = .ok (.aload_n 0, 1) := by decide +kernel
theorem dX12_keepsRanges_45 : decode cX12_keepsRanges 45 = .ok (.getfield 25, 3) := by decide +kernel
theorem dX12_keepsRanges_48 : decode cX12_keepsRanges 48 = .ok (.iload 5, 2) := by decide +kernel
theorem dX12_keepsRanges_50 : decode cX12_keepsRanges 50 = .ok (.iaload, 1) := by decide +kernel
theorem dX12_keepsRanges_51 : decode cX12_keepsRanges 51 = .ok (.iastore, 1) := by decide +kernel
theorem dX12_keepsRanges_52 : decode cX12_keepsRanges 52 = .ok (.iinc 5 1, 3) := by decide +kernel
theorem dX12_keepsRanges_55 : decode cX12_keepsRanges 55 = .ok (.goto (-45), 3) := by decide +kernel
theorem dX12_keepsRanges_58 : decode cX12_keepsRanges 58 = .ok (.return_, 1) := by decide +kernel
theorem dX12_readMachine_0 : decode cX12_readMachine 0 = .ok (.aload_n 0, 1) := by decide +kernel
theorem dX12_readMachine_1 : decode cX12_readMachine 1 = .ok (.getfield 383, 3) := by decide +kernel
theorem dX12_readMachine_4 : decode cX12_readMachine 4 = .ok (.iconst 4, 1) := by decide +kernel
theorem dX12_readMachine_5 : decode cX12_readMachine 5 = .ok (.if_icmp .ne 8, 3) := by decide +kernel
theorem dX12_readMachine_8 : decode cX12_readMachine 8 = .ok (.aload_n 0, 1) := by decide +kernel
theorem dX12_readMachine_9 : decode cX12_readMachine 9 = .ok (.iconst 5, 1) := by decide +kernel
theorem dX12_readMachine_10 : decode cX12_readMachine 10 = .ok (.invokevirtual 268, 3) := by decide +kernel
theorem dX12_readMachine_13 : decode cX12_readMachine 13 = .ok (.aload_n 0, 1) := by decide +kernel
theorem dX12_readMachine_14 : decode cX12_readMachine 14 = .ok (.invokevirtual 262, 3) := by decide +kernel
theorem dX12_readMachine_17 : decode cX12_readMachine 17 = .ok (.aload_n 0, 1) := by decide +kernel
theorem dX12_readMachine_18 : decode cX12_readMachine 18 = .ok (.iconst 1, 1) := by decide +kernel
theorem dX12_readMachine_19 : decode cX12_readMachine 19 = .ok (.bipush 12, 2) := by decide +kernel
theorem dX12_readMachine_21 : decode cX12_readMachine 21 = .ok (.invokevirtual 350, 3) := by decide +kernel
theorem dX12_readMachine_24 : decode cX12_readMachine 24 = .ok (.istore_n 1, 1) := by decide +kernel
theorem dX12_readMachine_25 : decode cX12_readMachine 25 = .ok (.aload_n 0, 1) := by decide +kernel
theorem dX12_readMachine_26 : decode cX12_readMachine 26 = .ok (.getfield 208, 3) := by decide +kernel
theorem dX12_readMachine_29 : decode cX12_readMachine 29 = .ok (.ifCond .le 4, 3) := by decide +kernel
theorem dX12_readMachine_32 : decode cX12_readMachine 32 = .ok (.return_, 1) := by decide +kernel
theorem dX12_readMachine_33 : decode cX12_readMachine 33 = .ok (.aload_n 0, 1) := by decide +kernel
theorem dX12_readMachine_34 : decode cX12_readMachine 34 = .ok (.getfield 40, 3) := by decide +kernel
theorem dX12_readMachine_37 : decode cX12_readMachine 37 = .ok (.aload_n 0, 1) := by decide +kernel
theorem dX12_readMachine_38 : decode cX12_readMachine 38 = .ok (.getfield 383, 3) := by decide +kernel
theorem dX12_readMachine_41 : decode cX12_readMachine 41 = .ok (.iload_n 1, 1) := by decide +kernel
theorem dX12_readMachine_42 : decode cX12_readMachine 42 = .ok (.iastore, 1) := by decide +kernel
theorem dX12_readMachine_43 : decode cX12_readMachine 43 = .ok (.aload_n 0, 1) := by decide +kernel
theorem dX12_readMachine_44 : decode cX12_readMachine 44 = .ok (.getfield 43, 3) := by decide +kernel
theorem dX12_readMachine_47 : decode cX12_readMachine 47 = .ok (.aload_n 0, 1) := by decide +kernel
theorem dX12_readMachine_48 : decode cX12_readMachine 48 = .ok (.getfield 383, 3) := by decide +kernel
theorem dX12_readMachine_51 : decode cX12_readMachine 51 = .ok (.iconst 0, 1) := by decide +kernel
theorem dX12_readMachine_52 : decode cX12_readMachine 52 = .ok (.iastore, 1) := by decide +kernel
theorem dX12_readMachine_53 : decode cX12_readMachine 53 = .ok (.aload_n 0, 1) := by decide +kernel
theorem dX12_readMachine_54 : decode cX12_readMachine 54 = .ok (.getfield 46, 3) := by decide +kernel
theorem dX12_readMachine_57 : decode cX12_readMachine 57 = .ok (.aload_n 0, 1) := by decide +kernel
theorem dX12_readMachine_58 : decode cX12_readMachine 58 = .ok (.getfield 383, 3) := by decide +kernel
theorem dX12_readMachine_61 : decode cX12_readMachine 61 = .ok (.iconst 0, 1) := by decide +kernel
theorem dX12_readMachine_62 : decode cX12_readMachine 62 = .ok (.iastore, 1) := by decide +kernel
theorem dX12_readMachine_63 : decode cX12_readMachine 63 = .ok (.aload_n 0, 1) := by decide +kernel
theorem dX12_readMachine_64 : decode cX12_readMachine 64 = .ok (.getfield 70, 3) := by decide +kernel
theorem dX12_readMachine_67 : decode cX12_readMachine 67 = .ok (.aload_n 0, 1) := by decide +kernel
theorem dX12_readMachine_68 : decode cX12_readMachine 68 = .ok (.getfield 383, 3) := by decide +kernel
theorem dX12_readMachine_71 : decode cX12_readMachine 71 = .ok (.lconst 0, 1) := by decide +kernel
theorem dX12_readMachine_72 : decode cX12_readMachine 72 = .ok (.lastore, 1) := by decide +kernel
theorem dX12_readMachine_73 : decode cX12_readMachine 73 = .ok (.aload_n 0, 1) := by decide +kernel
theorem dX12_readMachine_74 : decode cX12_readMachine 74 = .ok (.dup, 1) := by decide +kernel
theorem dX12_readMachine_75 : decode cX12_readMachine 75 = .ok (.getfield 383, 3) := by decide +kernel
theorem dX12_readMachine_78 : decode cX12_readMachine 78 = .ok (.iconst 1, 1) := by decide +kernel
theorem dX12_readMachine_79 : decode cX12_readMachine 79 = .ok (.iadd, 1) := by decide +kernel
theorem dX12_readMachine_80 : decode cX12_readMachine 80 = .ok (.putfield 383, 3) := by decide +kernel
theorem dX12_readMachine_83 : decode cX12_readMachine 83 = .ok (.return_, 1) := by decide +kernel
theorem dX12_latest_0 : decode cX12_latest 0 = .ok (.aload_n 0, 1) := by decide +kernel
theorem dX12_latest_1 : decode cX12_latest 1 = .ok (.getfield 383, 3) := by decide +kernel
theorem dX12_latest_4 : decode cX12_latest 4 = .ok (.ifCond .ne 9, 3) := by decide +kernel
theorem dX12_latest_7 : decode cX12_latest 7 = .ok (.aload_n 0, 1) := by decide +kernel
theorem dX12_latest_8 : decode cX12_latest 8 = .ok (.bipush 7, 2) := by decide +kernel
theorem dX12_latest_10 : decode cX12_latest 10 = .ok (.invokevirtual 268, 3) := by decide +kernel
theorem dX12_latest_13 : decode cX12_latest 13 = .ok (.aload_n 0, 1) := by decide +kernel
theorem dX12_latest_14 : decode cX12_latest 14 = .ok (.getfield 208, 3) := by decide +kernel
theorem dX12_latest_17 : decode cX12_latest 17 = .ok (.ifCond .le 7, 3) := by decide +kernel
theorem dX12_latest_20 : decode cX12_latest 20 = .ok (.iconst 0, 1) := by decide +kernel
theorem dX12_latest_21 : decode cX12_latest 21 = .ok (.goto 9, 3) := by decide +kernel
theorem dX12_latest_24 : decode cX12_latest 24 = .ok (.aload_n 0, 1) := by decide +kernel
theorem dX12_latest_25 : decode cX12_latest 25 = .ok (.getfield 383, 3) := by decide +kernel
theorem dX12_latest_28 : decode cX12_latest 28 = .ok (.iconst 1, 1) := by decide +kernel
theorem dX12_latest_29 : decode cX12_latest 29 = .ok (.isub, 1) := by decide +kernel
theorem dX12_latest_30 : decode cX12_latest 30 = .ok (.ireturn, 1) := by decide +kernel
theorem dX12_state_0 : decode cX12_state 0 = .ok (.aload_n 0, 1) := by decide +kernel
theorem dX12_state_1 : decode cX12_state 1 = .ok (.getfield 220, 3) := by decide +kernel
theorem dX12_state_4 : decode cX12_state 4 = .ok (.iconst 3, 1) := by decide +kernel
theorem dX12_state_5 : decode cX12_state 5 = .ok (.if_icmp .eq 11, 3) := by decide +kernel
theorem dX12_state_8 : decode cX12_state 8 = .ok (.aload_n 0, 1) := by decide +kernel
theorem dX12_state_9 : decode cX12_state 9 = .ok (.iconst 1, 1) := by decide +kernel
theorem dX12_state_10 : decode cX12_state 10 = .ok (.invokevirtual 268, 3) := by decide +kernel
theorem dX12_state_13 : decode cX12_state 13 = .ok (.goto 26, 3) := by decide +kernel
theorem dX12_state_16 : decode cX12_state 16 = .ok (.aload_n 0, 1) := by decide +kernel
theorem dX12_state_17 : decode cX12_state 17 = .ok (.getfield 252, 3) := by decide +kernel
theorem dX12_state_20 : decode cX12_state 20 = .ok (.aload_n 0, 1) := by decide +kernel
theorem dX12_state_21 : decode cX12_state 21 = .ok (.getfield 40, 3) := by decide +kernel
theorem dX12_state_24 : decode cX12_state 24 = .ok (.aload_n 0, 1) := by decide +kernel
theorem dX12_state_25 : decode cX12_state 25 = .ok (.getfield 383, 3) := by decide +kernel
theorem dX12_state_28 : decode cX12_state 28 = .ok (.iconst 1, 1) := by decide +kernel
theorem dX12_state_29 : decode cX12_state 29 = .ok (.isub, 1) := by decide +kernel
theorem dX12_state_30 : decode cX12_state 30 = .ok (.iaload, 1) := by decide +kernel
theorem dX12_state_31 : decode cX12_state 31 = .ok (.if_icmp .lt 8, 3) := by decide +kernel
theorem dX12_state_34 : decode cX12_state 34 = .ok (.aload_n 0, 1) := by decide +kernel
theorem dX12_state_35 : decode cX12_state 35 = .ok (.iconst 2, 1) := by decide +kernel
theorem dX12_state_36 : decode cX12_state 36 = .ok (.invokevirtual 268, 3) := by decide +kernel
theorem dX12_state_39 : decode cX12_state 39 = .ok (.aload_n 0, 1) := by decide +kernel
theorem dX12_state_40 : decode cX12_state 40 = .ok (.getfield 208, 3) := by decide +kernel
theorem dX12_state_43 : decode cX12_state 43 = .ok (.ifCond .le 7, 3) := by decide +kernel
theorem dX12_state_46 : decode cX12_state 46 = .ok (.iconst 0, 1) := by decide +kernel
theorem dX12_state_47 : decode cX12_state 47 = .ok (.goto 7, 3) := by decide +kernel
theorem dX12_state_50 : decode cX12_state 50 = .ok (.aload_n 0, 1) := by decide +kernel
theorem dX12_state_51 : decode cX12_state 51 = .ok (.getfield 252, 3) := by decide +kernel
theorem dX12_state_54 : decode cX12_state 54 = .ok (.ireturn, 1) := by decide +kernel
theorem dX12_readState_0 : decode cX12_readState 0 = .ok (.aload_n 0, 1) := by decide +kernel
theorem dX12_readState_1 : decode cX12_readState 1 = .ok (.invokevirtual 414, 3) := by decide +kernel
theorem dX12_readState_4 : decode cX12_readState 4 = .ok (.istore_n 1, 1) := by decide +kernel
theorem dX12_readState_5 : decode cX12_readState 5 = .ok (.aload_n 0, 1) := by decide +kernel
theorem dX12_readState_6 : decode cX12_readState 6 = .ok (.invokevirtual 262, 3) := by decide +kernel
theorem dX12_readState_9 : decode cX12_readState 9 = .ok (.iload_n 1, 1) := by decide +kernel
theorem dX12_readState_10 : decode cX12_readState 10 = .ok (.ireturn, 1) := by decide +kernel
theorem dX12_readEdge_0 : decode cX12_readEdge 0 = .ok (.aload_n 0, 1) := by decide +kernel
theorem dX12_readEdge_1 : decode cX12_readEdge 1 = .ok (.invokevirtual 417, 3) := by decide +kernel
theorem dX12_readEdge_4 : decode cX12_readEdge 4 = .ok (.istore_n 1, 1) := by decide +kernel
theorem dX12_readEdge_5 : decode cX12_readEdge 5 = .ok (.aload_n 0, 1) := by decide +kernel
theorem dX12_readEdge_6 : decode cX12_readEdge 6 = .ok (.getfield 208, 3) := by decide +kernel
theorem dX12_readEdge_9 : decode cX12_readEdge 9 = .ok (.ifCond .ne 19, 3) := by decide +kernel
theorem dX12_readEdge_12 : decode cX12_readEdge 12 = .ok (.aload_n 0, 1) := by decide +kernel
theorem dX12_readEdge_13 : decode cX12_readEdge 13 = .ok (.getfield 43, 3) := by decide +kernel
theorem dX12_readEdge_16 : decode cX12_readEdge 16 = .ok (.iload_n 1, 1) := by decide +kernel
theorem dX12_readEdge_17 : decode cX12_readEdge 17 = .ok (.iaload, 1) := by decide +kernel
theorem dX12_readEdge_18 : decode cX12_readEdge 18 = .ok (.bipush 24, 2) := by decide +kernel
theorem dX12_readEdge_20 : decode cX12_readEdge 20 = .ok (.if_icmp .ne 8, 3) := by decide +kernel
theorem dX12_readEdge_23 : decode cX12_readEdge 23 = .ok (.aload_n 0, 1) := by decide +kernel
theorem dX12_readEdge_24 : decode cX12_readEdge 24 = .ok (.iconst 5, 1) := by decide +kernel
theorem dX12_readEdge_25 : decode cX12_readEdge 25 = .ok (.invokevirtual 268, 3) := by decide +kernel
theorem dX12_readEdge_28 : decode cX12_readEdge 28 = .ok (.aload_n 0, 1) := by decide +kernel
theorem dX12_readEdge_29 : decode cX12_readEdge 29 = .ok (.invokevirtual 262, 3) := by decide +kernel
theorem dX12_readEdge_32 : decode cX12_readEdge 32 = .ok (.aload_n 0, 1) := by decide +kernel
theorem dX12_readEdge_33 : decode cX12_readEdge 33 = .ok (.invokevirtual 420, 3) := by decide +kernel
theorem dX12_readEdge_36 : decode cX12_readEdge 36 = .ok (.istore_n 2, 1) := by decide +kernel
theorem dX12_readEdge_37 : decode cX12_readEdge 37 = .ok (.aload_n 0, 1) := by decide +kernel
theorem dX12_readEdge_38 : decode cX12_readEdge 38 = .ok (.invokevirtual 420, 3) := by decide +kernel
theorem dX12_readEdge_41 : decode cX12_readEdge 41 = .ok (.istore_n 3, 1) := by decide +kernel
theorem dX12_readEdge_42 : decode cX12_readEdge 42 = .ok (.aload_n 0, 1) := by decide +kernel
theorem dX12_readEdge_43 : decode cX12_readEdge 43 = .ok (.invokevirtual 407, 3) := by decide +kernel
theorem dX12_readEdge_46 : decode cX12_readEdge 46 = .ok (.aload_n 0, 1) := by decide +kernel
theorem dX12_readEdge_47 : decode cX12_readEdge 47 = .ok (.getfield 208, 3) := by decide +kernel
theorem dX12_readEdge_50 : decode cX12_readEdge 50 = .ok (.ifCond .le 4, 3) := by decide +kernel
theorem dX12_readEdge_53 : decode cX12_readEdge 53 = .ok (.return_, 1) := by decide +kernel
theorem dX12_readEdge_54 : decode cX12_readEdge 54 = .ok (.iload_n 1, 1) := by decide +kernel
theorem dX12_readEdge_55 : decode cX12_readEdge 55 = .ok (.bipush 24, 2) := by decide +kernel
theorem dX12_readEdge_57 : decode cX12_readEdge 57 = .ok (.imul, 1) := by decide +kernel
theorem dX12_readEdge_58 : decode cX12_readEdge 58 = .ok (.aload_n 0, 1) := by decide +kernel
theorem dX12_readEdge_59 : decode cX12_readEdge 59 = .ok (.getfield 43, 3) := by decide +kernel
theorem dX12_readEdge_62 : decode cX12_readEdge 62 = .ok (.iload_n 1, 1) := by decide +kernel
theorem dX12_readEdge_63 : decode cX12_readEdge 63 = .ok (.iaload, 1) := by decide +kernel
theorem dX12_readEdge_64 : decode cX12_readEdge 64 = .ok (.iadd, 1) := by decide +kernel
theorem dX12_readEdge_65 : decode cX12_readEdge 65 = .ok (.istore 4, 2) := by decide +kernel
theorem dX12_readEdge_67 : decode cX12_readEdge 67 = .ok (.aload_n 0, 1) := by decide +kernel
theorem dX12_readEdge_68 : decode cX12_readEdge 68 = .ok (.getfield 49, 3) := by decide +kernel
theorem dX12_readEdge_71 : decode cX12_readEdge 71 = .ok (.iload 4, 2) := by decide +kernel
theorem dX12_readEdge_73 : decode cX12_readEdge 73 = .ok (.iload_n 2, 1) := by decide +kernel
theorem dX12_readEdge_74 : decode cX12_readEdge 74 = .ok (.iastore, 1) := by decide +kernel
theorem dX12_readEdge_75 : decode cX12_readEdge 75 = .ok (.aload_n 0, 1) := by decide +kernel
theorem dX12_readEdge_76 : decode cX12_readEdge 76 = .ok (.getfield 52, 3) := by decide +kernel
theorem dX12_readEdge_79 : decode cX12_readEdge 79 = .ok (.iload 4, 2) := by decide +kernel
theorem dX12_readEdge_81 : decode cX12_readEdge 81 = .ok (.iload_n 3, 1) := by decide +kernel
theorem dX12_readEdge_82 : decode cX12_readEdge 82 = .ok (.iastore, 1) := by decide +kernel
theorem dX12_readEdge_83 : decode cX12_readEdge 83 = .ok (.aload_n 0, 1) := by decide +kernel
theorem dX12_readEdge_84 : decode cX12_readEdge 84 = .ok (.iload 4, 2) := by decide +kernel
theorem dX12_readEdge_86 : decode cX12_readEdge 86 = .ok (.aload_n 0, 1) := by decide +kernel
theorem dX12_readEdge_87 : decode cX12_readEdge 87 = .ok (.getfield 55, 3) := by decide +kernel
theorem dX12_readEdge_90 : decode cX12_readEdge 90 = .ok (.aload_n 0, 1) := by decide +kernel
theorem dX12_readEdge_91 : decode cX12_readEdge 91 = .ok (.getfield 58, 3) := by decide +kernel
theorem dX12_readEdge_94 : decode cX12_readEdge 94 = .ok (.aload_n 0, 1) := by decide +kernel
theorem dX12_readEdge_95 : decode cX12_readEdge 95 = .ok (.getfield 61, 3) := by decide +kernel
theorem dX12_readEdge_98 : decode cX12_readEdge 98 = .ok (.invokevirtual 410, 3) := by decide +kernel
theorem dX12_readEdge_101 : decode cX12_readEdge 101 = .ok (.aload_n 0, 1) := by decide +kernel
theorem dX12_readEdge_102 : decode cX12_readEdge 102 = .ok (.getfield 43, 3) := by decide +kernel
theorem dX12_readEdge_105 : decode cX12_readEdge 105 = .ok (.iload_n 1, 1) := by decide +kernel
theorem dX12_readEdge_106 : decode cX12_readEdge 106 = .ok (.dup2, 1) := by decide +kernel
theorem dX12_readEdge_107 : decode cX12_readEdge 107 = .ok (.iaload, 1) := by decide +kernel
theorem dX12_readEdge_108 : decode cX12_readEdge 108 = .ok (.iconst 1, 1) := by decide +kernel
theorem dX12_readEdge_109 : decode cX12_readEdge 109 = .ok (.iadd, 1) := by decide +kernel
theorem dX12_readEdge_110 : decode cX12_readEdge 110 = .ok (.iastore, 1) := by decide +kernel
theorem dX12_readEdge_111 : decode cX12_readEdge 111 = .ok (.return_, 1) := by decide +kernel
theorem dX12_readFree_0 : decode cX12_readFree 0 = .ok (.aload_n 0, 1) := by decide +kernel
theorem dX12_readFree_1 : decode cX12_readFree 1 = .ok (.invokevirtual 417, 3) := by decide +kernel
theorem dX12_readFree_4 : decode cX12_readFree 4 = .ok (.istore_n 1, 1) := by decide +kernel
theorem dX12_readFree_5 : decode cX12_readFree 5 = .ok (.aload_n 0, 1) := by decide +kernel
theorem dX12_readFree_6 : decode cX12_readFree 6 = .ok (.getfield 208, 3) := by decide +kernel
theorem dX12_readFree_9 : decode cX12_readFree 9 = .ok (.ifCond .ne 19, 3) := by decide +kernel
theorem dX12_readFree_12 : decode cX12_readFree 12 = .ok (.aload_n 0, 1) := by decide +kernel
theorem dX12_readFree_13 : decode cX12_readFree 13 = .ok (.getfield 46, 3) := by decide +kernel
theorem dX12_readFree_16 : decode cX12_readFree 16 = .ok (.iload_n 1, 1) := by decide +kernel
theorem dX12_readFree_17 : decode cX12_readFree 17 = .ok (.iaload, 1) := by decide +kernel
theorem dX12_readFree_18 : decode cX12_readFree 18 = .ok (.bipush 8, 2) := by decide +kernel
theorem dX12_readFree_20 : decode cX12_readFree 20 = .ok (.if_icmp .ne 8, 3) := by decide +kernel
theorem dX12_readFree_23 : decode cX12_readFree 23 = .ok (.aload_n 0, 1) := by decide +kernel
theorem dX12_readFree_24 : decode cX12_readFree 24 = .ok (.iconst 5, 1) := by decide +kernel
theorem dX12_readFree_25 : decode cX12_readFree 25 = .ok (.invokevirtual 268, 3) := by decide +kernel
theorem dX12_readFree_28 : decode cX12_readFree 28 = .ok (.aload_n 0, 1) := by decide +kernel
theorem dX12_readFree_29 : decode cX12_readFree 29 = .ok (.invokevirtual 262, 3) := by decide +kernel
theorem dX12_readFree_32 : decode cX12_readFree 32 = .ok (.aload_n 0, 1) := by decide +kernel
theorem dX12_readFree_33 : decode cX12_readFree 33 = .ok (.invokevirtual 420, 3) := by decide +kernel
theorem dX12_readFree_36 : decode cX12_readFree 36 = .ok (.istore_n 2, 1) := by decide +kernel
theorem dX12_readFree_37 : decode cX12_readFree 37 = .ok (.aload_n 0, 1) := by decide +kernel
theorem dX12_readFree_38 : decode cX12_readFree 38 = .ok (.invokevirtual 420, 3) := by decide +kernel
theorem dX12_readFree_41 : decode cX12_readFree 41 = .ok (.istore_n 3, 1) := by decide +kernel
theorem dX12_readFree_42 : decode cX12_readFree 42 = .ok (.aload_n 0, 1) := by decide +kernel
theorem dX12_readFree_43 : decode cX12_readFree 43 = .ok (.getfield 208, 3) := by decide +kernel
theorem dX12_readFree_46 : decode cX12_readFree 46 = .ok (.ifCond .le 4, 3) := by decide +kernel
theorem dX12_readFree_49 : decode cX12_readFree 49 = .ok (.return_, 1) := by decide +kernel
theorem dX12_readFree_50 : decode cX12_readFree 50 = .ok (.aload_n 0, 1) := by decide +kernel
theorem dX12_readFree_51 : decode cX12_readFree 51 = .ok (.getfield 64, 3) := by decide +kernel
theorem dX12_readFree_54 : decode cX12_readFree 54 = .ok (.iload_n 1, 1) := by decide +kernel
theorem dX12_readFree_55 : decode cX12_readFree 55 = .ok (.bipush 8, 2) := by decide +kernel
theorem dX12_readFree_57 : decode cX12_readFree 57 = .ok (.imul, 1) := by decide +kernel
theorem dX12_readFree_58 : decode cX12_readFree 58 = .ok (.aload_n 0, 1) := by decide +kernel
theorem dX12_readFree_59 : decode cX12_readFree 59 = .ok (.getfield 46, 3) := by decide +kernel
theorem dX12_readFree_62 : decode cX12_readFree 62 = .ok (.iload_n 1, 1) := by decide +kernel
theorem dX12_readFree_63 : decode cX12_readFree 63 = .ok (.iaload, 1) := by decide +kernel
theorem dX12_readFree_64 : decode cX12_readFree 64 = .ok (.iadd, 1) := by decide +kernel
theorem dX12_readFree_65 : decode cX12_readFree 65 = .ok (.iload_n 2, 1) := by decide +kernel
theorem dX12_readFree_66 : decode cX12_readFree 66 = .ok (.iastore, 1) := by decide +kernel
theorem dX12_readFree_67 : decode cX12_readFree 67 = .ok (.aload_n 0, 1) := by decide +kernel
theorem dX12_readFree_68 : decode cX12_readFree 68 = .ok (.getfield 67, 3) := by decide +kernel
theorem dX12_readFree_71 : decode cX12_readFree 71 = .ok (.iload_n 1, 1) := by decide +kernel
theorem dX12_readFree_72 : decode cX12_readFree 72 = .ok (.bipush 8, 2) := by decide +kernel
theorem dX12_readFree_74 : decode cX12_readFree 74 = .ok (.imul, 1) := by decide +kernel
theorem dX12_readFree_75 : decode cX12_readFree 75 = .ok (.aload_n 0, 1) := by decide +kernel
theorem dX12_readFree_76 : decode cX12_readFree 76 = .ok (.getfield 46, 3) := by decide +kernel
theorem dX12_readFree_79 : decode cX12_readFree 79 = .ok (.iload_n 1, 1) := by decide +kernel
theorem dX12_readFree_80 : decode cX12_readFree 80 = .ok (.iaload, 1) := by decide +kernel
theorem dX12_readFree_81 : decode cX12_readFree 81 = .ok (.iadd, 1) := by decide +kernel
theorem dX12_readFree_82 : decode cX12_readFree 82 = .ok (.iload_n 3, 1) := by decide +kernel
theorem dX12_readFree_83 : decode cX12_readFree 83 = .ok (.iastore, 1) := by decide +kernel
theorem dX12_readFree_84 : decode cX12_readFree 84 = .ok (.aload_n 0, 1) := by decide +kernel
theorem dX12_readFree_85 : decode cX12_readFree 85 = .ok (.getfield 46, 3) := by decide +kernel
theorem dX12_readFree_88 : decode cX12_readFree 88 = .ok (.iload_n 1, 1) := by decide +kernel
theorem dX12_readFree_89 : decode cX12_readFree 89 = .ok (.dup2, 1) := by decide +kernel
theorem dX12_readFree_90 : decode cX12_readFree 90 = .ok (.iaload, 1) := by decide +kernel
theorem dX12_readFree_91 : decode cX12_readFree 91 = .ok (.iconst 1, 1) := by decide +kernel
theorem dX12_readFree_92 : decode cX12_readFree 92 = .ok (.iadd, 1) := by decide +kernel
theorem dX12_readFree_93 : decode cX12_readFree 93 = .ok (.iastore, 1) := by decide +kernel
theorem dX12_readFree_94 : decode cX12_readFree 94 = .ok (.return_, 1) := by decide +kernel
theorem dX12_readEnd_0 : decode cX12_readEnd 0 = .ok (.aload_n 0, 1) := by decide +kernel
theorem dX12_readEnd_1 : decode cX12_readEnd 1 = .ok (.invokevirtual 417, 3) := by decide +kernel
theorem dX12_readEnd_4 : decode cX12_readEnd 4 = .ok (.istore_n 1, 1) := by decide +kernel
theorem dX12_readEnd_5 : decode cX12_readEnd 5 = .ok (.aload_n 0, 1) := by decide +kernel
theorem dX12_readEnd_6 : decode cX12_readEnd 6 = .ok (.invokevirtual 262, 3) := by decide +kernel
theorem dX12_readEnd_9 : decode cX12_readEnd 9 = .ok (.aload_n 0, 1) := by decide +kernel
theorem dX12_readEnd_10 : decode cX12_readEnd 10 = .ok (.invokevirtual 414, 3) := by decide +kernel
theorem dX12_readEnd_13 : decode cX12_readEnd 13 = .ok (.istore_n 2, 1) := by decide +kernel
theorem dX12_readEnd_14 : decode cX12_readEnd 14 = .ok (.aload_n 0, 1) := by decide +kernel
theorem dX12_readEnd_15 : decode cX12_readEnd 15 = .ok (.getfield 208, 3) := by decide +kernel
theorem dX12_readEnd_18 : decode cX12_readEnd 18 = .ok (.ifCond .ne 21, 3) := by decide +kernel
theorem dX12_readEnd_21 : decode cX12_readEnd 21 = .ok (.aload_n 0, 1) := by decide +kernel
theorem dX12_readEnd_22 : decode cX12_readEnd 22 = .ok (.getfield 70, 3) := by decide +kernel
theorem dX12_readEnd_25 : decode cX12_readEnd 25 = .ok (.iload_n 1, 1) := by decide +kernel
theorem dX12_readEnd_26 : decode cX12_readEnd 26 = .ok (.laload, 1) := by decide +kernel
theorem dX12_readEnd_27 : decode cX12_readEnd 27 = .ok (.iload_n 2, 1) := by decide +kernel
theorem dX12_readEnd_28 : decode cX12_readEnd 28 = .ok (.invokestatic 366, 3) := by decide +kernel
theorem dX12_readEnd_31 : decode cX12_readEnd 31 = .ok (.ifCond .eq 8, 3) := by decide +kernel
theorem dX12_readEnd_34 : decode cX12_readEnd 34 = .ok (.aload_n 0, 1) := by decide +kernel
theorem dX12_readEnd_35 : decode cX12_readEnd 35 = .ok (.iconst 3, 1) := by decide +kernel
theorem dX12_readEnd_36 : decode cX12_readEnd 36 = .ok (.invokevirtual 268, 3) := by decide +kernel
theorem dX12_readEnd_39 : decode cX12_readEnd 39 = .ok (.aload_n 0, 1) := by decide +kernel
theorem dX12_readEnd_40 : decode cX12_readEnd 40 = .ok (.invokevirtual 262, 3) := by decide +kernel
theorem dX12_readEnd_43 : decode cX12_readEnd 43 = .ok (.aload_n 0, 1) := by decide +kernel
theorem dX12_readEnd_44 : decode cX12_readEnd 44 = .ok (.getfield 208, 3) := by decide +kernel
theorem dX12_readEnd_47 : decode cX12_readEnd 47 = .ok (.ifCond .ne 15, 3) := by decide +kernel
theorem dX12_readEnd_50 : decode cX12_readEnd 50 = .ok (.aload_n 0, 1) := by decide +kernel
theorem dX12_readEnd_51 : decode cX12_readEnd 51 = .ok (.getfield 70, 3) := by decide +kernel
theorem dX12_readEnd_54 : decode cX12_readEnd 54 = .ok (.iload_n 1, 1) := by decide +kernel
theorem dX12_readEnd_55 : decode cX12_readEnd 55 = .ok (.dup2, 1) := by decide +kernel
theorem dX12_readEnd_56 : decode cX12_readEnd 56 = .ok (.laload, 1) := by decide +kernel
theorem dX12_readEnd_57 : decode cX12_readEnd 57 = .ok (.lconst 1, 1) := by decide +kernel
theorem dX12_readEnd_58 : decode cX12_readEnd 58 = .ok (.iload_n 2, 1) := by decide +kernel
theorem dX12_readEnd_59 : decode cX12_readEnd 59 = .ok (.lshl, 1) := by decide +kernel
theorem dX12_readEnd_60 : decode cX12_readEnd 60 = .ok (.lor, 1) := by decide +kernel
theorem dX12_readEnd_61 : decode cX12_readEnd 61 = .ok (.lastore, 1) := by decide +kernel
theorem dX12_readEnd_62 : decode cX12_readEnd 62 = .ok (.return_, 1) := by decide +kernel
theorem dX12_feed_0 : decode cX12_feed 0 = .ok (.aload_n 0, 1) := by decide +kernel
theorem dX12_feed_1 : decode cX12_feed 1 = .ok (.iconst 0, 1) := by decide +kernel
theorem dX12_feed_2 : decode cX12_feed 2 = .ok (.putfield 190, 3) := by decide +kernel
theorem dX12_feed_5 : decode cX12_feed 5 = .ok (.aload_n 0, 1) := by decide +kernel
theorem dX12_feed_6 : decode cX12_feed 6 = .ok (.getfield 423, 3) := by decide +kernel
theorem dX12_feed_9 : decode cX12_feed 9 = .ok (.bipush 20, 2) := by decide +kernel
theorem dX12_feed_11 : decode cX12_feed 11 = .ok (.iadd, 1) := by decide +kernel
theorem dX12_feed_12 : decode cX12_feed 12 = .ok (.sipush 900, 3) := by decide +kernel
theorem dX12_feed_15 : decode cX12_feed 15 = .ok (.if_icmp .le 5, 3) := by decide +kernel
theorem dX12_feed_18 : decode cX12_feed 18 = .ok (.iconst (-1), 1) := by decide +kernel
theorem dX12_feed_19 : decode cX12_feed 19 = .ok (.ireturn, 1) := by decide +kernel
theorem dX12_feed_20 : decode cX12_feed 20 = .ok (.iconst 0, 1) := by decide +kernel
theorem dX12_feed_21 : decode cX12_feed 21 = .ok (.istore 6, 2) := by decide +kernel
theorem dX12_feed_23 : decode cX12_feed 23 = .ok (.iload 6, 2) := by decide +kernel
theorem dX12_feed_25 : decode cX12_feed 25 = .ok (.bipush 20, 2) := by decide +kernel
theorem dX12_feed_27 : decode cX12_feed 27 = .ok (.if_icmp .ge 90, 3) := by decide +kernel
theorem dX12_feed_30 : decode cX12_feed 30 = .ok (.iload 6, 2) := by decide +kernel
theorem dX12_feed_32 : decode cX12_feed 32 = .ok (.iconst 4, 1) := by decide +kernel
theorem dX12_feed_33 : decode cX12_feed 33 = .ok (.if_icmp .ge 7, 3) := by decide +kernel
theorem dX12_feed_36 : decode cX12_feed 36 = .ok (.iload_n 1, 1) := by decide +kernel
theorem dX12_feed_37 : decode cX12_feed 37 = .ok (.goto 39, 3) := by decide +kernel
theorem dX12_feed_40 : decode cX12_feed 40 = .ok (.iload 6, 2) := by decide +kernel
theorem dX12_feed_42 : decode cX12_feed 42 = .ok (.bipush 8, 2) := by decide +kernel
theorem dX12_feed_44 : decode cX12_feed 44 = .ok (.if_icmp .ge 7, 3) := by decide +kernel
theorem dX12_feed_47 : decode cX12_feed 47 = .ok (.iload_n 2, 1) := by decide +kernel
theorem dX12_feed_48 : decode cX12_feed 48 = .ok (.goto 28, 3) := by decide +kernel
theorem dX12_feed_51 : decode cX12_feed 51 = .ok (.iload 6, 2) := by decide +kernel
theorem dX12_feed_53 : decode cX12_feed 53 = .ok (.bipush 12, 2) := by decide +kernel
theorem dX12_feed_55 : decode cX12_feed 55 = .ok (.if_icmp .ge 7, 3) := by decide +kernel
theorem dX12_feed_58 : decode cX12_feed 58 = .ok (.iload_n 3, 1) := by decide +kernel
theorem dX12_feed_59 : decode cX12_feed 59 = .ok (.goto 17, 3) := by decide +kernel
theorem dX12_feed_62 : decode cX12_feed 62 = .ok (.iload 6, 2) := by decide +kernel
theorem dX12_feed_64 : decode cX12_feed 64 = .ok (.bipush 16, 2) := by decide +kernel
theorem dX12_feed_66 : decode cX12_feed 66 = .ok (.if_icmp .ge 8, 3) := by decide +kernel
theorem dX12_feed_69 : decode cX12_feed 69 = .ok (.iload 4, 2) := by decide +kernel
theorem dX12_feed_71 : decode cX12_feed 71 = .ok (.goto 5, 3) := by decide +kernel
theorem dX12_feed_74 : decode cX12_feed 74 = .ok (.iload 5, 2) := by decide +kernel
theorem dX12_feed_76 : decode cX12_feed 76 = .ok (.istore 7, 2) := by decide +kernel
theorem dX12_feed_78 : decode cX12_feed 78 = .ok (.aload_n 0, 1) := by decide +kernel
theorem dX12_feed_79 : decode cX12_feed 79 = .ok (.getfield 13, 3) := by decide +kernel
theorem dX12_feed_82 : decode cX12_feed 82 = .ok (.aload_n 0, 1) := by decide +kernel
theorem dX12_feed_83 : decode cX12_feed 83 = .ok (.getfield 423, 3) := by decide +kernel
theorem dX12_feed_86 : decode cX12_feed 86 = .ok (.iload 7, 2) := by decide +kernel
theorem dX12_feed_88 : decode cX12_feed 88 = .ok (.bipush 24, 2) := by decide +kernel
theorem dX12_feed_90 : decode cX12_feed 90 = .ok (.bipush 8, 2) := by decide +kernel
theorem dX12_feed_92 : decode cX12_feed 92 = .ok (.iload 6, 2) := by decide +kernel
theorem dX12_feed_94 : decode cX12_feed 94 = .ok (.iconst 4, 1) := by decide +kernel
theorem dX12_feed_95 : decode cX12_feed 95 = .ok (.irem, 1) := by decide +kernel
theorem dX12_feed_96 : decode cX12_feed 96 = .ok (.imul, 1) := by decide +kernel
theorem dX12_feed_97 : decode cX12_feed 97 = .ok (.isub, 1) := by decide +kernel
theorem dX12_feed_98 : decode cX12_feed 98 = .ok (.ishr, 1) := by decide +kernel
theorem dX12_feed_99 : decode cX12_feed 99 = .ok (.i2b, 1) := by decide +kernel
theorem dX12_feed_100 : decode cX12_feed 100 = .ok (.bastore, 1) := by decide +kernel
theorem dX12_feed_101 : decode cX12_feed 101 = .ok (.aload_n 0, 1) := by decide +kernel
theorem dX12_feed_102 : decode cX12_feed 102 = .ok (.dup, 1) := by decide +kernel
theorem dX12_feed_103 : decode cX12_feed 103 = .ok (.getfield 423, 3) := by decide +kernel
theorem dX12_feed_106 : decode cX12_feed 106 = .ok (.iconst 1, 1) := by decide +kernel
theorem dX12_feed_107 : decode cX12_feed 107 = .ok (.iadd, 1) := by decide +kernel
theorem dX12_feed_108 : decode cX12_feed 108 = .ok (.putfield 423, 3) := by decide +kernel
theorem dX12_feed_111 : decode cX12_feed 111 = .ok (.iinc 6 1, 3) := by decide +kernel
theorem dX12_feed_114 : decode cX12_feed 114 = .ok (.goto (-91), 3) := by decide +kernel
theorem dX12_feed_117 : decode cX12_feed 117 = .ok (.aload_n 0, 1) := by decide +kernel
theorem dX12_feed_118 : decode cX12_feed 118 = .ok (.getfield 423, 3) := by decide +kernel
theorem dX12_feed_121 : decode cX12_feed 121 = .ok (.ireturn, 1) := by decide +kernel
theorem dX12_bench_0 : decode cX12_bench 0 = .ok (.aload_n 0, 1) := by decide +kernel
theorem dX12_bench_1 : decode cX12_bench 1 = .ok (.iconst 0, 1) := by decide +kernel
theorem dX12_bench_2 : decode cX12_bench 2 = .ok (.putfield 190, 3) := by decide +kernel
theorem dX12_bench_5 : decode cX12_bench 5 = .ok (.iload_n 1, 1) := by decide +kernel
theorem dX12_bench_6 : decode cX12_bench 6 = .ok (.ifCond .lt 11, 3) := by decide +kernel
theorem dX12_bench_9 : decode cX12_bench 9 = .ok (.iload_n 1, 1) := by decide +kernel
theorem dX12_bench_10 : decode cX12_bench 10 = .ok (.aload_n 0, 1) := by decide +kernel
theorem dX12_bench_11 : decode cX12_bench 11 = .ok (.getfield 423, 3) := by decide +kernel
theorem dX12_bench_14 : decode cX12_bench 14 = .ok (.if_icmp .le 9, 3) := by decide +kernel
theorem dX12_bench_17 : decode cX12_bench 17 = .ok (.aload_n 0, 1) := by decide +kernel
theorem dX12_bench_18 : decode cX12_bench 18 = .ok (.iconst 2, 1) := by decide +kernel
theorem dX12_bench_19 : decode cX12_bench 19 = .ok (.invokevirtual 426, 3) := by decide +kernel
theorem dX12_bench_22 : decode cX12_bench 22 = .ok (.ireturn, 1) := by decide +kernel
theorem dX12_bench_23 : decode cX12_bench 23 = .ok (.aload_n 0, 1) := by decide +kernel
theorem dX12_bench_24 : decode cX12_bench 24 = .ok (.iload_n 1, 1) := by decide +kernel
theorem dX12_bench_25 : decode cX12_bench 25 = .ok (.putfield 205, 3) := by decide +kernel
theorem dX12_bench_28 : decode cX12_bench 28 = .ok (.aload_n 0, 1) := by decide +kernel
theorem dX12_bench_29 : decode cX12_bench 29 = .ok (.iconst 0, 1) := by decide +kernel
theorem dX12_bench_30 : decode cX12_bench 30 = .ok (.putfield 423, 3) := by decide +kernel
theorem dX12_bench_33 : decode cX12_bench 33 = .ok (.aload_n 0, 1) := by decide +kernel
theorem dX12_bench_34 : decode cX12_bench 34 = .ok (.iconst 0, 1) := by decide +kernel
theorem dX12_bench_35 : decode cX12_bench 35 = .ok (.putfield 211, 3) := by decide +kernel
theorem dX12_bench_38 : decode cX12_bench 38 = .ok (.aload_n 0, 1) := by decide +kernel
theorem dX12_bench_39 : decode cX12_bench 39 = .ok (.iconst 0, 1) := by decide +kernel
theorem dX12_bench_40 : decode cX12_bench 40 = .ok (.putfield 208, 3) := by decide +kernel
theorem dX12_bench_43 : decode cX12_bench 43 = .ok (.aload_n 0, 1) := by decide +kernel
theorem dX12_bench_44 : decode cX12_bench 44 = .ok (.iconst 0, 1) := by decide +kernel
theorem dX12_bench_45 : decode cX12_bench 45 = .ok (.putfield 363, 3) := by decide +kernel
theorem dX12_bench_48 : decode cX12_bench 48 = .ok (.aload_n 0, 1) := by decide +kernel
theorem dX12_bench_49 : decode cX12_bench 49 = .ok (.iconst 0, 1) := by decide +kernel
theorem dX12_bench_50 : decode cX12_bench 50 = .ok (.putfield 383, 3) := by decide +kernel
theorem dX12_bench_53 : decode cX12_bench 53 = .ok (.aload_n 0, 1) := by decide +kernel
theorem dX12_bench_54 : decode cX12_bench 54 = .ok (.invokevirtual 262, 3) := by decide +kernel
theorem dX12_bench_57 : decode cX12_bench 57 = .ok (.aload_n 0, 1) := by decide +kernel
theorem dX12_bench_58 : decode cX12_bench 58 = .ok (.invokevirtual 429, 3) := by decide +kernel
theorem dX12_bench_61 : decode cX12_bench 61 = .ok (.aload_n 0, 1) := by decide +kernel
theorem dX12_bench_62 : decode cX12_bench 62 = .ok (.getfield 208, 3) := by decide +kernel
theorem dX12_bench_65 : decode cX12_bench 65 = .ok (.ifCond .le 18, 3) := by decide +kernel
theorem dX12_bench_68 : decode cX12_bench 68 = .ok (.aload_n 0, 1) := by decide +kernel
theorem dX12_bench_69 : decode cX12_bench 69 = .ok (.iconst 4, 1) := by decide +kernel
theorem dX12_bench_70 : decode cX12_bench 70 = .ok (.putfield 193, 3) := by decide +kernel
theorem dX12_bench_73 : decode cX12_bench 73 = .ok (.aload_n 0, 1) := by decide +kernel
theorem dX12_bench_74 : decode cX12_bench 74 = .ok (.aload_n 0, 1) := by decide +kernel
theorem dX12_bench_75 : decode cX12_bench 75 = .ok (.getfield 217, 3) := by decide +kernel
theorem dX12_bench_78 : decode cX12_bench 78 = .ok (.putfield 9, 3) := by decide +kernel
theorem dX12_bench_81 : decode cX12_bench 81 = .ok (.iconst (-1), 1) := by decide +kernel
theorem dX12_bench_82 : decode cX12_bench 82 = .ok (.ireturn, 1) := by decide +kernel
theorem dX12_bench_83 : decode cX12_bench 83 = .ok (.aload_n 0, 1) := by decide +kernel
theorem dX12_bench_84 : decode cX12_bench 84 = .ok (.aload_n 0, 1) := by decide +kernel
theorem dX12_bench_85 : decode cX12_bench 85 = .ok (.getfield 363, 3) := by decide +kernel
theorem dX12_bench_88 : decode cX12_bench 88 = .ok (.putfield 432, 3) := by decide +kernel
theorem dX12_bench_91 : decode cX12_bench 91 = .ok (.iconst 0, 1) := by decide +kernel
theorem dX12_bench_92 : decode cX12_bench 92 = .ok (.istore_n 2, 1) := by decide +kernel
theorem dX12_bench_93 : decode cX12_bench 93 = .ok (.iload_n 2, 1) := by decide +kernel
theorem dX12_bench_94 : decode cX12_bench 94 = .ok (.aload_n 0, 1) := by decide +kernel
theorem dX12_bench_95 : decode cX12_bench 95 = .ok (.getfield 432, 3) := by decide +kernel
theorem dX12_bench_98 : decode cX12_bench 98 = .ok (.if_icmp .ge 14, 3) := by decide +kernel
theorem dX12_bench_101 : decode cX12_bench 101 = .ok (.aload_n 0, 1) := by decide +kernel
theorem dX12_bench_102 : decode cX12_bench 102 = .ok (.iload_n 2, 1) := by decide +kernel
theorem dX12_bench_103 : decode cX12_bench 103 = .ok (.invokevirtual 435, 3) := by decide +kernel
theorem dX12_bench_106 : decode cX12_bench 106 = .ok (.iinc 2 1, 3) := by decide +kernel
theorem dX12_bench_109 : decode cX12_bench 109 = .ok (.goto (-16), 3) := by decide +kernel
theorem dX12_bench_112 : decode cX12_bench 112 = .ok (.aload_n 0, 1) := by decide +kernel
theorem dX12_bench_113 : decode cX12_bench 113 = .ok (.aload_n 0, 1) := by decide +kernel
theorem dX12_bench_114 : decode cX12_bench 114 = .ok (.getfield 383, 3) := by decide +kernel
theorem dX12_bench_117 : decode cX12_bench 117 = .ok (.putfield 438, 3) := by decide +kernel
theorem dX12_bench_120 : decode cX12_bench 120 = .ok (.aload_n 0, 1) := by decide +kernel
theorem dX12_bench_121 : decode cX12_bench 121 = .ok (.aload_n 0, 1) := by decide +kernel
theorem dX12_bench_122 : decode cX12_bench 122 = .ok (.getfield 438, 3) := by decide +kernel
theorem dX12_bench_125 : decode cX12_bench 125 = .ok (.putfield 441, 3) := by decide +kernel
theorem dX12_bench_128 : decode cX12_bench 128 = .ok (.iconst 0, 1) := by decide +kernel
theorem dX12_bench_129 : decode cX12_bench 129 = .ok (.istore_n 2, 1) := by decide +kernel
theorem dX12_bench_130 : decode cX12_bench 130 = .ok (.iload_n 2, 1) := by decide +kernel
theorem dX12_bench_131 : decode cX12_bench 131 = .ok (.aload_n 0, 1) := by decide +kernel
theorem dX12_bench_132 : decode cX12_bench 132 = .ok (.getfield 438, 3) := by decide +kernel
theorem dX12_bench_135 : decode cX12_bench 135 = .ok (.if_icmp .ge 18, 3) := by decide +kernel
theorem dX12_bench_138 : decode cX12_bench 138 = .ok (.aload_n 0, 1) := by decide +kernel
theorem dX12_bench_139 : decode cX12_bench 139 = .ok (.bipush 10, 2) := by decide +kernel
theorem dX12_bench_141 : decode cX12_bench 141 = .ok (.iload_n 2, 1) := by decide +kernel
theorem dX12_bench_142 : decode cX12_bench 142 = .ok (.iadd, 1) := by decide +kernel
theorem dX12_bench_143 : decode cX12_bench 143 = .ok (.iload_n 2, 1) := by decide +kernel
theorem dX12_bench_144 : decode cX12_bench 144 = .ok (.invokevirtual 444, 3) := by decide +kernel
theorem dX12_bench_147 : decode cX12_bench 147 = .ok (.iinc 2 1, 3) := by decide +kernel
theorem dX12_bench_150 : decode cX12_bench 150 = .ok (.goto (-20), 3) := by decide +kernel
theorem dX12_bench_153 : decode cX12_bench 153 = .ok (.aload_n 0, 1) := by decide +kernel
theorem dX12_bench_154 : decode cX12_bench 154 = .ok (.aload_n 0, 1) := by decide +kernel
theorem dX12_bench_155 : decode cX12_bench 155 = .ok (.getfield 438, 3) := by decide +kernel
theorem dX12_bench_158 : decode cX12_bench 158 = .ok (.invokevirtual 196, 3) := by decide +kernel
theorem dX12_bench_161 : decode cX12_bench 161 = .ok (.ireturn, 1) := by decide +kernel
theorem dX12_keepsSet_0 : decode cX12_keepsSet 0 = .ok (.aload_n 0, 1) := by decide +kernel
theorem dX12_keepsSet_1 : decode cX12_keepsSet 1 = .ok (.getfield 28, 3) := by decide +kernel
theorem dX12_keepsSet_4 : decode cX12_keepsSet 4 = .ok (.iload_n 1, 1) := by decide +kernel
theorem dX12_keepsSet_5 : decode cX12_keepsSet 5 = .ok (.aload_n 0, 1) := by decide +kernel
theorem dX12_keepsSet_6 : decode cX12_keepsSet 6 = .ok (.getfield 28, 3) := by decide +kernel
theorem dX12_keepsSet_9 : decode cX12_keepsSet 9 = .ok (.bipush 12, 2) := by decide +kernel
theorem dX12_keepsSet_11 : decode cX12_keepsSet 11 = .ok (.iload_n 1, 1) := by decide +kernel
theorem dX12_keepsSet_12 : decode cX12_keepsSet 12 = .ok (.iadd, 1) := by decide +kernel
theorem dX12_keepsSet_13 : decode cX12_keepsSet 13 = .ok (.iaload, 1) := by decide +kernel
theorem dX12_keepsSet_14 : decode cX12_keepsSet 14 = .ok (.iastore, 1) := by decide +kernel
theorem dX12_keepsSet_15 : decode cX12_keepsSet 15 = .ok (.iconst 0, 1) := by decide +kernel
theorem dX12_keepsSet_16 : decode cX12_keepsSet 16 = .ok (.istore_n 2, 1) := by decide +kernel
theorem dX12_keepsSet_17 : decode cX12_keepsSet 17 = .ok (.iload_n 2, 1) := by decide +kernel
theorem dX12_keepsSet_18 : decode cX12_keepsSet 18 = .ok (.aload_n 0, 1) := by decide +kernel
theorem dX12_keepsSet_19 : decode cX12_keepsSet 19 = .ok (.getfield 28, 3) := by decide +kernel
theorem dX12_keepsSet_22 : decode cX12_keepsSet 22 = .ok (.iload_n 1, 1) := by decide +kernel
theorem dX12_keepsSet_23 : decode cX12_keepsSet 23 = .ok (.iaload, 1) := by decide +kernel
theorem dX12_keepsSet_24 : decode cX12_keepsSet 24 = .ok (.if_icmp .ge 59, 3) := by decide +kernel
theorem dX12_keepsSet_27 : decode cX12_keepsSet 27 = .ok (.aload_n 0, 1) := by decide +kernel
theorem dX12_keepsSet_28 : decode cX12_keepsSet 28 = .ok (.getfield 31, 3) := by decide +kernel
theorem dX12_keepsSet_31 : decode cX12_keepsSet 31 = .ok (.iload_n 1, 1) := by decide +kernel
theorem dX12_keepsSet_32 : decode cX12_keepsSet 32 = .ok (.bipush 24, 2) := by decide +kernel
theorem dX12_keepsSet_34 : decode cX12_keepsSet 34 = .ok (.imul, 1) := by decide +kernel
theorem dX12_keepsSet_35 : decode cX12_keepsSet 35 = .ok (.iload_n 2, 1) := by decide +kernel
theorem dX12_keepsSet_36 : decode cX12_keepsSet 36 = .ok (.iadd, 1) := by decide +kernel
theorem dX12_keepsSet_37 : decode cX12_keepsSet 37 = .ok (.aload_n 0, 1) := by decide +kernel
theorem dX12_keepsSet_38 : decode cX12_keepsSet 38 = .ok (.getfield 31, 3) := by decide +kernel
theorem dX12_keepsSet_41 : decode cX12_keepsSet 41 = .ok (.bipush 12, 2) := by decide +kernel
theorem dX12_keepsSet_43 : decode cX12_keepsSet 43 = .ok (.iload_n 1, 1) := by decide +kernel
theorem dX12_keepsSet_44 : decode cX12_keepsSet 44 = .ok (.iadd, 1) := by decide +kernel
theorem dX12_keepsSet_45 : decode cX12_keepsSet 45 = .ok (.bipush 24, 2) := by decide +kernel
theorem dX12_keepsSet_47 : decode cX12_keepsSet 47 = .ok (.imul, 1) := by decide +kernel
theorem dX12_keepsSet_48 : decode cX12_keepsSet 48 = .ok (.iload_n 2, 1) := by decide +kernel
theorem dX12_keepsSet_49 : decode cX12_keepsSet 49 = .ok (.iadd, 1) := by decide +kernel
theorem dX12_keepsSet_50 : decode cX12_keepsSet 50 = .ok (.iaload, 1) := by decide +kernel
theorem dX12_keepsSet_51 : decode cX12_keepsSet 51 = .ok (.iastore, 1) := by decide +kernel
theorem dX12_keepsSet_52 : decode cX12_keepsSet 52 = .ok (.aload_n 0, 1) := by decide +kernel
theorem dX12_keepsSet_53 : decode cX12_keepsSet 53 = .ok (.getfield 34, 3) := by decide +kernel
theorem dX12_keepsSet_56 : decode cX12_keepsSet 56 = .ok (.iload_n 1, 1) := by decide +kernel
theorem dX12_keepsSet_57 : decode cX12_keepsSet 57 = .ok (.bipush 24, 2) := by decide +kernel
theorem dX12_keepsSet_59 : decode cX12_keepsSet 59 = .ok (.imul, 1) := by decide +kernel
theorem dX12_keepsSet_60 : decode cX12_keepsSet 60 = .ok (.iload_n 2, 1) := by decide +kernel
theorem dX12_keepsSet_61 : decode cX12_keepsSet 61 = .ok (.iadd, 1) := by decide +kernel
theorem dX12_keepsSet_62 : decode cX12_keepsSet 62 = .ok (.aload_n 0, 1) := by decide +kernel
theorem dX12_keepsSet_63 : decode cX12_keepsSet 63 = .ok (.getfield 34, 3) := by decide +kernel
theorem dX12_keepsSet_66 : decode cX12_keepsSet 66 = .ok (.bipush 12, 2) := by decide +kernel
theorem dX12_keepsSet_68 : decode cX12_keepsSet 68 = .ok (.iload_n 1, 1) := by decide +kernel
theorem dX12_keepsSet_69 : decode cX12_keepsSet 69 = .ok (.iadd, 1) := by decide +kernel
theorem dX12_keepsSet_70 : decode cX12_keepsSet 70 = .ok (.bipush 24, 2) := by decide +kernel
theorem dX12_keepsSet_72 : decode cX12_keepsSet 72 = .ok (.imul, 1) := by decide +kernel
theorem dX12_keepsSet_73 : decode cX12_keepsSet 73 = .ok (.iload_n 2, 1) := by decide +kernel
theorem dX12_keepsSet_74 : decode cX12_keepsSet 74 = .ok (.iadd, 1) := by decide +kernel
theorem dX12_keepsSet_75 : decode cX12_keepsSet 75 = .ok (.iaload, 1) := by decide +kernel
theorem dX12_keepsSet_76 : decode cX12_keepsSet 76 = .ok (.iastore, 1) := by decide +kernel
theorem dX12_keepsSet_77 : decode cX12_keepsSet 77 = .ok (.iinc 2 1, 3) := by decide +kernel
theorem dX12_keepsSet_80 : decode cX12_keepsSet 80 = .ok (.goto (-63), 3) := by decide +kernel
theorem dX12_keepsSet_83 : decode cX12_keepsSet 83 = .ok (.return_, 1) := by decide +kernel
theorem dX12_fault_0 : decode cX12_fault 0 = .ok (.aload_n 0, 1) := by decide +kernel
theorem dX12_fault_1 : decode cX12_fault 1 = .ok (.iconst 0, 1) := by decide +kernel
theorem dX12_fault_2 : decode cX12_fault 2 = .ok (.putfield 190, 3) := by decide +kernel
theorem dX12_fault_5 : decode cX12_fault 5 = .ok (.aload_n 0, 1) := by decide +kernel
theorem dX12_fault_6 : decode cX12_fault 6 = .ok (.getfield 208, 3) := by decide +kernel
theorem dX12_fault_9 : decode cX12_fault 9 = .ok (.ireturn, 1) := by decide +kernel
theorem dX12_where_0 : decode cX12_where 0 = .ok (.aload_n 0, 1) := by decide +kernel
theorem dX12_where_1 : decode cX12_where 1 = .ok (.iconst 0, 1) := by decide +kernel
theorem dX12_where_2 : decode cX12_where 2 = .ok (.putfield 190, 3) := by decide +kernel
theorem dX12_where_5 : decode cX12_where 5 = .ok (.aload_n 0, 1) := by decide +kernel
theorem dX12_where_6 : decode cX12_where 6 = .ok (.getfield 9, 3) := by decide +kernel
theorem dX12_where_9 : decode cX12_where 9 = .ok (.ireturn, 1) := by decide +kernel
theorem dX12_isSet_0 : decode cX12_isSet 0 = .ok (.iload_n 1, 1) := by decide +kernel
theorem dX12_isSet_1 : decode cX12_isSet 1 = .ok (.ifCond .lt 15, 3) := by decide +kernel
theorem dX12_isSet_4 : decode cX12_isSet 4 = .ok (.iload_n 1, 1) := by decide +kernel
theorem dX12_isSet_5 : decode cX12_isSet 5 = .ok (.aload_n 0, 1) := by decide +kernel
theorem dX12_isSet_6 : decode cX12_isSet 6 = .ok (.getfield 432, 3) := by decide +kernel
theorem dX12_isSet_9 : decode cX12_isSet 9 = .ok (.if_icmp .ge 7, 3) := by decide +kernel
theorem dX12_isSet_12 : decode cX12_isSet 12 = .ok (.iconst 1, 1) := by decide +kernel
theorem dX12_isSet_13 : decode cX12_isSet 13 = .ok (.goto 4, 3) := by decide +kernel
theorem dX12_isSet_16 : decode cX12_isSet 16 = .ok (.iconst 0, 1) := by decide +kernel
theorem dX12_isSet_17 : decode cX12_isSet 17 = .ok (.ireturn, 1) := by decide +kernel
theorem dX12_setHas_0 : decode cX12_setHas 0 = .ok (.iconst 0, 1) := by decide +kernel
theorem dX12_setHas_1 : decode cX12_setHas 1 = .ok (.istore_n 3, 1) := by decide +kernel
theorem dX12_setHas_2 : decode cX12_setHas 2 = .ok (.iload_n 3, 1) := by decide +kernel
theorem dX12_setHas_3 : decode cX12_setHas 3 = .ok (.aload_n 0, 1) := by decide +kernel
theorem dX12_setHas_4 : decode cX12_setHas 4 = .ok (.getfield 28, 3) := by decide +kernel
theorem dX12_setHas_7 : decode cX12_setHas 7 = .ok (.iload_n 1, 1) := by decide +kernel
theorem dX12_setHas_8 : decode cX12_setHas 8 = .ok (.iaload, 1) := by decide +kernel
theorem dX12_setHas_9 : decode cX12_setHas 9 = .ok (.if_icmp .ge 40, 3) := by decide +kernel
theorem dX12_setHas_12 : decode cX12_setHas 12 = .ok (.iload_n 2, 1) := by decide +kernel
theorem dX12_setHas_13 : decode cX12_setHas 13 = .ok (.aload_n 0, 1) := by decide +kernel
theorem dX12_setHas_14 : decode cX12_setHas 14 = .ok (.getfield 31, 3) := by decide +kernel
theorem dX12_setHas_17 : decode cX12_setHas 17 = .ok (.iload_n 1, 1) := by decide +kernel
theorem dX12_setHas_18 : decode cX12_setHas 18 = .ok (.bipush 24, 2) := by decide +kernel
theorem dX12_setHas_20 : decode cX12_setHas 20 = .ok (.imul, 1) := by decide +kernel
theorem dX12_setHas_21 : decode cX12_setHas 21 = .ok (.iload_n 3, 1) := by decide +kernel
theorem dX12_setHas_22 : decode cX12_setHas 22 = .ok (.iadd, 1) := by decide +kernel
theorem dX12_setHas_23 : decode cX12_setHas 23 = .ok (.iaload, 1) := by decide +kernel
theorem dX12_setHas_24 : decode cX12_setHas 24 = .ok (.aload_n 0, 1) := by decide +kernel
theorem dX12_setHas_25 : decode cX12_setHas 25 = .ok (.getfield 34, 3) := by decide +kernel
theorem dX12_setHas_28 : decode cX12_setHas 28 = .ok (.iload_n 1, 1) := by decide +kernel
theorem dX12_setHas_29 : decode cX12_setHas 29 = .ok (.bipush 24, 2) := by decide +kernel
theorem dX12_setHas_31 : decode cX12_setHas 31 = .ok (.imul, 1) := by decide +kernel
theorem dX12_setHas_32 : decode cX12_setHas 32 = .ok (.iload_n 3, 1) := by decide +kernel
theorem dX12_setHas_33 : decode cX12_setHas 33 = .ok (.iadd, 1) := by decide +kernel
theorem dX12_setHas_34 : decode cX12_setHas 34 = .ok (.iaload, 1) := by decide +kernel
theorem dX12_setHas_35 : decode cX12_setHas 35 = .ok (.invokestatic 201, 3) := by decide +kernel
theorem dX12_setHas_38 : decode cX12_setHas 38 = .ok (.ifCond .eq 5, 3) := by decide +kernel
theorem dX12_setHas_41 : decode cX12_setHas 41 = .ok (.iconst 1, 1) := by decide +kernel
theorem dX12_setHas_42 : decode cX12_setHas 42 = .ok (.ireturn, 1) := by decide +kernel
theorem dX12_setHas_43 : decode cX12_setHas 43 = .ok (.iinc 3 1, 3) := by decide +kernel
theorem dX12_setHas_46 : decode cX12_setHas 46 = .ok (.goto (-44), 3) := by decide +kernel
theorem dX12_setHas_49 : decode cX12_setHas 49 = .ok (.iconst 0, 1) := by decide +kernel
theorem dX12_setHas_50 : decode cX12_setHas 50 = .ok (.ireturn, 1) := by decide +kernel
theorem dX12_setTurns_0 : decode cX12_setTurns 0 = .ok (.iconst 0, 1) := by decide +kernel
theorem dX12_setTurns_1 : decode cX12_setTurns 1 = .ok (.istore_n 3, 1) := by decide +kernel
theorem dX12_setTurns_2 : decode cX12_setTurns 2 = .ok (.iload_n 3, 1) := by decide +kernel
theorem dX12_setTurns_3 : decode cX12_setTurns 3 = .ok (.aload_n 0, 1) := by decide +kernel
theorem dX12_setTurns_4 : decode cX12_setTurns 4 = .ok (.getfield 28, 3) := by decide +kernel
theorem dX12_setTurns_7 : decode cX12_setTurns 7 = .ok (.iload_n 1, 1) := by decide +kernel
theorem dX12_setTurns_8 : decode cX12_setTurns 8 = .ok (.iaload, 1) := by decide +kernel
theorem dX12_setTurns_9 : decode cX12_setTurns 9 = .ok (.if_icmp .ge 65, 3) := by decide +kernel
theorem dX12_setTurns_12 : decode cX12_setTurns 12 = .ok (.aload_n 0, 1) := by decide +kernel
theorem dX12_setTurns_13 : decode cX12_setTurns 13 = .ok (.getfield 31, 3) := by decide +kernel
theorem dX12_setTurns_16 : decode cX12_setTurns 16 = .ok (.iload_n 1, 1) := by decide +kernel
theorem dX12_setTurns_17 : decode cX12_setTurns 17 = .ok (.bipush 24, 2) := by decide +kernel
theorem dX12_setTurns_19 : decode cX12_setTurns 19 = .ok (.imul, 1) := by decide +kernel
theorem dX12_setTurns_20 : decode cX12_setTurns 20 = .ok (.iload_n 3, 1) := by decide +kernel
theorem dX12_setTurns_21 : decode cX12_setTurns 21 = .ok (.iadd, 1) := by decide +kernel
theorem dX12_setTurns_22 : decode cX12_setTurns 22 = .ok (.iaload, 1) := by decide +kernel
theorem dX12_setTurns_23 : decode cX12_setTurns 23 = .ok (.iload_n 2, 1) := by decide +kernel
theorem dX12_setTurns_24 : decode cX12_setTurns 24 = .ok (.if_icmp .le 15, 3) := by decide +kernel
theorem dX12_setTurns_27 : decode cX12_setTurns 27 = .ok (.aload_n 0, 1) := by decide +kernel
theorem dX12_setTurns_28 : decode cX12_setTurns 28 = .ok (.getfield 31, 3) := by decide +kernel
theorem dX12_setTurns_31 : decode cX12_setTurns 31 = .ok (.iload_n 1, 1) := by decide +kernel
theorem dX12_setTurns_32 : decode cX12_setTurns 32 = .ok (.bipush 24, 2) := by decide +kernel
theorem dX12_setTurns_34 : decode cX12_setTurns 34 = .ok (.imul, 1) := by decide +kernel
theorem dX12_setTurns_35 : decode cX12_setTurns 35 = .ok (.iload_n 3, 1) := by decide +kernel
theorem dX12_setTurns_36 : decode cX12_setTurns 36 = .ok (.iadd, 1) := by decide +kernel
theorem dX12_setTurns_37 : decode cX12_setTurns 37 = .ok (.iaload, 1) := by decide +kernel
theorem dX12_setTurns_38 : decode cX12_setTurns 38 = .ok (.ireturn, 1) := by decide +kernel
theorem dX12_setTurns_39 : decode cX12_setTurns 39 = .ok (.aload_n 0, 1) := by decide +kernel
theorem dX12_setTurns_40 : decode cX12_setTurns 40 = .ok (.getfield 34, 3) := by decide +kernel
theorem dX12_setTurns_43 : decode cX12_setTurns 43 = .ok (.iload_n 1, 1) := by decide +kernel
theorem dX12_setTurns_44 : decode cX12_setTurns 44 = .ok (.bipush 24, 2) := by decide +kernel
theorem dX12_setTurns_46 : decode cX12_setTurns 46 = .ok (.imul, 1) := by decide +kernel
theorem dX12_setTurns_47 : decode cX12_setTurns 47 = .ok (.iload_n 3, 1) := by decide +kernel
theorem dX12_setTurns_48 : decode cX12_setTurns 48 = .ok (.iadd, 1) := by decide +kernel
theorem dX12_setTurns_49 : decode cX12_setTurns 49 = .ok (.iaload, 1) := by decide +kernel
theorem dX12_setTurns_50 : decode cX12_setTurns 50 = .ok (.iload_n 2, 1) := by decide +kernel
theorem dX12_setTurns_51 : decode cX12_setTurns 51 = .ok (.if_icmp .lt 17, 3) := by decide +kernel
theorem dX12_setTurns_54 : decode cX12_setTurns 54 = .ok (.aload_n 0, 1) := by decide +kernel
theorem dX12_setTurns_55 : decode cX12_setTurns 55 = .ok (.getfield 34, 3) := by decide +kernel
theorem dX12_setTurns_58 : decode cX12_setTurns 58 = .ok (.iload_n 1, 1) := by decide +kernel
theorem dX12_setTurns_59 : decode cX12_setTurns 59 = .ok (.bipush 24, 2) := by decide +kernel
theorem dX12_setTurns_61 : decode cX12_setTurns 61 = .ok (.imul, 1) := by decide +kernel
theorem dX12_setTurns_62 : decode cX12_setTurns 62 = .ok (.iload_n 3, 1) := by decide +kernel
theorem dX12_setTurns_63 : decode cX12_setTurns 63 = .ok (.iadd, 1) := by decide +kernel
theorem dX12_setTurns_64 : decode cX12_setTurns 64 = .ok (.iaload, 1) := by decide +kernel
theorem dX12_setTurns_65 : decode cX12_setTurns 65 = .ok (.iconst 1, 1) := by decide +kernel
theorem dX12_setTurns_66 : decode cX12_setTurns 66 = .ok (.iadd, 1) := by decide +kernel
theorem dX12_setTurns_67 : decode cX12_setTurns 67 = .ok (.ireturn, 1) := by decide +kernel
theorem dX12_setTurns_68 : decode cX12_setTurns 68 = .ok (.iinc 3 1, 3) := by decide +kernel
theorem dX12_setTurns_71 : decode cX12_setTurns 71 = .ok (.goto (-69), 3) := by decide +kernel
theorem dX12_setTurns_74 : decode cX12_setTurns 74 = .ok (.ldc_w 373, 3) := by decide +kernel
theorem dX12_setTurns_77 : decode cX12_setTurns 77 = .ok (.ireturn, 1) := by decide +kernel
theorem dX12_ranges_0 : decode cX12_ranges 0 = .ok (.aload_n 0, 1) := by decide +kernel
theorem dX12_ranges_1 : decode cX12_ranges 1 = .ok (.iconst 0, 1) := by decide +kernel
theorem dX12_ranges_2 : decode cX12_ranges 2 = .ok (.putfield 190, 3) := by decide +kernel
theorem dX12_ranges_5 : decode cX12_ranges 5 = .ok (.aload_n 0, 1) := by decide +kernel
theorem dX12_ranges_6 : decode cX12_ranges 6 = .ok (.iload_n 1, 1) := by decide +kernel
theorem dX12_ranges_7 : decode cX12_ranges 7 = .ok (.invokevirtual 447, 3) := by decide +kernel
theorem dX12_ranges_10 : decode cX12_ranges 10 = .ok (.ifCond .ne 9, 3) := by decide +kernel
theorem dX12_ranges_13 : decode cX12_ranges 13 = .ok (.aload_n 0, 1) := by decide +kernel
theorem dX12_ranges_14 : decode cX12_ranges 14 = .ok (.iconst 1, 1) := by decide +kernel
theorem dX12_ranges_15 : decode cX12_ranges 15 = .ok (.invokevirtual 426, 3) := by decide +kernel
theorem dX12_ranges_18 : decode cX12_ranges 18 = .ok (.ireturn, 1) := by decide +kernel
theorem dX12_ranges_19 : decode cX12_ranges 19 = .ok (.aload_n 0, 1) := by decide +kernel
theorem dX12_ranges_20 : decode cX12_ranges 20 = .ok (.aload_n 0, 1) := by decide +kernel
theorem dX12_ranges_21 : decode cX12_ranges 21 = .ok (.getfield 28, 3) := by decide +kernel
theorem dX12_ranges_24 : decode cX12_ranges 24 = .ok (.iload_n 1, 1) := by decide +kernel
theorem dX12_ranges_25 : decode cX12_ranges 25 = .ok (.iaload, 1) := by decide +kernel
theorem dX12_ranges_26 : decode cX12_ranges 26 = .ok (.invokevirtual 196, 3) := by decide +kernel
theorem dX12_ranges_29 : decode cX12_ranges 29 = .ok (.ireturn, 1) := by decide +kernel
theorem dX12_range_0 : decode cX12_range 0 = .ok (.aload_n 0, 1) := by decide +kernel
theorem dX12_range_1 : decode cX12_range 1 = .ok (.iconst 0, 1) := by decide +kernel
theorem dX12_range_2 : decode cX12_range 2 = .ok (.putfield 190, 3) := by decide +kernel
theorem dX12_range_5 : decode cX12_range 5 = .ok (.aload_n 0, 1) := by decide +kernel
theorem dX12_range_6 : decode cX12_range 6 = .ok (.iload_n 1, 1) := by decide +kernel
theorem dX12_range_7 : decode cX12_range 7 = .ok (.invokevirtual 447, 3) := by decide +kernel
theorem dX12_range_10 : decode cX12_range 10 = .ok (.ifCond .eq 17, 3) := by decide +kernel
theorem dX12_range_13 : decode cX12_range 13 = .ok (.iload_n 2, 1) := by decide +kernel
theorem dX12_range_14 : decode cX12_range 14 = .ok (.ifCond .lt 13, 3) := by decide +kernel
theorem dX12_range_17 : decode cX12_range 17 = .ok (.iload_n 2, 1) := by decide +kernel
theorem dX12_range_18 : decode cX12_range 18 = .ok (.aload_n 0, 1) := by decide +kernel
theorem dX12_range_19 : decode cX12_range 19 = .ok (.getfield 28, 3) := by decide +kernel
theorem dX12_range_22 : decode cX12_range 22 = .ok (.iload_n 1, 1) := by decide +kernel
theorem dX12_range_23 : decode cX12_range 23 = .ok (.iaload, 1) := by decide +kernel
theorem dX12_range_24 : decode cX12_range 24 = .ok (.if_icmp .lt 9, 3) := by decide +kernel
theorem dX12_range_27 : decode cX12_range 27 = .ok (.aload_n 0, 1) := by decide +kernel
theorem dX12_range_28 : decode cX12_range 28 = .ok (.iconst 1, 1) := by decide +kernel
theorem dX12_range_29 : decode cX12_range 29 = .ok (.invokevirtual 426, 3) := by decide +kernel
theorem dX12_range_32 : decode cX12_range 32 = .ok (.ireturn, 1) := by decide +kernel
theorem dX12_range_33 : decode cX12_range 33 = .ok (.aload_n 0, 1) := by decide +kernel
theorem dX12_range_34 : decode cX12_range 34 = .ok (.iload_n 3, 1) := by decide +kernel
theorem dX12_range_35 : decode cX12_range 35 = .ok (.ifCond .eq 17, 3) := by decide +kernel
theorem dX12_range_38 : decode cX12_range 38 = .ok (.aload_n 0, 1) := by decide +kernel
theorem dX12_range_39 : decode cX12_range 39 = .ok (.getfield 34, 3) := by decide +kernel
theorem dX12_range_42 : decode cX12_range 42 = .ok (.iload_n 1, 1) := by decide +kernel
theorem dX12_range_43 : decode cX12_range 43 = .ok (.bipush 24, 2) := by decide +kernel
theorem dX12_range_45 : decode cX12_range 45 = .ok (.imul, 1) := by decide +kernel
theorem dX12_range_46 : decode cX12_range 46 = .ok (.iload_n 2, 1) := by decide +kernel
theorem dX12_range_47 : decode cX12_range 47 = .ok (.iadd, 1) := by decide +kernel
theorem dX12_range_48 : decode cX12_range 48 = .ok (.iaload, 1) := by decide +kernel
theorem dX12_range_49 : decode cX12_range 49 = .ok (.goto 14, 3) := by decide +kernel
theorem dX12_range_52 : decode cX12_range 52 = .ok (.aload_n 0, 1) := by decide +kernel
theorem dX12_range_53 : decode cX12_range 53 = .ok (.getfield 31, 3) := by decide +kernel
theorem dX12_range_56 : decode cX12_range 56 = .ok (.iload_n 1, 1) := by decide +kernel
theorem dX12_range_57 : decode cX12_range 57 = .ok (.bipush 24, 2) := by decide +kernel
theorem dX12_range_59 : decode cX12_range 59 = .ok (.imul, 1) := by decide +kernel
theorem dX12_range_60 : decode cX12_range 60 = .ok (.iload_n 2, 1) := by decide +kernel
theorem dX12_range_61 : decode cX12_range 61 = .ok (.iadd, 1) := by decide +kernel
theorem dX12_range_62 : decode cX12_range 62 = .ok (.iaload, 1) := by decide +kernel
theorem dX12_range_63 : decode cX12_range 63 = .ok (.invokevirtual 196, 3) := by decide +kernel
theorem dX12_range_66 : decode cX12_range 66 = .ok (.ireturn, 1) := by decide +kernel
theorem dX12_letters_0 : decode cX12_letters 0 = .ok (.aload_n 0, 1) := by decide +kernel
theorem dX12_letters_1 : decode cX12_letters 1 = .ok (.iconst 0, 1) := by decide +kernel
theorem dX12_letters_2 : decode cX12_letters 2 = .ok (.putfield 190, 3) := by decide +kernel
theorem dX12_letters_5 : decode cX12_letters 5 = .ok (.aload_n 0, 1) := by decide +kernel
theorem dX12_letters_6 : decode cX12_letters 6 = .ok (.iload_n 1, 1) := by decide +kernel
theorem dX12_letters_7 : decode cX12_letters 7 = .ok (.invokevirtual 447, 3) := by decide +kernel
theorem dX12_letters_10 : decode cX12_letters 10 = .ok (.ifCond .ne 9, 3) := by decide +kernel
theorem dX12_letters_13 : decode cX12_letters 13 = .ok (.aload_n 0, 1) := by decide +kernel
theorem dX12_letters_14 : decode cX12_letters 14 = .ok (.iconst 1, 1) := by decide +kernel
theorem dX12_letters_15 : decode cX12_letters 15 = .ok (.invokevirtual 426, 3) := by decide +kernel
theorem dX12_letters_18 : decode cX12_letters 18 = .ok (.ireturn, 1) := by decide +kernel
theorem dX12_letters_19 : decode cX12_letters 19 = .ok (.iconst 0, 1) := by decide +kernel
theorem dX12_letters_20 : decode cX12_letters 20 = .ok (.istore_n 2, 1) := by decide +kernel
theorem dX12_letters_21 : decode cX12_letters 21 = .ok (.iconst 0, 1) := by decide +kernel
theorem dX12_letters_22 : decode cX12_letters 22 = .ok (.istore_n 3, 1) := by decide +kernel
theorem dX12_letters_23 : decode cX12_letters 23 = .ok (.iload_n 3, 1) := by decide +kernel
theorem dX12_letters_24 : decode cX12_letters 24 = .ok (.aload_n 0, 1) := by decide +kernel
theorem dX12_letters_25 : decode cX12_letters 25 = .ok (.getfield 28, 3) := by decide +kernel
theorem dX12_letters_28 : decode cX12_letters 28 = .ok (.iload_n 1, 1) := by decide +kernel
theorem dX12_letters_29 : decode cX12_letters 29 = .ok (.iaload, 1) := by decide +kernel
theorem dX12_letters_30 : decode cX12_letters 30 = .ok (.if_icmp .ge 37, 3) := by decide +kernel
theorem dX12_letters_33 : decode cX12_letters 33 = .ok (.iload_n 2, 1) := by decide +kernel
theorem dX12_letters_34 : decode cX12_letters 34 = .ok (.aload_n 0, 1) := by decide +kernel
theorem dX12_letters_35 : decode cX12_letters 35 = .ok (.getfield 34, 3) := by decide +kernel
theorem dX12_letters_38 : decode cX12_letters 38 = .ok (.iload_n 1, 1) := by decide +kernel
theorem dX12_letters_39 : decode cX12_letters 39 = .ok (.bipush 24, 2) := by decide +kernel
theorem dX12_letters_41 : decode cX12_letters 41 = .ok (.imul, 1) := by decide +kernel
theorem dX12_letters_42 : decode cX12_letters 42 = .ok (.iload_n 3, 1) := by decide +kernel
theorem dX12_letters_43 : decode cX12_letters 43 = .ok (.iadd, 1) := by decide +kernel
theorem dX12_letters_44 : decode cX12_letters 44 = .ok (.iaload, 1) := by decide +kernel
theorem dX12_letters_45 : decode cX12_letters 45 = .ok (.aload_n 0, 1) := by decide +kernel
theorem dX12_letters_46 : decode cX12_letters 46 = .ok (.getfield 31, 3) := by decide +kernel
theorem dX12_letters_49 : decode cX12_letters 49 = .ok (.iload_n 1, 1) := by decide +kernel
theorem dX12_letters_50 : decode cX12_letters 50 = .ok (.bipush 24, 2) := by decide +kernel
theorem dX12_letters_52 : decode cX12_letters 52 = .ok (.imul, 1) := by decide +kernel
theorem dX12_letters_53 : decode cX12_letters 53 = .ok (.iload_n 3, 1) := by decide +kernel
theorem dX12_letters_54 : decode cX12_letters 54 = .ok (.iadd, 1) := by decide +kernel
theorem dX12_letters_55 : decode cX12_letters 55 = .ok (.iaload, 1) := by decide +kernel
theorem dX12_letters_56 : decode cX12_letters 56 = .ok (.isub, 1) := by decide +kernel
theorem dX12_letters_57 : decode cX12_letters 57 = .ok (.iconst 1, 1) := by decide +kernel
theorem dX12_letters_58 : decode cX12_letters 58 = .ok (.iadd, 1) := by decide +kernel
theorem dX12_letters_59 : decode cX12_letters 59 = .ok (.iadd, 1) := by decide +kernel
theorem dX12_letters_60 : decode cX12_letters 60 = .ok (.istore_n 2, 1) := by decide +kernel
theorem dX12_letters_61 : decode cX12_letters 61 = .ok (.iinc 3 1, 3) := by decide +kernel
theorem dX12_letters_64 : decode cX12_letters 64 = .ok (.goto (-41), 3) := by decide +kernel
theorem dX12_letters_67 : decode cX12_letters 67 = .ok (.aload_n 0, 1) := by decide +kernel
theorem dX12_letters_68 : decode cX12_letters 68 = .ok (.iload_n 2, 1) := by decide +kernel
theorem dX12_letters_69 : decode cX12_letters 69 = .ok (.invokevirtual 196, 3) := by decide +kernel
theorem dX12_letters_72 : decode cX12_letters 72 = .ok (.ireturn, 1) := by decide +kernel
theorem dX12_has_0 : decode cX12_has 0 = .ok (.aload_n 0, 1) := by decide +kernel
theorem dX12_has_1 : decode cX12_has 1 = .ok (.iconst 0, 1) := by decide +kernel
theorem dX12_has_2 : decode cX12_has 2 = .ok (.putfield 190, 3) := by decide +kernel
theorem dX12_has_5 : decode cX12_has 5 = .ok (.aload_n 0, 1) := by decide +kernel
theorem dX12_has_6 : decode cX12_has 6 = .ok (.iload_n 1, 1) := by decide +kernel
theorem dX12_has_7 : decode cX12_has 7 = .ok (.invokevirtual 447, 3) := by decide +kernel
theorem dX12_has_10 : decode cX12_has 10 = .ok (.ifCond .ne 9, 3) := by decide +kernel
theorem dX12_has_13 : decode cX12_has 13 = .ok (.aload_n 0, 1) := by decide +kernel
theorem dX12_has_14 : decode cX12_has 14 = .ok (.iconst 1, 1) := by decide +kernel
theorem dX12_has_15 : decode cX12_has 15 = .ok (.invokevirtual 426, 3) := by decide +kernel
theorem dX12_has_18 : decode cX12_has 18 = .ok (.ireturn, 1) := by decide +kernel
theorem dX12_has_19 : decode cX12_has 19 = .ok (.iload_n 2, 1) := by decide +kernel
theorem dX12_has_20 : decode cX12_has 20 = .ok (.invokestatic 450, 3) := by decide +kernel
theorem dX12_has_23 : decode cX12_has 23 = .ok (.ifCond .ne 9, 3) := by decide +kernel
theorem dX12_has_26 : decode cX12_has 26 = .ok (.aload_n 0, 1) := by decide +kernel
theorem dX12_has_27 : decode cX12_has 27 = .ok (.iconst 2, 1) := by decide +kernel
theorem dX12_has_28 : decode cX12_has 28 = .ok (.invokevirtual 426, 3) := by decide +kernel
theorem dX12_has_31 : decode cX12_has 31 = .ok (.ireturn, 1) := by decide +kernel
theorem dX12_has_32 : decode cX12_has 32 = .ok (.aload_n 0, 1) := by decide +kernel
theorem dX12_has_33 : decode cX12_has 33 = .ok (.aload_n 0, 1) := by decide +kernel
theorem dX12_has_34 : decode cX12_has 34 = .ok (.iload_n 1, 1) := by decide +kernel
theorem dX12_has_35 : decode cX12_has 35 = .ok (.iload_n 2, 1) := by decide +kernel
theorem dX12_has_36 : decode cX12_has 36 = .ok (.invokevirtual 453, 3) := by decide +kernel
theorem dX12_has_39 : decode cX12_has 39 = .ok (.ifCond .eq 7, 3) := by decide +kernel
theorem dX12_has_42 : decode cX12_has 42 = .ok (.iconst 1, 1) := by decide +kernel
theorem dX12_has_43 : decode cX12_has 43 = .ok (.goto 4, 3) := by decide +kernel
theorem dX12_has_46 : decode cX12_has 46 = .ok (.iconst 0, 1) := by decide +kernel
theorem dX12_has_47 : decode cX12_has 47 = .ok (.invokevirtual 196, 3) := by decide +kernel
theorem dX12_has_50 : decode cX12_has 50 = .ok (.ireturn, 1) := by decide +kernel
theorem dX12_mixes_0 : decode cX12_mixes 0 = .ok (.aload_n 0, 1) := by decide +kernel
theorem dX12_mixes_1 : decode cX12_mixes 1 = .ok (.iconst 0, 1) := by decide +kernel
theorem dX12_mixes_2 : decode cX12_mixes 2 = .ok (.putfield 457, 3) := by decide +kernel
theorem dX12_mixes_5 : decode cX12_mixes 5 = .ok (.aload_n 0, 1) := by decide +kernel
theorem dX12_mixes_6 : decode cX12_mixes 6 = .ok (.iconst 0, 1) := by decide +kernel
theorem dX12_mixes_7 : decode cX12_mixes 7 = .ok (.putfield 460, 3) := by decide +kernel
theorem dX12_mixes_10 : decode cX12_mixes 10 = .ok (.iconst 0, 1) := by decide +kernel
theorem dX12_mixes_11 : decode cX12_mixes 11 = .ok (.istore 5, 2) := by decide +kernel
theorem dX12_mixes_13 : decode cX12_mixes 13 = .ok (.iconst 0, 1) := by decide +kernel
theorem dX12_mixes_14 : decode cX12_mixes 14 = .ok (.istore 6, 2) := by decide +kernel
theorem dX12_mixes_16 : decode cX12_mixes 16 = .ok (.iload 5, 2) := by decide +kernel
theorem dX12_mixes_18 : decode cX12_mixes 18 = .ok (.ldc_w 373, 3) := by decide +kernel
theorem dX12_mixes_21 : decode cX12_mixes 21 = .ok (.if_icmp .ge 146, 3) := by decide +kernel
theorem dX12_mixes_24 : decode cX12_mixes 24 = .ok (.aload_n 0, 1) := by decide +kernel
theorem dX12_mixes_25 : decode cX12_mixes 25 = .ok (.iload_n 1, 1) := by decide +kernel
theorem dX12_mixes_26 : decode cX12_mixes 26 = .ok (.iload 5, 2) := by decide +kernel
theorem dX12_mixes_28 : decode cX12_mixes 28 = .ok (.invokevirtual 463, 3) := by decide +kernel
theorem dX12_mixes_31 : decode cX12_mixes 31 = .ok (.istore 7, 2) := by decide +kernel
theorem dX12_mixes_33 : decode cX12_mixes 33 = .ok (.aload_n 0, 1) := by decide +kernel
theorem dX12_mixes_34 : decode cX12_mixes 34 = .ok (.iload_n 2, 1) := by decide +kernel
theorem dX12_mixes_35 : decode cX12_mixes 35 = .ok (.iload 5, 2) := by decide +kernel
theorem dX12_mixes_37 : decode cX12_mixes 37 = .ok (.invokevirtual 463, 3) := by decide +kernel
theorem dX12_mixes_40 : decode cX12_mixes 40 = .ok (.istore 8, 2) := by decide +kernel
theorem dX12_mixes_42 : decode cX12_mixes 42 = .ok (.iload 7, 2) := by decide +kernel
theorem dX12_mixes_44 : decode cX12_mixes 44 = .ok (.iload 8, 2) := by decide +kernel
theorem dX12_mixes_46 : decode cX12_mixes 46 = .ok (.if_icmp .ge 8, 3) := by decide +kernel
theorem dX12_mixes_49 : decode cX12_mixes 49 = .ok (.iload 7, 2) := by decide +kernel
theorem dX12_mixes_51 : decode cX12_mixes 51 = .ok (.goto 5, 3) := by decide +kernel
theorem dX12_mixes_54 : decode cX12_mixes 54 = .ok (.iload 8, 2) := by decide +kernel
theorem dX12_mixes_56 : decode cX12_mixes 56 = .ok (.istore 9, 2) := by decide +kernel
theorem dX12_mixes_58 : decode cX12_mixes 58 = .ok (.iload_n 3, 1) := by decide +kernel
theorem dX12_mixes_59 : decode cX12_mixes 59 = .ok (.aload_n 0, 1) := by decide +kernel
theorem dX12_mixes_60 : decode cX12_mixes 60 = .ok (.iload_n 1, 1) := by decide +kernel
theorem dX12_mixes_61 : decode cX12_mixes 61 = .ok (.iload 5, 2) := by decide +kernel
theorem dX12_mixes_63 : decode cX12_mixes 63 = .ok (.invokevirtual 453, 3) := by decide +kernel
theorem dX12_mixes_66 : decode cX12_mixes 66 = .ok (.aload_n 0, 1) := by decide +kernel
theorem dX12_mixes_67 : decode cX12_mixes 67 = .ok (.iload_n 2, 1) := by decide +kernel
theorem dX12_mixes_68 : decode cX12_mixes 68 = .ok (.iload 5, 2) := by decide +kernel
theorem dX12_mixes_70 : decode cX12_mixes 70 = .ok (.invokevirtual 453, 3) := by decide +kernel
theorem dX12_mixes_73 : decode cX12_mixes 73 = .ok (.invokestatic 466, 3) := by decide +kernel
theorem dX12_mixes_76 : decode cX12_mixes 76 = .ok (.istore 10, 2) := by decide +kernel
theorem dX12_mixes_78 : decode cX12_mixes 78 = .ok (.iload 10, 2) := by decide +kernel
theorem dX12_mixes_80 : decode cX12_mixes 80 = .ok (.ifCond .eq 33, 3) := by decide +kernel
theorem dX12_mixes_83 : decode cX12_mixes 83 = .ok (.iload 6, 2) := by decide +kernel
theorem dX12_mixes_85 : decode cX12_mixes 85 = .ok (.ifCond .ne 28, 3) := by decide +kernel
theorem dX12_mixes_88 : decode cX12_mixes 88 = .ok (.aload_n 0, 1) := by decide +kernel
theorem dX12_mixes_89 : decode cX12_mixes 89 = .ok (.getfield 457, 3) := by decide +kernel
theorem dX12_mixes_92 : decode cX12_mixes 92 = .ok (.iload 4, 2) := by decide +kernel
theorem dX12_mixes_94 : decode cX12_mixes 94 = .ok (.if_icmp .ne 9, 3) := by decide +kernel
theorem dX12_mixes_97 : decode cX12_mixes 97 = .ok (.aload_n 0, 1) := by decide +kernel
theorem dX12_mixes_98 : decode cX12_mixes 98 = .ok (.iload 5, 2) := by decide +kernel
theorem dX12_mixes_100 : decode cX12_mixes 100 = .ok (.putfield 470, 3) := by decide +kernel
theorem dX12_mixes_103 : decode cX12_mixes 103 = .ok (.aload_n 0, 1) := by decide +kernel
theorem dX12_mixes_104 : decode cX12_mixes 104 = .ok (.dup, 1) := by decide +kernel
theorem dX12_mixes_105 : decode cX12_mixes 105 = .ok (.getfield 457, 3) := by decide +kernel
theorem dX12_mixes_108 : decode cX12_mixes 108 = .ok (.iconst 1, 1) := by decide +kernel
theorem dX12_mixes_109 : decode cX12_mixes 109 = .ok (.iadd, 1) := by decide +kernel
theorem dX12_mixes_110 : decode cX12_mixes 110 = .ok (.putfield 457, 3) := by decide +kernel
theorem dX12_mixes_113 : decode cX12_mixes 113 = .ok (.iload 10, 2) := by decide +kernel
theorem dX12_mixes_115 : decode cX12_mixes 115 = .ok (.ifCond .eq 17, 3) := by decide +kernel
theorem dX12_mixes_118 : decode cX12_mixes 118 = .ok (.aload_n 0, 1) := by decide +kernel
theorem dX12_mixes_119 : decode cX12_mixes 119 = .ok (.dup, 1) := by decide +kernel
theorem dX12_mixes_120 : decode cX12_mixes 120 = .ok (.getfield 460, 3) := by decide +kernel
theorem dX12_mixes_123 : decode cX12_mixes 123 = .ok (.iload 9, 2) := by decide +kernel
theorem dX12_mixes_125 : decode cX12_mixes 125 = .ok (.iload 5, 2) := by decide +kernel
theorem dX12_mixes_127 : decode cX12_mixes 127 = .ok (.isub, 1) := by decide +kernel
theorem dX12_mixes_128 : decode cX12_mixes 128 = .ok (.iadd, 1) := by decide +kernel
theorem dX12_mixes_129 : decode cX12_mixes 129 = .ok (.putfield 460, 3) := by decide +kernel
theorem dX12_mixes_132 : decode cX12_mixes 132 = .ok (.iload 10, 2) := by decide +kernel
theorem dX12_mixes_134 : decode cX12_mixes 134 = .ok (.ifCond .eq 22, 3) := by decide +kernel
theorem dX12_mixes_137 : decode cX12_mixes 137 = .ok (.aload_n 0, 1) := by decide +kernel
theorem dX12_mixes_138 : decode cX12_mixes 138 = .ok (.getfield 457, 3) := by decide +kernel
theorem dX12_mixes_141 : decode cX12_mixes 141 = .ok (.iload 4, 2) := by decide +kernel
theorem dX12_mixes_143 : decode cX12_mixes 143 = .ok (.iconst 1, 1) := by decide +kernel
theorem dX12_mixes_144 : decode cX12_mixes 144 = .ok (.iadd, 1) := by decide +kernel
theorem dX12_mixes_145 : decode cX12_mixes 145 = .ok (.if_icmp .ne 11, 3) := by decide +kernel
theorem dX12_mixes_148 : decode cX12_mixes 148 = .ok (.aload_n 0, 1) := by decide +kernel
theorem dX12_mixes_149 : decode cX12_mixes 149 = .ok (.iload 9, 2) := by decide +kernel
theorem dX12_mixes_151 : decode cX12_mixes 151 = .ok (.iconst 1, 1) := by decide +kernel
theorem dX12_mixes_152 : decode cX12_mixes 152 = .ok (.isub, 1) := by decide +kernel
theorem dX12_mixes_153 : decode cX12_mixes 153 = .ok (.putfield 473, 3) := by decide +kernel
theorem dX12_mixes_156 : decode cX12_mixes 156 = .ok (.iload 10, 2) := by decide +kernel
theorem dX12_mixes_158 : decode cX12_mixes 158 = .ok (.istore 6, 2) := by decide +kernel
theorem dX12_mixes_160 : decode cX12_mixes 160 = .ok (.iload 9, 2) := by decide +kernel
theorem dX12_mixes_162 : decode cX12_mixes 162 = .ok (.istore 5, 2) := by decide +kernel
theorem dX12_mixes_164 : decode cX12_mixes 164 = .ok (.goto (-148), 3) := by decide +kernel
theorem dX12_mixes_167 : decode cX12_mixes 167 = .ok (.return_, 1) := by decide +kernel
theorem dX12_refusesMix_0 : decode cX12_refusesMix 0 = .ok (.aload_n 0, 1) := by decide +kernel
theorem dX12_refusesMix_1 : decode cX12_refusesMix 1 = .ok (.iload_n 1, 1) := by decide +kernel
theorem dX12_refusesMix_2 : decode cX12_refusesMix 2 = .ok (.invokevirtual 447, 3) := by decide +kernel
theorem dX12_refusesMix_5 : decode cX12_refusesMix 5 = .ok (.ifCond .eq 11, 3) := by decide +kernel
theorem dX12_refusesMix_8 : decode cX12_refusesMix 8 = .ok (.aload_n 0, 1) := by decide +kernel
theorem dX12_refusesMix_9 : decode cX12_refusesMix 9 = .ok (.iload_n 2, 1) := by decide +kernel
theorem dX12_refusesMix_10 : decode cX12_refusesMix 10 = .ok (.invokevirtual 447, 3) := by decide +kernel
theorem dX12_refusesMix_13 : decode cX12_refusesMix 13 = .ok (.ifCond .ne 5, 3) := by decide +kernel
theorem dX12_refusesMix_16 : decode cX12_refusesMix 16 = .ok (.iconst 1, 1) := by decide +kernel
theorem dX12_refusesMix_17 : decode cX12_refusesMix 17 = .ok (.ireturn, 1) := by decide +kernel
theorem dX12_refusesMix_18 : decode cX12_refusesMix 18 = .ok (.iload_n 3, 1) := by decide +kernel
theorem dX12_refusesMix_19 : decode cX12_refusesMix 19 = .ok (.iconst 0, 1) := by decide +kernel
theorem dX12_refusesMix_20 : decode cX12_refusesMix 20 = .ok (.bipush 15, 2) := by decide +kernel
theorem dX12_refusesMix_22 : decode cX12_refusesMix 22 = .ok (.invokestatic 201, 3) := by decide +kernel
theorem dX12_refusesMix_25 : decode cX12_refusesMix 25 = .ok (.ifCond .eq 7, 3) := by decide +kernel
theorem dX12_refusesMix_28 : decode cX12_refusesMix 28 = .ok (.iconst 0, 1) := by decide +kernel
theorem dX12_refusesMix_29 : decode cX12_refusesMix 29 = .ok (.goto 4, 3) := by decide +kernel
theorem dX12_refusesMix_32 : decode cX12_refusesMix 32 = .ok (.iconst 2, 1) := by decide +kernel
theorem dX12_refusesMix_33 : decode cX12_refusesMix 33 = .ok (.ireturn, 1) := by decide +kernel
theorem dX12_mixed_0 : decode cX12_mixed 0 = .ok (.aload_n 0, 1) := by decide +kernel
theorem dX12_mixed_1 : decode cX12_mixed 1 = .ok (.iconst 0, 1) := by decide +kernel
theorem dX12_mixed_2 : decode cX12_mixed 2 = .ok (.putfield 190, 3) := by decide +kernel
theorem dX12_mixed_5 : decode cX12_mixed 5 = .ok (.aload_n 0, 1) := by decide +kernel
theorem dX12_mixed_6 : decode cX12_mixed 6 = .ok (.iload_n 1, 1) := by decide +kernel
theorem dX12_mixed_7 : decode cX12_mixed 7 = .ok (.iload_n 2, 1) := by decide +kernel
theorem dX12_mixed_8 : decode cX12_mixed 8 = .ok (.iload_n 3, 1) := by decide +kernel
theorem dX12_mixed_9 : decode cX12_mixed 9 = .ok (.invokevirtual 476, 3) := by decide +kernel
theorem dX12_mixed_12 : decode cX12_mixed 12 = .ok (.istore 4, 2) := by decide +kernel
theorem dX12_mixed_14 : decode cX12_mixed 14 = .ok (.iload 4, 2) := by decide +kernel
theorem dX12_mixed_16 : decode cX12_mixed 16 = .ok (.ifCond .le 10, 3) := by decide +kernel
theorem dX12_mixed_19 : decode cX12_mixed 19 = .ok (.aload_n 0, 1) := by decide +kernel
theorem dX12_mixed_20 : decode cX12_mixed 20 = .ok (.iload 4, 2) := by decide +kernel
theorem dX12_mixed_22 : decode cX12_mixed 22 = .ok (.invokevirtual 426, 3) := by decide +kernel
theorem dX12_mixed_25 : decode cX12_mixed 25 = .ok (.ireturn, 1) := by decide +kernel
theorem dX12_mixed_26 : decode cX12_mixed 26 = .ok (.aload_n 0, 1) := by decide +kernel
theorem dX12_mixed_27 : decode cX12_mixed 27 = .ok (.iload_n 1, 1) := by decide +kernel
theorem dX12_mixed_28 : decode cX12_mixed 28 = .ok (.iload_n 2, 1) := by decide +kernel
theorem dX12_mixed_29 : decode cX12_mixed 29 = .ok (.iload_n 3, 1) := by decide +kernel
theorem dX12_mixed_30 : decode cX12_mixed 30 = .ok (.iconst 0, 1) := by decide +kernel
theorem dX12_mixed_31 : decode cX12_mixed 31 = .ok (.invokevirtual 480, 3) := by decide +kernel
theorem dX12_mixed_34 : decode cX12_mixed 34 = .ok (.aload_n 0, 1) := by decide +kernel
theorem dX12_mixed_35 : decode cX12_mixed 35 = .ok (.aload_n 0, 1) := by decide +kernel
theorem dX12_mixed_36 : decode cX12_mixed 36 = .ok (.getfield 460, 3) := by decide +kernel
theorem dX12_mixed_39 : decode cX12_mixed 39 = .ok (.invokevirtual 196, 3) := by decide +kernel
theorem dX12_mixed_42 : decode cX12_mixed 42 = .ok (.ireturn, 1) := by decide +kernel
theorem dX12_mixedRanges_0 : decode cX12_mixedRanges 0 = .ok (.aload_n 0, 1) := by decide +kernel
theorem dX12_mixedRanges_1 : decode cX12_mixedRanges 1 = .ok (.iconst 0, 1) := by decide +kernel
theorem dX12_mixedRanges_2 : decode cX12_mixedRanges 2 = .ok (.putfield 190, 3) := by decide +kernel
theorem dX12_mixedRanges_5 : decode cX12_mixedRanges 5 = .ok (.aload_n 0, 1) := by decide +kernel
theorem dX12_mixedRanges_6 : decode cX12_mixedRanges 6 = .ok (.iload_n 1, 1) := by decide +kernel
theorem dX12_mixedRanges_7 : decode cX12_mixedRanges 7 = .ok (.iload_n 2, 1) := by decide +kernel
theorem dX12_mixedRanges_8 : decode cX12_mixedRanges 8 = .ok (.iload_n 3, 1) := by decide +kernel
theorem dX12_mixedRanges_9 : decode cX12_mixedRanges 9 = .ok (.invokevirtual 476, 3) := by decide +kernel
theorem dX12_mixedRanges_12 : decode cX12_mixedRanges 12 = .ok (.istore 4, 2) := by decide +kernel
theorem dX12_mixedRanges_14 : decode cX12_mixedRanges 14 = .ok (.iload 4, 2) := by decide +kernel
theorem dX12_mixedRanges_16 : decode cX12_mixedRanges 16 = .ok (.ifCond .le 10, 3) := by decide +kernel
theorem dX12_mixedRanges_19 : decode cX12_mixedRanges 19 = .ok (.aload_n 0, 1) := by decide +kernel
theorem dX12_mixedRanges_20 : decode cX12_mixedRanges 20 = .ok (.iload 4, 2) := by decide +kernel
theorem dX12_mixedRanges_22 : decode cX12_mixedRanges 22 = .ok (.invokevirtual 426, 3) := by decide +kernel
theorem dX12_mixedRanges_25 : decode cX12_mixedRanges 25 = .ok (.ireturn, 1) := by decide +kernel
theorem dX12_mixedRanges_26 : decode cX12_mixedRanges 26 = .ok (.aload_n 0, 1) := by decide +kernel
theorem dX12_mixedRanges_27 : decode cX12_mixedRanges 27 = .ok (.iload_n 1, 1) := by decide +kernel
theorem dX12_mixedRanges_28 : decode cX12_mixedRanges 28 = .ok (.iload_n 2, 1) := by decide +kernel
theorem dX12_mixedRanges_29 : decode cX12_mixedRanges 29 = .ok (.iload_n 3, 1) := by decide +kernel
theorem dX12_mixedRanges_30 : decode cX12_mixedRanges 30 = .ok (.iconst 0, 1) := by decide +kernel
theorem dX12_mixedRanges_31 : decode cX12_mixedRanges 31 = .ok (.invokevirtual 480, 3) := by decide +kernel
theorem dX12_mixedRanges_34 : decode cX12_mixedRanges 34 = .ok (.aload_n 0, 1) := by decide +kernel
theorem dX12_mixedRanges_35 : decode cX12_mixedRanges 35 = .ok (.aload_n 0, 1) := by decide +kernel
theorem dX12_mixedRanges_36 : decode cX12_mixedRanges 36 = .ok (.getfield 457, 3) := by decide +kernel
theorem dX12_mixedRanges_39 : decode cX12_mixedRanges 39 = .ok (.invokevirtual 196, 3) := by decide +kernel
theorem dX12_mixedRanges_42 : decode cX12_mixedRanges 42 = .ok (.ireturn, 1) := by decide +kernel
theorem dX12_mixedRange_0 : decode cX12_mixedRange 0 = .ok (.aload_n 0, 1) := by decide +kernel
theorem dX12_mixedRange_1 : decode cX12_mixedRange 1 = .ok (.iconst 0, 1) := by decide +kernel
theorem dX12_mixedRange_2 : decode cX12_mixedRange 2 = .ok (.putfield 190, 3) := by decide +kernel
theorem dX12_mixedRange_5 : decode cX12_mixedRange 5 = .ok (.aload_n 0, 1) := by decide +kernel
theorem dX12_mixedRange_6 : decode cX12_mixedRange 6 = .ok (.iload_n 1, 1) := by decide +kernel
theorem dX12_mixedRange_7 : decode cX12_mixedRange 7 = .ok (.iload_n 2, 1) := by decide +kernel
theorem dX12_mixedRange_8 : decode cX12_mixedRange 8 = .ok (.iload_n 3, 1) := by decide +kernel
theorem dX12_mixedRange_9 : decode cX12_mixedRange 9 = .ok (.invokevirtual 476, 3) := by decide +kernel
theorem dX12_mixedRange_12 : decode cX12_mixedRange 12 = .ok (.istore 6, 2) := by decide +kernel
theorem dX12_mixedRange_14 : decode cX12_mixedRange 14 = .ok (.iload 6, 2) := by decide +kernel
theorem dX12_mixedRange_16 : decode cX12_mixedRange 16 = .ok (.ifCond .le 10, 3) := by decide +kernel
theorem dX12_mixedRange_19 : decode cX12_mixedRange 19 = .ok (.aload_n 0, 1) := by decide +kernel
theorem dX12_mixedRange_20 : decode cX12_mixedRange 20 = .ok (.iload 6, 2) := by decide +kernel
theorem dX12_mixedRange_22 : decode cX12_mixedRange 22 = .ok (.invokevirtual 426, 3) := by decide +kernel
theorem dX12_mixedRange_25 : decode cX12_mixedRange 25 = .ok (.ireturn, 1) := by decide +kernel
theorem dX12_mixedRange_26 : decode cX12_mixedRange 26 = .ok (.iload 4, 2) := by decide +kernel
theorem dX12_mixedRange_28 : decode cX12_mixedRange 28 = .ok (.ifCond .lt 11, 3) := by decide +kernel
theorem dX12_mixedRange_31 : decode cX12_mixedRange 31 = .ok (.iload 4, 2) := by decide +kernel
theorem dX12_mixedRange_33 : decode cX12_mixedRange 33 = .ok (.ldc_w 373, 3) := by decide +kernel
theorem dX12_mixedRange_36 : decode cX12_mixedRange 36 = .ok (.if_icmp .lt 9, 3) := by decide +kernel
theorem dX12_mixedRange_39 : decode cX12_mixedRange 39 = .ok (.aload_n 0, 1) := by decide +kernel
theorem dX12_mixedRange_40 : decode cX12_mixedRange 40 = .ok (.iconst 1, 1) := by decide +kernel
theorem dX12_mixedRange_41 : decode cX12_mixedRange 41 = .ok (.invokevirtual 426, 3) := by decide +kernel
theorem dX12_mixedRange_44 : decode cX12_mixedRange 44 = .ok (.ireturn, 1) := by decide +kernel
theorem dX12_mixedRange_45 : decode cX12_mixedRange 45 = .ok (.aload_n 0, 1) := by decide +kernel
theorem dX12_mixedRange_46 : decode cX12_mixedRange 46 = .ok (.iload_n 1, 1) := by decide +kernel
theorem dX12_mixedRange_47 : decode cX12_mixedRange 47 = .ok (.iload_n 2, 1) := by decide +kernel
theorem dX12_mixedRange_48 : decode cX12_mixedRange 48 = .ok (.iload_n 3, 1) := by decide +kernel
theorem dX12_mixedRange_49 : decode cX12_mixedRange 49 = .ok (.iload 4, 2) := by decide +kernel
theorem dX12_mixedRange_51 : decode cX12_mixedRange 51 = .ok (.invokevirtual 480, 3) := by decide +kernel
theorem dX12_mixedRange_54 : decode cX12_mixedRange 54 = .ok (.iload 4, 2) := by decide +kernel
theorem dX12_mixedRange_56 : decode cX12_mixedRange 56 = .ok (.aload_n 0, 1) := by decide +kernel
theorem dX12_mixedRange_57 : decode cX12_mixedRange 57 = .ok (.getfield 457, 3) := by decide +kernel
theorem dX12_mixedRange_60 : decode cX12_mixedRange 60 = .ok (.if_icmp .lt 9, 3) := by decide +kernel
theorem dX12_mixedRange_63 : decode cX12_mixedRange 63 = .ok (.aload_n 0, 1) := by decide +kernel
theorem dX12_mixedRange_64 : decode cX12_mixedRange 64 = .ok (.iconst 1, 1) := by decide +kernel
theorem dX12_mixedRange_65 : decode cX12_mixedRange 65 = .ok (.invokevirtual 426, 3) := by decide +kernel
theorem dX12_mixedRange_68 : decode cX12_mixedRange 68 = .ok (.ireturn, 1) := by decide +kernel
theorem dX12_mixedRange_69 : decode cX12_mixedRange 69 = .ok (.aload_n 0, 1) := by decide +kernel
theorem dX12_mixedRange_70 : decode cX12_mixedRange 70 = .ok (.iload 5, 2) := by decide +kernel
theorem dX12_mixedRange_72 : decode cX12_mixedRange 72 = .ok (.ifCond .eq 10, 3) := by decide +kernel
theorem dX12_mixedRange_75 : decode cX12_mixedRange 75 = .ok (.aload_n 0, 1) := by decide +kernel
theorem dX12_mixedRange_76 : decode cX12_mixedRange 76 = .ok (.getfield 473, 3) := by decide +kernel
theorem dX12_mixedRange_79 : decode cX12_mixedRange 79 = .ok (.goto 7, 3) := by decide +kernel
theorem dX12_mixedRange_82 : decode cX12_mixedRange 82 = .ok (.aload_n 0, 1) := by decide +kernel
theorem dX12_mixedRange_83 : decode cX12_mixedRange 83 = .ok (.getfield 470, 3) := by decide +kernel
theorem dX12_mixedRange_86 : decode cX12_mixedRange 86 = .ok (.invokevirtual 196, 3) := by decide +kernel
theorem dX12_mixedRange_89 : decode cX12_mixedRange 89 = .ok (.ireturn, 1) := by decide +kernel
theorem dX12_builds_0 : decode cX12_builds 0 = .ok (.aload_n 0, 1) := by decide +kernel
theorem dX12_builds_1 : decode cX12_builds 1 = .ok (.iload_n 1, 1) := by decide +kernel
theorem dX12_builds_2 : decode cX12_builds 2 = .ok (.putfield 484, 3) := by decide +kernel
theorem dX12_builds_5 : decode cX12_builds 5 = .ok (.aload_n 0, 1) := by decide +kernel
theorem dX12_builds_6 : decode cX12_builds 6 = .ok (.iconst 0, 1) := by decide +kernel
theorem dX12_builds_7 : decode cX12_builds 7 = .ok (.putfield 487, 3) := by decide +kernel
theorem dX12_builds_10 : decode cX12_builds 10 = .ok (.aload_n 0, 1) := by decide +kernel
theorem dX12_builds_11 : decode cX12_builds 11 = .ok (.iconst 0, 1) := by decide +kernel
theorem dX12_builds_12 : decode cX12_builds 12 = .ok (.putfield 490, 3) := by decide +kernel
theorem dX12_builds_15 : decode cX12_builds 15 = .ok (.aload_n 0, 1) := by decide +kernel
theorem dX12_builds_16 : decode cX12_builds 16 = .ok (.lconst 0, 1) := by decide +kernel
theorem dX12_builds_17 : decode cX12_builds 17 = .ok (.putfield 493, 3) := by decide +kernel
theorem dX12_builds_20 : decode cX12_builds 20 = .ok (.aload_n 0, 1) := by decide +kernel
theorem dX12_builds_21 : decode cX12_builds 21 = .ok (.getfield 79, 3) := by decide +kernel
theorem dX12_builds_24 : decode cX12_builds 24 = .ok (.iconst 0, 1) := by decide +kernel
theorem dX12_builds_25 : decode cX12_builds 25 = .ok (.iconst 0, 1) := by decide +kernel
theorem dX12_builds_26 : decode cX12_builds 26 = .ok (.iastore, 1) := by decide +kernel
theorem dX12_builds_27 : decode cX12_builds 27 = .ok (.aload_n 0, 1) := by decide +kernel
theorem dX12_builds_28 : decode cX12_builds 28 = .ok (.iload_n 1, 1) := by decide +kernel
theorem dX12_builds_29 : decode cX12_builds 29 = .ok (.bipush 40, 2) := by decide +kernel
theorem dX12_builds_31 : decode cX12_builds 31 = .ok (.if_icmp .le 7, 3) := by decide +kernel
theorem dX12_builds_34 : decode cX12_builds 34 = .ok (.iconst 1, 1) := by decide +kernel
theorem dX12_builds_35 : decode cX12_builds 35 = .ok (.goto 4, 3) := by decide +kernel
theorem dX12_builds_38 : decode cX12_builds 38 = .ok (.iconst 0, 1) := by decide +kernel
theorem dX12_builds_39 : decode cX12_builds 39 = .ok (.putfield 496, 3) := by decide +kernel
theorem dX12_builds_42 : decode cX12_builds 42 = .ok (.return_, 1) := by decide +kernel
theorem dX12_buildsEdge_0 : decode cX12_buildsEdge 0 = .ok (.aload_n 0, 1) := by decide +kernel
theorem dX12_buildsEdge_1 : decode cX12_buildsEdge 1 = .ok (.getfield 487, 3) := by decide +kernel
theorem dX12_buildsEdge_4 : decode cX12_buildsEdge 4 = .ok (.sipush 160, 3) := by decide +kernel
theorem dX12_buildsEdge_7 : decode cX12_buildsEdge 7 = .ok (.if_icmp .ne 10, 3) := by decide +kernel
theorem dX12_buildsEdge_10 : decode cX12_buildsEdge 10 = .ok (.aload_n 0, 1) := by decide +kernel
theorem dX12_buildsEdge_11 : decode cX12_buildsEdge 11 = .ok (.iconst 1, 1) := by decide +kernel
theorem dX12_buildsEdge_12 : decode cX12_buildsEdge 12 = .ok (.putfield 496, 3) := by decide +kernel
theorem dX12_buildsEdge_15 : decode cX12_buildsEdge 15 = .ok (.iconst 0, 1) := by decide +kernel
theorem dX12_buildsEdge_16 : decode cX12_buildsEdge 16 = .ok (.ireturn, 1) := by decide +kernel
theorem dX12_buildsEdge_17 : decode cX12_buildsEdge 17 = .ok (.aload_n 0, 1) := by decide +kernel
theorem dX12_buildsEdge_18 : decode cX12_buildsEdge 18 = .ok (.getfield 73, 3) := by decide +kernel
theorem dX12_buildsEdge_21 : decode cX12_buildsEdge 21 = .ok (.aload_n 0, 1) := by decide +kernel
theorem dX12_buildsEdge_22 : decode cX12_buildsEdge 22 = .ok (.getfield 487, 3) := by decide +kernel
theorem dX12_buildsEdge_25 : decode cX12_buildsEdge 25 = .ok (.iload_n 1, 1) := by decide +kernel
theorem dX12_buildsEdge_26 : decode cX12_buildsEdge 26 = .ok (.iastore, 1) := by decide +kernel
theorem dX12_buildsEdge_27 : decode cX12_buildsEdge 27 = .ok (.aload_n 0, 1) := by decide +kernel
theorem dX12_buildsEdge_28 : decode cX12_buildsEdge 28 = .ok (.getfield 76, 3) := by decide +kernel
theorem dX12_buildsEdge_31 : decode cX12_buildsEdge 31 = .ok (.aload_n 0, 1) := by decide +kernel
theorem dX12_buildsEdge_32 : decode cX12_buildsEdge 32 = .ok (.getfield 487, 3) := by decide +kernel
theorem dX12_buildsEdge_35 : decode cX12_buildsEdge 35 = .ok (.iload_n 2, 1) := by decide +kernel
theorem dX12_buildsEdge_36 : decode cX12_buildsEdge 36 = .ok (.iastore, 1) := by decide +kernel
theorem dX12_buildsEdge_37 : decode cX12_buildsEdge 37 = .ok (.aload_n 0, 1) := by decide +kernel
theorem dX12_buildsEdge_38 : decode cX12_buildsEdge 38 = .ok (.dup, 1) := by decide +kernel
theorem dX12_buildsEdge_39 : decode cX12_buildsEdge 39 = .ok (.getfield 487, 3) := by decide +kernel
theorem dX12_buildsEdge_42 : decode cX12_buildsEdge 42 = .ok (.iconst 1, 1) := by decide +kernel
theorem dX12_buildsEdge_43 : decode cX12_buildsEdge 43 = .ok (.iadd, 1) := by decide +kernel
theorem dX12_buildsEdge_44 : decode cX12_buildsEdge 44 = .ok (.putfield 487, 3) := by decide +kernel
theorem dX12_buildsEdge_47 : decode cX12_buildsEdge 47 = .ok (.aload_n 0, 1) := by decide +kernel
theorem dX12_buildsEdge_48 : decode cX12_buildsEdge 48 = .ok (.getfield 79, 3) := by decide +kernel
theorem dX12_buildsEdge_51 : decode cX12_buildsEdge 51 = .ok (.aload_n 0, 1) := by decide +kernel
theorem dX12_buildsEdge_52 : decode cX12_buildsEdge 52 = .ok (.getfield 487, 3) := by decide +kernel
theorem dX12_buildsEdge_55 : decode cX12_buildsEdge 55 = .ok (.aload_n 0, 1) := by decide +kernel
theorem dX12_buildsEdge_56 : decode cX12_buildsEdge 56 = .ok (.getfield 79, 3) := by decide +kernel
theorem dX12_buildsEdge_59 : decode cX12_buildsEdge 59 = .ok (.aload_n 0, 1) := by decide +kernel
theorem dX12_buildsEdge_60 : decode cX12_buildsEdge 60 = .ok (.getfield 487, 3) := by decide +kernel
theorem dX12_buildsEdge_63 : decode cX12_buildsEdge 63 = .ok (.iconst 1, 1) := by decide +kernel
theorem dX12_buildsEdge_64 : decode cX12_buildsEdge 64 = .ok (.isub, 1) := by decide +kernel
theorem dX12_buildsEdge_65 : decode cX12_buildsEdge 65 = .ok (.iaload, 1) := by decide +kernel
theorem dX12_buildsEdge_66 : decode cX12_buildsEdge 66 = .ok (.iastore, 1) := by decide +kernel
theorem dX12_buildsEdge_67 : decode cX12_buildsEdge 67 = .ok (.iconst 1, 1) := by decide +kernel
theorem dX12_buildsEdge_68 : decode cX12_buildsEdge 68 = .ok (.ireturn, 1) := by decide +kernel
theorem dX12_buildsRange_0 : decode cX12_buildsRange 0 = .ok (.aload_n 0, 1) := by decide +kernel
theorem dX12_buildsRange_1 : decode cX12_buildsRange 1 = .ok (.getfield 79, 3) := by decide +kernel
theorem dX12_buildsRange_4 : decode cX12_buildsRange 4 = .ok (.aload_n 0, 1) := by decide +kernel
theorem dX12_buildsRange_5 : decode cX12_buildsRange 5 = .ok (.getfield 487, 3) := by decide +kernel
theorem dX12_buildsRange_8 : decode cX12_buildsRange 8 = .ok (.iaload, 1) := by decide +kernel
theorem dX12_buildsRange_9 : decode cX12_buildsRange 9 = .ok (.istore_n 3, 1) := by decide +kernel
theorem dX12_buildsRange_10 : decode cX12_buildsRange 10 = .ok (.iload_n 3, 1) := by decide +kernel
theorem dX12_buildsRange_11 : decode cX12_buildsRange 11 = .ok (.aload_n 0, 1) := by decide +kernel
theorem dX12_buildsRange_12 : decode cX12_buildsRange 12 = .ok (.getfield 79, 3) := by decide +kernel
theorem dX12_buildsRange_15 : decode cX12_buildsRange 15 = .ok (.aload_n 0, 1) := by decide +kernel
theorem dX12_buildsRange_16 : decode cX12_buildsRange 16 = .ok (.getfield 487, 3) := by decide +kernel
theorem dX12_buildsRange_19 : decode cX12_buildsRange 19 = .ok (.iconst 1, 1) := by decide +kernel
theorem dX12_buildsRange_20 : decode cX12_buildsRange 20 = .ok (.isub, 1) := by decide +kernel
theorem dX12_buildsRange_21 : decode cX12_buildsRange 21 = .ok (.iaload, 1) := by decide +kernel
theorem dX12_buildsRange_22 : decode cX12_buildsRange 22 = .ok (.if_icmp .le 27, 3) := by decide +kernel
theorem dX12_buildsRange_25 : decode cX12_buildsRange 25 = .ok (.aload_n 0, 1) := by decide +kernel
theorem dX12_buildsRange_26 : decode cX12_buildsRange 26 = .ok (.getfield 85, 3) := by decide +kernel
theorem dX12_buildsRange_29 : decode cX12_buildsRange 29 = .ok (.iload_n 3, 1) := by decide +kernel
theorem dX12_buildsRange_30 : decode cX12_buildsRange 30 = .ok (.iconst 1, 1) := by decide +kernel
theorem dX12_buildsRange_31 : decode cX12_buildsRange 31 = .ok (.isub, 1) := by decide +kernel
theorem dX12_buildsRange_32 : decode cX12_buildsRange 32 = .ok (.iaload, 1) := by decide +kernel
theorem dX12_buildsRange_33 : decode cX12_buildsRange 33 = .ok (.iconst 1, 1) := by decide +kernel
theorem dX12_buildsRange_34 : decode cX12_buildsRange 34 = .ok (.iadd, 1) := by decide +kernel
theorem dX12_buildsRange_35 : decode cX12_buildsRange 35 = .ok (.iload_n 1, 1) := by decide +kernel
theorem dX12_buildsRange_36 : decode cX12_buildsRange 36 = .ok (.if_icmp .ne 13, 3) := by decide +kernel
theorem dX12_buildsRange_39 : decode cX12_buildsRange 39 = .ok (.aload_n 0, 1) := by decide +kernel
theorem dX12_buildsRange_40 : decode cX12_buildsRange 40 = .ok (.getfield 85, 3) := by decide +kernel
theorem dX12_buildsRange_43 : decode cX12_buildsRange 43 = .ok (.iload_n 3, 1) := by decide +kernel
theorem dX12_buildsRange_44 : decode cX12_buildsRange 44 = .ok (.iconst 1, 1) := by decide +kernel
theorem dX12_buildsRange_45 : decode cX12_buildsRange 45 = .ok (.isub, 1) := by decide +kernel
theorem dX12_buildsRange_46 : decode cX12_buildsRange 46 = .ok (.iload_n 2, 1) := by decide +kernel
theorem dX12_buildsRange_47 : decode cX12_buildsRange 47 = .ok (.iastore, 1) := by decide +kernel
theorem dX12_buildsRange_48 : decode cX12_buildsRange 48 = .ok (.return_, 1) := by decide +kernel
theorem dX12_buildsRange_49 : decode cX12_buildsRange 49 = .ok (.aload_n 0, 1) := by decide +kernel
theorem dX12_buildsRange_50 : decode cX12_buildsRange 50 = .ok (.getfield 82, 3) := by decide +kernel
theorem dX12_buildsRange_53 : decode cX12_buildsRange 53 = .ok (.iload_n 3, 1) := by decide +kernel
theorem dX12_buildsRange_54 : decode cX12_buildsRange 54 = .ok (.iload_n 1, 1) := by decide +kernel
theorem dX12_buildsRange_55 : decode cX12_buildsRange 55 = .ok (.iastore, 1) := by decide +kernel
theorem dX12_buildsRange_56 : decode cX12_buildsRange 56 = .ok (.aload_n 0, 1) := by decide +kernel
theorem dX12_buildsRange_57 : decode cX12_buildsRange 57 = .ok (.getfield 85, 3) := by decide +kernel
theorem dX12_buildsRange_60 : decode cX12_buildsRange 60 = .ok (.iload_n 3, 1) := by decide +kernel
theorem dX12_buildsRange_61 : decode cX12_buildsRange 61 = .ok (.iload_n 2, 1) := by decide +kernel
theorem dX12_buildsRange_62 : decode cX12_buildsRange 62 = .ok (.iastore, 1) := by decide +kernel
theorem dX12_buildsRange_63 : decode cX12_buildsRange 63 = .ok (.aload_n 0, 1) := by decide +kernel
theorem dX12_buildsRange_64 : decode cX12_buildsRange 64 = .ok (.getfield 79, 3) := by decide +kernel
theorem dX12_buildsRange_67 : decode cX12_buildsRange 67 = .ok (.aload_n 0, 1) := by decide +kernel
theorem dX12_buildsRange_68 : decode cX12_buildsRange 68 = .ok (.getfield 487, 3) := by decide +kernel
theorem dX12_buildsRange_71 : decode cX12_buildsRange 71 = .ok (.dup2, 1) := by decide +kernel
theorem dX12_buildsRange_72 : decode cX12_buildsRange 72 = .ok (.iaload, 1) := by decide +kernel
theorem dX12_buildsRange_73 : decode cX12_buildsRange 73 = .ok (.iconst 1, 1) := by decide +kernel
theorem dX12_buildsRange_74 : decode cX12_buildsRange 74 = .ok (.iadd, 1) := by decide +kernel
theorem dX12_buildsRange_75 : decode cX12_buildsRange 75 = .ok (.iastore, 1) := by decide +kernel
theorem dX12_buildsRange_76 : decode cX12_buildsRange 76 = .ok (.return_, 1) := by decide +kernel
theorem dX12_keepsEdge_0 : decode cX12_keepsEdge 0 = .ok (.aload_n 0, 1) := by decide +kernel
theorem dX12_keepsEdge_1 : decode cX12_keepsEdge 1 = .ok (.getfield 79, 3) := by decide +kernel
theorem dX12_keepsEdge_4 : decode cX12_keepsEdge 4 = .ok (.aload_n 0, 1) := by decide +kernel
theorem dX12_keepsEdge_5 : decode cX12_keepsEdge 5 = .ok (.getfield 487, 3) := by decide +kernel
theorem dX12_keepsEdge_8 : decode cX12_keepsEdge 8 = .ok (.iaload, 1) := by decide +kernel
theorem dX12_keepsEdge_9 : decode cX12_keepsEdge 9 = .ok (.aload_n 0, 1) := by decide +kernel
theorem dX12_keepsEdge_10 : decode cX12_keepsEdge 10 = .ok (.getfield 79, 3) := by decide +kernel
theorem dX12_keepsEdge_13 : decode cX12_keepsEdge 13 = .ok (.aload_n 0, 1) := by decide +kernel
theorem dX12_keepsEdge_14 : decode cX12_keepsEdge 14 = .ok (.getfield 487, 3) := by decide +kernel
theorem dX12_keepsEdge_17 : decode cX12_keepsEdge 17 = .ok (.iconst 1, 1) := by decide +kernel
theorem dX12_keepsEdge_18 : decode cX12_keepsEdge 18 = .ok (.isub, 1) := by decide +kernel
theorem dX12_keepsEdge_19 : decode cX12_keepsEdge 19 = .ok (.iaload, 1) := by decide +kernel
theorem dX12_keepsEdge_20 : decode cX12_keepsEdge 20 = .ok (.if_icmp .ne 13, 3) := by decide +kernel
theorem dX12_keepsEdge_23 : decode cX12_keepsEdge 23 = .ok (.aload_n 0, 1) := by decide +kernel
theorem dX12_keepsEdge_24 : decode cX12_keepsEdge 24 = .ok (.dup, 1) := by decide +kernel
theorem dX12_keepsEdge_25 : decode cX12_keepsEdge 25 = .ok (.getfield 487, 3) := by decide +kernel
theorem dX12_keepsEdge_28 : decode cX12_keepsEdge 28 = .ok (.iconst 1, 1) := by decide +kernel
theorem dX12_keepsEdge_29 : decode cX12_keepsEdge 29 = .ok (.isub, 1) := by decide +kernel
theorem dX12_keepsEdge_30 : decode cX12_keepsEdge 30 = .ok (.putfield 487, 3) := by decide +kernel
theorem dX12_keepsEdge_33 : decode cX12_keepsEdge 33 = .ok (.return_, 1) := by decide +kernel
theorem dX12_buildsFree_0 : decode cX12_buildsFree 0 = .ok (.aload_n 0, 1) := by decide +kernel
theorem dX12_buildsFree_1 : decode cX12_buildsFree 1 = .ok (.getfield 490, 3) := by decide +kernel
theorem dX12_buildsFree_4 : decode cX12_buildsFree 4 = .ok (.bipush 64, 2) := by decide +kernel
theorem dX12_buildsFree_6 : decode cX12_buildsFree 6 = .ok (.if_icmp .ne 9, 3) := by decide +kernel
theorem dX12_buildsFree_9 : decode cX12_buildsFree 9 = .ok (.aload_n 0, 1) := by decide +kernel
theorem dX12_buildsFree_10 : decode cX12_buildsFree 10 = .ok (.iconst 1, 1) := by decide +kernel
theorem dX12_buildsFree_11 : decode cX12_buildsFree 11 = .ok (.putfield 496, 3) := by decide +kernel
theorem dX12_buildsFree_14 : decode cX12_buildsFree 14 = .ok (.return_, 1) := by decide +kernel
theorem dX12_buildsFree_15 : decode cX12_buildsFree 15 = .ok (.aload_n 0, 1) := by decide +kernel
theorem dX12_buildsFree_16 : decode cX12_buildsFree 16 = .ok (.getfield 88, 3) := by decide +kernel
theorem dX12_buildsFree_19 : decode cX12_buildsFree 19 = .ok (.aload_n 0, 1) := by decide +kernel
theorem dX12_buildsFree_20 : decode cX12_buildsFree 20 = .ok (.getfield 490, 3) := by decide +kernel
theorem dX12_buildsFree_23 : decode cX12_buildsFree 23 = .ok (.iload_n 1, 1) := by decide +kernel
theorem dX12_buildsFree_24 : decode cX12_buildsFree 24 = .ok (.iastore, 1) := by decide +kernel
theorem dX12_buildsFree_25 : decode cX12_buildsFree 25 = .ok (.aload_n 0, 1) := by decide +kernel
theorem dX12_buildsFree_26 : decode cX12_buildsFree 26 = .ok (.getfield 91, 3) := by decide +kernel
theorem dX12_buildsFree_29 : decode cX12_buildsFree 29 = .ok (.aload_n 0, 1) := by decide +kernel
theorem dX12_buildsFree_30 : decode cX12_buildsFree 30 = .ok (.getfield 490, 3) := by decide +kernel
theorem dX12_buildsFree_33 : decode cX12_buildsFree 33 = .ok (.iload_n 2, 1) := by decide +kernel
theorem dX12_buildsFree_34 : decode cX12_buildsFree 34 = .ok (.iastore, 1) := by decide +kernel
theorem dX12_buildsFree_35 : decode cX12_buildsFree 35 = .ok (.aload_n 0, 1) := by decide +kernel
theorem dX12_buildsFree_36 : decode cX12_buildsFree 36 = .ok (.dup, 1) := by decide +kernel
theorem dX12_buildsFree_37 : decode cX12_buildsFree 37 = .ok (.getfield 490, 3) := by decide +kernel
theorem dX12_buildsFree_40 : decode cX12_buildsFree 40 = .ok (.iconst 1, 1) := by decide +kernel
theorem dX12_buildsFree_41 : decode cX12_buildsFree 41 = .ok (.iadd, 1) := by decide +kernel
theorem dX12_buildsFree_42 : decode cX12_buildsFree 42 = .ok (.putfield 490, 3) := by decide +kernel
theorem dX12_buildsFree_45 : decode cX12_buildsFree 45 = .ok (.return_, 1) := by decide +kernel
theorem dX12_buildsTold_0 : decode cX12_buildsTold 0 = .ok (.aload_n 0, 1) := by decide +kernel
theorem dX12_buildsTold_1 : decode cX12_buildsTold 1 = .ok (.aload_n 0, 1) := by decide +kernel
theorem dX12_buildsTold_2 : decode cX12_buildsTold 2 = .ok (.getfield 40, 3) := by decide +kernel
theorem dX12_buildsTold_5 : decode cX12_buildsTold 5 = .ok (.iload_n 1, 1) := by decide +kernel
theorem dX12_buildsTold_6 : decode cX12_buildsTold 6 = .ok (.iaload, 1) := by decide +kernel
theorem dX12_buildsTold_7 : decode cX12_buildsTold 7 = .ok (.invokevirtual 500, 3) := by decide +kernel
theorem dX12_buildsTold_10 : decode cX12_buildsTold 10 = .ok (.aload_n 0, 1) := by decide +kernel
theorem dX12_buildsTold_11 : decode cX12_buildsTold 11 = .ok (.aload_n 0, 1) := by decide +kernel
theorem dX12_buildsTold_12 : decode cX12_buildsTold 12 = .ok (.getfield 70, 3) := by decide +kernel
theorem dX12_buildsTold_15 : decode cX12_buildsTold 15 = .ok (.iload_n 1, 1) := by decide +kernel
theorem dX12_buildsTold_16 : decode cX12_buildsTold 16 = .ok (.laload, 1) := by decide +kernel
theorem dX12_buildsTold_17 : decode cX12_buildsTold 17 = .ok (.putfield 493, 3) := by decide +kernel
theorem dX12_buildsTold_20 : decode cX12_buildsTold 20 = .ok (.iload_n 1, 1) := by decide +kernel
theorem dX12_buildsTold_21 : decode cX12_buildsTold 21 = .ok (.bipush 24, 2) := by decide +kernel
theorem dX12_buildsTold_23 : decode cX12_buildsTold 23 = .ok (.imul, 1) := by decide +kernel
theorem dX12_buildsTold_24 : decode cX12_buildsTold 24 = .ok (.istore_n 2, 1) := by decide +kernel
theorem dX12_buildsTold_25 : decode cX12_buildsTold 25 = .ok (.iload_n 2, 1) := by decide +kernel
theorem dX12_buildsTold_26 : decode cX12_buildsTold 26 = .ok (.iload_n 1, 1) := by decide +kernel
theorem dX12_buildsTold_27 : decode cX12_buildsTold 27 = .ok (.bipush 24, 2) := by decide +kernel
theorem dX12_buildsTold_29 : decode cX12_buildsTold 29 = .ok (.imul, 1) := by decide +kernel
theorem dX12_buildsTold_30 : decode cX12_buildsTold 30 = .ok (.aload_n 0, 1) := by decide +kernel
theorem dX12_buildsTold_31 : decode cX12_buildsTold 31 = .ok (.getfield 43, 3) := by decide +kernel
theorem dX12_buildsTold_34 : decode cX12_buildsTold 34 = .ok (.iload_n 1, 1) := by decide +kernel
theorem dX12_buildsTold_35 : decode cX12_buildsTold 35 = .ok (.iaload, 1) := by decide +kernel
theorem dX12_buildsTold_36 : decode cX12_buildsTold 36 = .ok (.iadd, 1) := by decide +kernel
theorem dX12_buildsTold_37 : decode cX12_buildsTold 37 = .ok (.if_icmp .ge 70, 3) := by decide +kernel
theorem dX12_buildsTold_40 : decode cX12_buildsTold 40 = .ok (.aload_n 0, 1) := by decide +kernel
theorem dX12_buildsTold_41 : decode cX12_buildsTold 41 = .ok (.aload_n 0, 1) := by decide +kernel
theorem dX12_buildsTold_42 : decode cX12_buildsTold 42 = .ok (.getfield 49, 3) := by decide +kernel
theorem dX12_buildsTold_45 : decode cX12_buildsTold 45 = .ok (.iload_n 2, 1) := by decide +kernel
theorem dX12_buildsTold_46 : decode cX12_buildsTold 46 = .ok (.iaload, 1) := by decide +kernel
theorem dX12_buildsTold_47 : decode cX12_buildsTold 47 = .ok (.aload_n 0, 1) := by decide +kernel
theorem dX12_buildsTold_48 : decode cX12_buildsTold 48 = .ok (.getfield 52, 3) := by decide +kernel
theorem dX12_buildsTold_51 : decode cX12_buildsTold 51 = .ok (.iload_n 2, 1) := by decide +kernel
theorem dX12_buildsTold_52 : decode cX12_buildsTold 52 = .ok (.iaload, 1) := by decide +kernel
theorem dX12_buildsTold_53 : decode cX12_buildsTold 53 = .ok (.invokevirtual 503, 3) := by decide +kernel
theorem dX12_buildsTold_56 : decode cX12_buildsTold 56 = .ok (.pop, 1) := by decide +kernel
theorem dX12_buildsTold_57 : decode cX12_buildsTold 57 = .ok (.iconst 0, 1) := by decide +kernel
theorem dX12_buildsTold_58 : decode cX12_buildsTold 58 = .ok (.istore_n 3, 1) := by decide +kernel
theorem dX12_buildsTold_59 : decode cX12_buildsTold 59 = .ok (.iload_n 3, 1) := by decide +kernel
theorem dX12_buildsTold_60 : decode cX12_buildsTold 60 = .ok (.aload_n 0, 1) := by decide +kernel
theorem dX12_buildsTold_61 : decode cX12_buildsTold 61 = .ok (.getfield 55, 3) := by decide +kernel
theorem dX12_buildsTold_64 : decode cX12_buildsTold 64 = .ok (.iload_n 2, 1) := by decide +kernel
theorem dX12_buildsTold_65 : decode cX12_buildsTold 65 = .ok (.iaload, 1) := by decide +kernel
theorem dX12_buildsTold_66 : decode cX12_buildsTold 66 = .ok (.if_icmp .ge 35, 3) := by decide +kernel
theorem dX12_buildsTold_69 : decode cX12_buildsTold 69 = .ok (.aload_n 0, 1) := by decide +kernel
theorem dX12_buildsTold_70 : decode cX12_buildsTold 70 = .ok (.aload_n 0, 1) := by decide +kernel
theorem dX12_buildsTold_71 : decode cX12_buildsTold 71 = .ok (.getfield 58, 3) := by decide +kernel
theorem dX12_buildsTold_74 : decode cX12_buildsTold 74 = .ok (.iload_n 2, 1) := by decide +kernel
theorem dX12_buildsTold_75 : decode cX12_buildsTold 75 = .ok (.bipush 24, 2) := by decide +kernel
theorem dX12_buildsTold_77 : decode cX12_buildsTold 77 = .ok (.imul, 1) := by decide +kernel
theorem dX12_buildsTold_78 : decode cX12_buildsTold 78 = .ok (.iload_n 3, 1) := by decide +kernel
theorem dX12_buildsTold_79 : decode cX12_buildsTold 79 = .ok (.iadd, 1) := by decide +kernel
theorem dX12_buildsTold_80 : decode cX12_buildsTold 80 = .ok (.iaload, 1) := by decide +kernel
theorem dX12_buildsTold_81 : decode cX12_buildsTold 81 = .ok (.aload_n 0, 1) := by decide +kernel
theorem dX12_buildsTold_82 : decode cX12_buildsTold 82 = .ok (.getfield 61, 3) := by decide +kernel
theorem dX12_buildsTold_85 : decode cX12_buildsTold 85 = .ok (.iload_n 2, 1) := by decide +kernel
theorem dX12_buildsTold_86 : decode cX12_buildsTold 86 = .ok (.bipush 24, 2) := by decide +kernel
theorem dX12_buildsTold_88 : decode cX12_buildsTold 88 = .ok (.imul, 1) := by decide +kernel
theorem dX12_buildsTold_89 : decode cX12_buildsTold 89 = .ok (.iload_n 3, 1) := by decide +kernel
theorem dX12_buildsTold_90 : decode cX12_buildsTold 90 = .ok (.iadd, 1) := by decide +kernel
theorem dX12_buildsTold_91 : decode cX12_buildsTold 91 = .ok (.iaload, 1) := by decide +kernel
theorem dX12_buildsTold_92 : decode cX12_buildsTold 92 = .ok (.invokevirtual 506, 3) := by decide +kernel
theorem dX12_buildsTold_95 : decode cX12_buildsTold 95 = .ok (.iinc 3 1, 3) := by decide +kernel
theorem dX12_buildsTold_98 : decode cX12_buildsTold 98 = .ok (.goto (-39), 3) := by decide +kernel
theorem dX12_buildsTold_101 : decode cX12_buildsTold 101 = .ok (.iinc 2 1, 3) := by decide +kernel
theorem dX12_buildsTold_104 : decode cX12_buildsTold 104 = .ok (.goto (-79), 3) := by decide +kernel
theorem dX12_buildsTold_107 : decode cX12_buildsTold 107 = .ok (.iload_n 1, 1) := by decide +kernel
theorem dX12_buildsTold_108 : decode cX12_buildsTold 108 = .ok (.bipush 8, 2) := by decide +kernel
theorem dX12_buildsTold_110 : decode cX12_buildsTold 110 = .ok (.imul, 1) := by decide +kernel
theorem dX12_buildsTold_111 : decode cX12_buildsTold 111 = .ok (.istore_n 2, 1) := by decide +kernel
theorem dX12_buildsTold_112 : decode cX12_buildsTold 112 = .ok (.iload_n 2, 1) := by decide +kernel
theorem dX12_buildsTold_113 : decode cX12_buildsTold 113 = .ok (.iload_n 1, 1) := by decide +kernel
theorem dX12_buildsTold_114 : decode cX12_buildsTold 114 = .ok (.bipush 8, 2) := by decide +kernel
theorem dX12_buildsTold_116 : decode cX12_buildsTold 116 = .ok (.imul, 1) := by decide +kernel
theorem dX12_buildsTold_117 : decode cX12_buildsTold 117 = .ok (.aload_n 0, 1) := by decide +kernel
theorem dX12_buildsTold_118 : decode cX12_buildsTold 118 = .ok (.getfield 46, 3) := by decide +kernel
theorem dX12_buildsTold_121 : decode cX12_buildsTold 121 = .ok (.iload_n 1, 1) := by decide +kernel
theorem dX12_buildsTold_122 : decode cX12_buildsTold 122 = .ok (.iaload, 1) := by decide +kernel
theorem dX12_buildsTold_123 : decode cX12_buildsTold 123 = .ok (.iadd, 1) := by decide +kernel
theorem dX12_buildsTold_124 : decode cX12_buildsTold 124 = .ok (.if_icmp .ge 25, 3) := by decide +kernel
theorem dX12_buildsTold_127 : decode cX12_buildsTold 127 = .ok (.aload_n 0, 1) := by decide +kernel
theorem dX12_buildsTold_128 : decode cX12_buildsTold 128 = .ok (.aload_n 0, 1) := by decide +kernel
theorem dX12_buildsTold_129 : decode cX12_buildsTold 129 = .ok (.getfield 64, 3) := by decide +kernel
theorem dX12_buildsTold_132 : decode cX12_buildsTold 132 = .ok (.iload_n 2, 1) := by decide +kernel
theorem dX12_buildsTold_133 : decode cX12_buildsTold 133 = .ok (.iaload, 1) := by decide +kernel
theorem dX12_buildsTold_134 : decode cX12_buildsTold 134 = .ok (.aload_n 0, 1) := by decide +kernel
theorem dX12_buildsTold_135 : decode cX12_buildsTold 135 = .ok (.getfield 67, 3) := by decide +kernel
theorem dX12_buildsTold_138 : decode cX12_buildsTold 138 = .ok (.iload_n 2, 1) := by decide +kernel
theorem dX12_buildsTold_139 : decode cX12_buildsTold 139 = .ok (.iaload, 1) := by decide +kernel
theorem dX12_buildsTold_140 : decode cX12_buildsTold 140 = .ok (.invokevirtual 509, 3) := by decide +kernel
theorem dX12_buildsTold_143 : decode cX12_buildsTold 143 = .ok (.iinc 2 1, 3) := by decide +kernel
theorem dX12_buildsTold_146 : decode cX12_buildsTold 146 = .ok (.goto (-34), 3) := by decide +kernel
theorem dX12_buildsTold_149 : decode cX12_buildsTold 149 = .ok (.return_, 1) := by decide +kernel
theorem dX12_keepsMachine_0 : decode cX12_keepsMachine 0 = .ok (.aload_n 0, 1) := by decide +kernel
theorem dX12_keepsMachine_1 : decode cX12_keepsMachine 1 = .ok (.getfield 94, 3) := by decide +kernel
theorem dX12_keepsMachine_4 : decode cX12_keepsMachine 4 = .ok (.iload_n 2, 1) := by decide +kernel
theorem dX12_keepsMachine_5 : decode cX12_keepsMachine 5 = .ok (.aload_n 0, 1) := by decide +kernel
theorem dX12_keepsMachine_6 : decode cX12_keepsMachine 6 = .ok (.getfield 94, 3) := by decide +kernel
theorem dX12_keepsMachine_9 : decode cX12_keepsMachine 9 = .ok (.iload_n 1, 1) := by decide +kernel
theorem dX12_keepsMachine_10 : decode cX12_keepsMachine 10 = .ok (.iaload, 1) := by decide +kernel
theorem dX12_keepsMachine_11 : decode cX12_keepsMachine 11 = .ok (.iastore, 1) := by decide +kernel
theorem dX12_keepsMachine_12 : decode cX12_keepsMachine 12 = .ok (.aload_n 0, 1) := by decide +kernel
theorem dX12_keepsMachine_13 : decode cX12_keepsMachine 13 = .ok (.getfield 97, 3) := by decide +kernel
theorem dX12_keepsMachine_16 : decode cX12_keepsMachine 16 = .ok (.iload_n 2, 1) := by decide +kernel
theorem dX12_keepsMachine_17 : decode cX12_keepsMachine 17 = .ok (.aload_n 0, 1) := by decide +kernel
theorem dX12_keepsMachine_18 : decode cX12_keepsMachine 18 = .ok (.getfield 97, 3) := by decide +kernel
theorem dX12_keepsMachine_21 : decode cX12_keepsMachine 21 = .ok (.iload_n 1, 1) := by decide +kernel
theorem dX12_keepsMachine_22 : decode cX12_keepsMachine 22 = .ok (.iaload, 1) := by decide +kernel
theorem dX12_keepsMachine_23 : decode cX12_keepsMachine 23 = .ok (.iastore, 1) := by decide +kernel
theorem dX12_keepsMachine_24 : decode cX12_keepsMachine 24 = .ok (.aload_n 0, 1) := by decide +kernel
theorem dX12_keepsMachine_25 : decode cX12_keepsMachine 25 = .ok (.getfield 100, 3) := by decide +kernel
theorem dX12_keepsMachine_28 : decode cX12_keepsMachine 28 = .ok (.iload_n 2, 1) := by decide +kernel
theorem dX12_keepsMachine_29 : decode cX12_keepsMachine 29 = .ok (.aload_n 0, 1) := by decide +kernel
theorem dX12_keepsMachine_30 : decode cX12_keepsMachine 30 = .ok (.getfield 100, 3) := by decide +kernel
theorem dX12_keepsMachine_33 : decode cX12_keepsMachine 33 = .ok (.iload_n 1, 1) := by decide +kernel
theorem dX12_keepsMachine_34 : decode cX12_keepsMachine 34 = .ok (.iaload, 1) := by decide +kernel
theorem dX12_keepsMachine_35 : decode cX12_keepsMachine 35 = .ok (.iastore, 1) := by decide +kernel
theorem dX12_keepsMachine_36 : decode cX12_keepsMachine 36 = .ok (.aload_n 0, 1) := by decide +kernel
theorem dX12_keepsMachine_37 : decode cX12_keepsMachine 37 = .ok (.getfield 103, 3) := by decide +kernel
theorem dX12_keepsMachine_40 : decode cX12_keepsMachine 40 = .ok (.iload_n 2, 1) := by decide +kernel
theorem dX12_keepsMachine_41 : decode cX12_keepsMachine 41 = .ok (.aload_n 0, 1) := by decide +kernel
theorem dX12_keepsMachine_42 : decode cX12_keepsMachine 42 = .ok (.getfield 103, 3) := by decide +kernel
theorem dX12_keepsMachine_45 : decode cX12_keepsMachine 45 = .ok (.iload_n 1, 1) := by decide +kernel
theorem dX12_keepsMachine_46 : decode cX12_keepsMachine 46 = .ok (.iaload, 1) := by decide +kernel
theorem dX12_keepsMachine_47 : decode cX12_keepsMachine 47 = .ok (.iastore, 1) := by decide +kernel
theorem dX12_keepsMachine_48 : decode cX12_keepsMachine 48 = .ok (.aload_n 0, 1) := by decide +kernel
theorem dX12_keepsMachine_49 : decode cX12_keepsMachine 49 = .ok (.getfield 121, 3) := by decide +kernel
theorem dX12_keepsMachine_52 : decode cX12_keepsMachine 52 = .ok (.iload_n 2, 1) := by decide +kernel
theorem dX12_keepsMachine_53 : decode cX12_keepsMachine 53 = .ok (.aload_n 0, 1) := by decide +kernel
theorem dX12_keepsMachine_54 : decode cX12_keepsMachine 54 = .ok (.getfield 121, 3) := by decide +kernel
theorem dX12_keepsMachine_57 : decode cX12_keepsMachine 57 = .ok (.iload_n 1, 1) := by decide +kernel
theorem dX12_keepsMachine_58 : decode cX12_keepsMachine 58 = .ok (.laload, 1) := by decide +kernel
theorem dX12_keepsMachine_59 : decode cX12_keepsMachine 59 = .ok (.lastore, 1) := by decide +kernel
theorem dX12_keepsMachine_60 : decode cX12_keepsMachine 60 = .ok (.iconst 0, 1) := by decide +kernel
theorem dX12_keepsMachine_61 : decode cX12_keepsMachine 61 = .ok (.istore_n 3, 1) := by decide +kernel
theorem dX12_keepsMachine_62 : decode cX12_keepsMachine 62 = .ok (.iload_n 3, 1) := by decide +kernel
theorem dX12_keepsMachine_63 : decode cX12_keepsMachine 63 = .ok (.aload_n 0, 1) := by decide +kernel
theorem dX12_keepsMachine_64 : decode cX12_keepsMachine 64 = .ok (.getfield 103, 3) := by decide +kernel
theorem dX12_keepsMachine_67 : decode cX12_keepsMachine 67 = .ok (.iload_n 2, 1) := by decide +kernel
theorem dX12_keepsMachine_68 : decode cX12_keepsMachine 68 = .ok (.iaload, 1) := by decide +kernel
theorem dX12_keepsMachine_69 : decode cX12_keepsMachine 69 = .ok (.if_icmp .ge 33, 3) := by decide +kernel
theorem dX12_keepsMachine_72 : decode cX12_keepsMachine 72 = .ok (.aload_n 0, 1) := by decide +kernel
theorem dX12_keepsMachine_73 : decode cX12_keepsMachine 73 = .ok (.getfield 106, 3) := by decide +kernel
theorem dX12_keepsMachine_76 : decode cX12_keepsMachine 76 = .ok (.iload_n 2, 1) := by decide +kernel
theorem dX12_keepsMachine_77 : decode cX12_keepsMachine 77 = .ok (.sipush 128, 3) := by decide +kernel
theorem dX12_keepsMachine_80 : decode cX12_keepsMachine 80 = .ok (.imul, 1) := by decide +kernel
theorem dX12_keepsMachine_81 : decode cX12_keepsMachine 81 = .ok (.iload_n 3, 1) := by decide +kernel
theorem dX12_keepsMachine_82 : decode cX12_keepsMachine 82 = .ok (.iadd, 1) := by decide +kernel
theorem dX12_keepsMachine_83 : decode cX12_keepsMachine 83 = .ok (.aload_n 0, 1) := by decide +kernel
theorem dX12_keepsMachine_84 : decode cX12_keepsMachine 84 = .ok (.getfield 106, 3) := by decide +kernel
theorem dX12_keepsMachine_87 : decode cX12_keepsMachine 87 = .ok (.iload_n 1, 1) := by decide +kernel
theorem dX12_keepsMachine_88 : decode cX12_keepsMachine 88 = .ok (.sipush 128, 3) := by decide +kernel
theorem dX12_keepsMachine_91 : decode cX12_keepsMachine 91 = .ok (.imul, 1) := by decide +kernel
theorem dX12_keepsMachine_92 : decode cX12_keepsMachine 92 = .ok (.iload_n 3, 1) := by decide +kernel
theorem dX12_keepsMachine_93 : decode cX12_keepsMachine 93 = .ok (.iadd, 1) := by decide +kernel
theorem dX12_keepsMachine_94 : decode cX12_keepsMachine 94 = .ok (.iaload, 1) := by decide +kernel
theorem dX12_keepsMachine_95 : decode cX12_keepsMachine 95 = .ok (.iastore, 1) := by decide +kernel
theorem dX12_keepsMachine_96 : decode cX12_keepsMachine 96 = .ok (.iinc 3 1, 3) := by decide +kernel
theorem dX12_keepsMachine_99 : decode cX12_keepsMachine 99 = .ok (.goto (-37), 3) := by decide +kernel
theorem dX12_keepsMachine_102 : decode cX12_keepsMachine 102 = .ok (.iconst 0, 1) := by decide +kernel
theorem dX12_keepsMachine_103 : decode cX12_keepsMachine 103 = .ok (.istore_n 3, 1) := by decide +kernel
theorem dX12_keepsMachine_104 : decode cX12_keepsMachine 104 = .ok (.iload_n 3, 1) := by decide +kernel
theorem dX12_keepsMachine_105 : decode cX12_keepsMachine 105 = .ok (.aload_n 0, 1) := by decide +kernel
theorem dX12_keepsMachine_106 : decode cX12_keepsMachine 106 = .ok (.getfield 97, 3) := by decide +kernel
theorem dX12_keepsMachine_109 : decode cX12_keepsMachine 109 = .ok (.iload_n 2, 1) := by decide +kernel
theorem dX12_keepsMachine_110 : decode cX12_keepsMachine 110 = .ok (.iaload, 1) := by decide +kernel
theorem dX12_keepsMachine_111 : decode cX12_keepsMachine 111 = .ok (.if_icmp .ge 105, 3) := by decide +kernel
theorem dX12_keepsMachine_114 : decode cX12_keepsMachine 114 = .ok (.aload_n 0, 1) := by decide +kernel
theorem dX12_keepsMachine_115 : decode cX12_keepsMachine 115 = .ok (.getfield 109, 3) := by decide +kernel
theorem dX12_keepsMachine_118 : decode cX12_keepsMachine 118 = .ok (.iload_n 2, 1) := by decide +kernel
theorem dX12_keepsMachine_119 : decode cX12_keepsMachine 119 = .ok (.sipush 160, 3) := by decide +kernel
theorem dX12_keepsMachine_122 : decode cX12_keepsMachine 122 = .ok (.imul, 1) := by decide +kernel
theorem dX12_keepsMachine_123 : decode cX12_keepsMachine 123 = .ok (.iload_n 3, 1) := by decide +kernel
theorem dX12_keepsMachine_124 : decode cX12_keepsMachine 124 = .ok (.iadd, 1) := by decide +kernel
theorem dX12_keepsMachine_125 : decode cX12_keepsMachine 125 = .ok (.aload_n 0, 1) := by decide +kernel
theorem dX12_keepsMachine_126 : decode cX12_keepsMachine 126 = .ok (.getfield 109, 3) := by decide +kernel
theorem dX12_keepsMachine_129 : decode cX12_keepsMachine 129 = .ok (.iload_n 1, 1) := by decide +kernel
theorem dX12_keepsMachine_130 : decode cX12_keepsMachine 130 = .ok (.sipush 160, 3) := by decide +kernel
theorem dX12_keepsMachine_133 : decode cX12_keepsMachine 133 = .ok (.imul, 1) := by decide +kernel
theorem dX12_keepsMachine_134 : decode cX12_keepsMachine 134 = .ok (.iload_n 3, 1) := by decide +kernel
theorem dX12_keepsMachine_135 : decode cX12_keepsMachine 135 = .ok (.iadd, 1) := by decide +kernel
theorem dX12_keepsMachine_136 : decode cX12_keepsMachine 136 = .ok (.iaload, 1) := by decide +kernel
theorem dX12_keepsMachine_137 : decode cX12_keepsMachine 137 = .ok (.iastore, 1) := by decide +kernel
theorem dX12_keepsMachine_138 : decode cX12_keepsMachine 138 = .ok (.aload_n 0, 1) := by decide +kernel
theorem dX12_keepsMachine_139 : decode cX12_keepsMachine 139 = .ok (.getfield 112, 3) := by decide +kernel
theorem dX12_keepsMachine_142 : decode cX12_keepsMachine 142 = .ok (.iload_n 2, 1) := by decide +kernel
theorem dX12_keepsMachine_143 : decode cX12_keepsMachine 143 = .ok (.sipush 160, 3) := by decide +kernel
theorem dX12_keepsMachine_146 : decode cX12_keepsMachine 146 = .ok (.imul, 1) := by decide +kernel
theorem dX12_keepsMachine_147 : decode cX12_keepsMachine 147 = .ok (.iload_n 3, 1) := by decide +kernel
theorem dX12_keepsMachine_148 : decode cX12_keepsMachine 148 = .ok (.iadd, 1) := by decide +kernel
theorem dX12_keepsMachine_149 : decode cX12_keepsMachine 149 = .ok (.aload_n 0, 1) := by decide +kernel
theorem dX12_keepsMachine_150 : decode cX12_keepsMachine 150 = .ok (.getfield 112, 3) := by decide +kernel
theorem dX12_keepsMachine_153 : decode cX12_keepsMachine 153 = .ok (.iload_n 1, 1) := by decide +kernel
theorem dX12_keepsMachine_154 : decode cX12_keepsMachine 154 = .ok (.sipush 160, 3) := by decide +kernel
theorem dX12_keepsMachine_157 : decode cX12_keepsMachine 157 = .ok (.imul, 1) := by decide +kernel
theorem dX12_keepsMachine_158 : decode cX12_keepsMachine 158 = .ok (.iload_n 3, 1) := by decide +kernel
theorem dX12_keepsMachine_159 : decode cX12_keepsMachine 159 = .ok (.iadd, 1) := by decide +kernel
theorem dX12_keepsMachine_160 : decode cX12_keepsMachine 160 = .ok (.iaload, 1) := by decide +kernel
theorem dX12_keepsMachine_161 : decode cX12_keepsMachine 161 = .ok (.iastore, 1) := by decide +kernel
theorem dX12_keepsMachine_162 : decode cX12_keepsMachine 162 = .ok (.aload_n 0, 1) := by decide +kernel
theorem dX12_keepsMachine_163 : decode cX12_keepsMachine 163 = .ok (.getfield 124, 3) := by decide +kernel
theorem dX12_keepsMachine_166 : decode cX12_keepsMachine 166 = .ok (.iload_n 2, 1) := by decide +kernel
theorem dX12_keepsMachine_167 : decode cX12_keepsMachine 167 = .ok (.sipush 160, 3) := by decide +kernel
theorem dX12_keepsMachine_170 : decode cX12_keepsMachine 170 = .ok (.imul, 1) := by decide +kernel
theorem dX12_keepsMachine_171 : decode cX12_keepsMachine 171 = .ok (.iload_n 3, 1) := by decide +kernel
theorem dX12_keepsMachine_172 : decode cX12_keepsMachine 172 = .ok (.iadd, 1) := by decide +kernel
theorem dX12_keepsMachine_173 : decode cX12_keepsMachine 173 = .ok (.aload_n 0, 1) := by decide +kernel
theorem dX12_keepsMachine_174 : decode cX12_keepsMachine 174 = .ok (.getfield 124, 3) := by decide +kernel
theorem dX12_keepsMachine_177 : decode cX12_keepsMachine 177 = .ok (.iload_n 1, 1) := by decide +kernel
theorem dX12_keepsMachine_178 : decode cX12_keepsMachine 178 = .ok (.sipush 160, 3) := by decide +kernel
theorem dX12_keepsMachine_181 : decode cX12_keepsMachine 181 = .ok (.imul, 1) := by decide +kernel
theorem dX12_keepsMachine_182 : decode cX12_keepsMachine 182 = .ok (.iload_n 3, 1) := by decide +kernel
theorem dX12_keepsMachine_183 : decode cX12_keepsMachine 183 = .ok (.iadd, 1) := by decide +kernel
theorem dX12_keepsMachine_184 : decode cX12_keepsMachine 184 = .ok (.laload, 1) := by decide +kernel
theorem dX12_keepsMachine_185 : decode cX12_keepsMachine 185 = .ok (.lastore, 1) := by decide +kernel
theorem dX12_keepsMachine_186 : decode cX12_keepsMachine 186 = .ok (.aload_n 0, 1) := by decide +kernel
theorem dX12_keepsMachine_187 : decode cX12_keepsMachine 187 = .ok (.getfield 127, 3) := by decide +kernel
theorem dX12_keepsMachine_190 : decode cX12_keepsMachine 190 = .ok (.iload_n 2, 1) := by decide +kernel
theorem dX12_keepsMachine_191 : decode cX12_keepsMachine 191 = .ok (.sipush 160, 3) := by decide +kernel
theorem dX12_keepsMachine_194 : decode cX12_keepsMachine 194 = .ok (.imul, 1) := by decide +kernel
theorem dX12_keepsMachine_195 : decode cX12_keepsMachine 195 = .ok (.iload_n 3, 1) := by decide +kernel
theorem dX12_keepsMachine_196 : decode cX12_keepsMachine 196 = .ok (.iadd, 1) := by decide +kernel
theorem dX12_keepsMachine_197 : decode cX12_keepsMachine 197 = .ok (.aload_n 0, 1) := by decide +kernel
theorem dX12_keepsMachine_198 : decode cX12_keepsMachine 198 = .ok (.getfield 127, 3) := by decide +kernel
theorem dX12_keepsMachine_201 : decode cX12_keepsMachine 201 = .ok (.iload_n 1, 1) := by decide +kernel
theorem dX12_keepsMachine_202 : decode cX12_keepsMachine 202 = .ok (.sipush 160, 3) := by decide +kernel
theorem dX12_keepsMachine_205 : decode cX12_keepsMachine 205 = .ok (.imul, 1) := by decide +kernel
theorem dX12_keepsMachine_206 : decode cX12_keepsMachine 206 = .ok (.iload_n 3, 1) := by decide +kernel
theorem dX12_keepsMachine_207 : decode cX12_keepsMachine 207 = .ok (.iadd, 1) := by decide +kernel
theorem dX12_keepsMachine_208 : decode cX12_keepsMachine 208 = .ok (.laload, 1) := by decide +kernel
theorem dX12_keepsMachine_209 : decode cX12_keepsMachine 209 = .ok (.lastore, 1) := by decide +kernel
theorem dX12_keepsMachine_210 : decode cX12_keepsMachine 210 = .ok (.iinc 3 1, 3) := by decide +kernel
theorem dX12_keepsMachine_213 : decode cX12_keepsMachine 213 = .ok (.goto (-109), 3) := by decide +kernel
theorem dX12_keepsMachine_216 : decode cX12_keepsMachine 216 = .ok (.iconst 0, 1) := by decide +kernel
theorem dX12_keepsMachine_217 : decode cX12_keepsMachine 217 = .ok (.istore_n 3, 1) := by decide +kernel
theorem dX12_keepsMachine_218 : decode cX12_keepsMachine 218 = .ok (.iload_n 3, 1) := by decide +kernel
theorem dX12_keepsMachine_219 : decode cX12_keepsMachine 219 = .ok (.aload_n 0, 1) := by decide +kernel
theorem dX12_keepsMachine_220 : decode cX12_keepsMachine 220 = .ok (.getfield 100, 3) := by decide +kernel
theorem dX12_keepsMachine_223 : decode cX12_keepsMachine 223 = .ok (.iload_n 2, 1) := by decide +kernel
theorem dX12_keepsMachine_224 : decode cX12_keepsMachine 224 = .ok (.iaload, 1) := by decide +kernel
theorem dX12_keepsMachine_225 : decode cX12_keepsMachine 225 = .ok (.if_icmp .ge 53, 3) := by decide +kernel
theorem dX12_keepsMachine_228 : decode cX12_keepsMachine 228 = .ok (.aload_n 0, 1) := by decide +kernel
theorem dX12_keepsMachine_229 : decode cX12_keepsMachine 229 = .ok (.getfield 115, 3) := by decide +kernel
theorem dX12_keepsMachine_232 : decode cX12_keepsMachine 232 = .ok (.iload_n 2, 1) := by decide +kernel
theorem dX12_keepsMachine_233 : decode cX12_keepsMachine 233 = .ok (.bipush 64, 2) := by decide +kernel
theorem dX12_keepsMachine_235 : decode cX12_keepsMachine 235 = .ok (.imul, 1) := by decide +kernel
theorem dX12_keepsMachine_236 : decode cX12_keepsMachine 236 = .ok (.iload_n 3, 1) := by decide +kernel
theorem dX12_keepsMachine_237 : decode cX12_keepsMachine 237 = .ok (.iadd, 1) := by decide +kernel
theorem dX12_keepsMachine_238 : decode cX12_keepsMachine 238 = .ok (.aload_n 0, 1) := by decide +kernel
theorem dX12_keepsMachine_239 : decode cX12_keepsMachine 239 = .ok (.getfield 115, 3) := by decide +kernel
theorem dX12_keepsMachine_242 : decode cX12_keepsMachine 242 = .ok (.iload_n 1, 1) := by decide +kernel
theorem dX12_keepsMachine_243 : decode cX12_keepsMachine 243 = .ok (.bipush 64, 2) := by decide +kernel
theorem dX12_keepsMachine_245 : decode cX12_keepsMachine 245 = .ok (.imul, 1) := by decide +kernel
theorem dX12_keepsMachine_246 : decode cX12_keepsMachine 246 = .ok (.iload_n 3, 1) := by decide +kernel
theorem dX12_keepsMachine_247 : decode cX12_keepsMachine 247 = .ok (.iadd, 1) := by decide +kernel
theorem dX12_keepsMachine_248 : decode cX12_keepsMachine 248 = .ok (.iaload, 1) := by decide +kernel
theorem dX12_keepsMachine_249 : decode cX12_keepsMachine 249 = .ok (.iastore, 1) := by decide +kernel
theorem dX12_keepsMachine_250 : decode cX12_keepsMachine 250 = .ok (.aload_n 0, 1) := by decide +kernel
theorem dX12_keepsMachine_251 : decode cX12_keepsMachine 251 = .ok (.getfield 118, 3) := by decide +kernel
theorem dX12_keepsMachine_254 : decode cX12_keepsMachine 254 = .ok (.iload_n 2, 1) := by decide +kernel
theorem dX12_keepsMachine_255 : decode cX12_keepsMachine 255 = .ok (.bipush 64, 2) := by decide +kernel
theorem dX12_keepsMachine_257 : decode cX12_keepsMachine 257 = .ok (.imul, 1) := by decide +kernel
theorem dX12_keepsMachine_258 : decode cX12_keepsMachine 258 = .ok (.iload_n 3, 1) := by decide +kernel
theorem dX12_keepsMachine_259 : decode cX12_keepsMachine 259 = .ok (.iadd, 1) := by decide +kernel
theorem dX12_keepsMachine_260 : decode cX12_keepsMachine 260 = .ok (.aload_n 0, 1) := by decide +kernel
theorem dX12_keepsMachine_261 : decode cX12_keepsMachine 261 = .ok (.getfield 118, 3) := by decide +kernel
theorem dX12_keepsMachine_264 : decode cX12_keepsMachine 264 = .ok (.iload_n 1, 1) := by decide +kernel
theorem dX12_keepsMachine_265 : decode cX12_keepsMachine 265 = .ok (.bipush 64, 2) := by decide +kernel
theorem dX12_keepsMachine_267 : decode cX12_keepsMachine 267 = .ok (.imul, 1) := by decide +kernel
theorem dX12_keepsMachine_268 : decode cX12_keepsMachine 268 = .ok (.iload_n 3, 1) := by decide +kernel
theorem dX12_keepsMachine_269 : decode cX12_keepsMachine 269 = .ok (.iadd, 1) := by decide +kernel
theorem dX12_keepsMachine_270 : decode cX12_keepsMachine 270 = .ok (.iaload, 1) := by decide +kernel
theorem dX12_keepsMachine_271 : decode cX12_keepsMachine 271 = .ok (.iastore, 1) := by decide +kernel
theorem dX12_keepsMachine_272 : decode cX12_keepsMachine 272 = .ok (.iinc 3 1, 3) := by decide +kernel
theorem dX12_keepsMachine_275 : decode cX12_keepsMachine 275 = .ok (.goto (-57), 3) := by decide +kernel
theorem dX12_keepsMachine_278 : decode cX12_keepsMachine 278 = .ok (.return_, 1) := by decide +kernel
theorem dX12_cuts_0 : decode cX12_cuts 0 = .ok (.iload_n 1, 1) := by decide +kernel
theorem dX12_cuts_1 : decode cX12_cuts 1 = .ok (.sipush 128, 3) := by decide +kernel
theorem dX12_cuts_4 : decode cX12_cuts 4 = .ok (.imul, 1) := by decide +kernel
theorem dX12_cuts_5 : decode cX12_cuts 5 = .ok (.istore_n 3, 1) := by decide +kernel
theorem dX12_cuts_6 : decode cX12_cuts 6 = .ok (.iconst 0, 1) := by decide +kernel
theorem dX12_cuts_7 : decode cX12_cuts 7 = .ok (.istore 4, 2) := by decide +kernel
theorem dX12_cuts_9 : decode cX12_cuts 9 = .ok (.iload 4, 2) := by decide +kernel
theorem dX12_cuts_11 : decode cX12_cuts 11 = .ok (.aload_n 0, 1) := by decide +kernel
theorem dX12_cuts_12 : decode cX12_cuts 12 = .ok (.getfield 103, 3) := by decide +kernel
theorem dX12_cuts_15 : decode cX12_cuts 15 = .ok (.iload_n 1, 1) := by decide +kernel
theorem dX12_cuts_16 : decode cX12_cuts 16 = .ok (.iaload, 1) := by decide +kernel
theorem dX12_cuts_17 : decode cX12_cuts 17 = .ok (.if_icmp .ge 22, 3) := by decide +kernel
theorem dX12_cuts_20 : decode cX12_cuts 20 = .ok (.aload_n 0, 1) := by decide +kernel
theorem dX12_cuts_21 : decode cX12_cuts 21 = .ok (.getfield 106, 3) := by decide +kernel
theorem dX12_cuts_24 : decode cX12_cuts 24 = .ok (.iload_n 3, 1) := by decide +kernel
theorem dX12_cuts_25 : decode cX12_cuts 25 = .ok (.iload 4, 2) := by decide +kernel
theorem dX12_cuts_27 : decode cX12_cuts 27 = .ok (.iadd, 1) := by decide +kernel
theorem dX12_cuts_28 : decode cX12_cuts 28 = .ok (.iaload, 1) := by decide +kernel
theorem dX12_cuts_29 : decode cX12_cuts 29 = .ok (.iload_n 2, 1) := by decide +kernel
theorem dX12_cuts_30 : decode cX12_cuts 30 = .ok (.if_icmp .ge 9, 3) := by decide +kernel
theorem dX12_cuts_33 : decode cX12_cuts 33 = .ok (.iinc 4 1, 3) := by decide +kernel
theorem dX12_cuts_36 : decode cX12_cuts 36 = .ok (.goto (-27), 3) := by decide +kernel
theorem dX12_cuts_39 : decode cX12_cuts 39 = .ok (.iload_n 2, 1) := by decide +kernel
theorem dX12_cuts_40 : decode cX12_cuts 40 = .ok (.ldc_w 373, 3) := by decide +kernel
theorem dX12_cuts_43 : decode cX12_cuts 43 = .ok (.if_icmp .eq 27, 3) := by decide +kernel
theorem dX12_cuts_46 : decode cX12_cuts 46 = .ok (.iload 4, 2) := by decide +kernel
theorem dX12_cuts_48 : decode cX12_cuts 48 = .ok (.aload_n 0, 1) := by decide +kernel
theorem dX12_cuts_49 : decode cX12_cuts 49 = .ok (.getfield 103, 3) := by decide +kernel
theorem dX12_cuts_52 : decode cX12_cuts 52 = .ok (.iload_n 1, 1) := by decide +kernel
theorem dX12_cuts_53 : decode cX12_cuts 53 = .ok (.iaload, 1) := by decide +kernel
theorem dX12_cuts_54 : decode cX12_cuts 54 = .ok (.if_icmp .ge 18, 3) := by decide +kernel
theorem dX12_cuts_57 : decode cX12_cuts 57 = .ok (.aload_n 0, 1) := by decide +kernel
theorem dX12_cuts_58 : decode cX12_cuts 58 = .ok (.getfield 106, 3) := by decide +kernel
theorem dX12_cuts_61 : decode cX12_cuts 61 = .ok (.iload_n 3, 1) := by decide +kernel
theorem dX12_cuts_62 : decode cX12_cuts 62 = .ok (.iload 4, 2) := by decide +kernel
theorem dX12_cuts_64 : decode cX12_cuts 64 = .ok (.iadd, 1) := by decide +kernel
theorem dX12_cuts_65 : decode cX12_cuts 65 = .ok (.iaload, 1) := by decide +kernel
theorem dX12_cuts_66 : decode cX12_cuts 66 = .ok (.iload_n 2, 1) := by decide +kernel
theorem dX12_cuts_67 : decode cX12_cuts 67 = .ok (.if_icmp .ne 5, 3) := by decide +kernel
theorem dX12_cuts_70 : decode cX12_cuts 70 = .ok (.iconst 1, 1) := by decide +kernel
theorem dX12_cuts_71 : decode cX12_cuts 71 = .ok (.ireturn, 1) := by decide +kernel
theorem dX12_cuts_72 : decode cX12_cuts 72 = .ok (.aload_n 0, 1) := by decide +kernel
theorem dX12_cuts_73 : decode cX12_cuts 73 = .ok (.getfield 103, 3) := by decide +kernel
theorem dX12_cuts_76 : decode cX12_cuts 76 = .ok (.iload_n 1, 1) := by decide +kernel
theorem dX12_cuts_77 : decode cX12_cuts 77 = .ok (.iaload, 1) := by decide +kernel
theorem dX12_cuts_78 : decode cX12_cuts 78 = .ok (.sipush 128, 3) := by decide +kernel
theorem dX12_cuts_81 : decode cX12_cuts 81 = .ok (.if_icmp .ne 5, 3) := by decide +kernel
theorem dX12_cuts_84 : decode cX12_cuts 84 = .ok (.iconst 0, 1) := by decide +kernel
theorem dX12_cuts_85 : decode cX12_cuts 85 = .ok (.ireturn, 1) := by decide +kernel
theorem dX12_cuts_86 : decode cX12_cuts 86 = .ok (.aload_n 0, 1) := by decide +kernel
theorem dX12_cuts_87 : decode cX12_cuts 87 = .ok (.getfield 103, 3) := by decide +kernel
theorem dX12_cuts_90 : decode cX12_cuts 90 = .ok (.iload_n 1, 1) := by decide +kernel
theorem dX12_cuts_91 : decode cX12_cuts 91 = .ok (.iaload, 1) := by decide +kernel
theorem dX12_cuts_92 : decode cX12_cuts 92 = .ok (.istore 5, 2) := by decide +kernel
theorem dX12_cuts_94 : decode cX12_cuts 94 = .ok (.iload 5, 2) := by decide +kernel
theorem dX12_cuts_96 : decode cX12_cuts 96 = .ok (.iload 4, 2) := by decide +kernel
theorem dX12_cuts_98 : decode cX12_cuts 98 = .ok (.if_icmp .le 29, 3) := by decide +kernel
theorem dX12_cuts_101 : decode cX12_cuts 101 = .ok (.aload_n 0, 1) := by decide +kernel
theorem dX12_cuts_102 : decode cX12_cuts 102 = .ok (.getfield 106, 3) := by decide +kernel
theorem dX12_cuts_105 : decode cX12_cuts 105 = .ok (.iload_n 3, 1) := by decide +kernel
theorem dX12_cuts_106 : decode cX12_cuts 106 = .ok (.iload 5, 2) := by decide +kernel
theorem dX12_cuts_108 : decode cX12_cuts 108 = .ok (.iadd, 1) := by decide +kernel
theorem dX12_cuts_109 : decode cX12_cuts 109 = .ok (.aload_n 0, 1) := by decide +kernel
theorem dX12_cuts_110 : decode cX12_cuts 110 = .ok (.getfield 106, 3) := by decide +kernel
theorem dX12_cuts_113 : decode cX12_cuts 113 = .ok (.iload_n 3, 1) := by decide +kernel
theorem dX12_cuts_114 : decode cX12_cuts 114 = .ok (.iload 5, 2) := by decide +kernel
theorem dX12_cuts_116 : decode cX12_cuts 116 = .ok (.iadd, 1) := by decide +kernel
theorem dX12_cuts_117 : decode cX12_cuts 117 = .ok (.iconst 1, 1) := by decide +kernel
theorem dX12_cuts_118 : decode cX12_cuts 118 = .ok (.isub, 1) := by decide +kernel
theorem dX12_cuts_119 : decode cX12_cuts 119 = .ok (.iaload, 1) := by decide +kernel
theorem dX12_cuts_120 : decode cX12_cuts 120 = .ok (.iastore, 1) := by decide +kernel
theorem dX12_cuts_121 : decode cX12_cuts 121 = .ok (.iinc 5 (-1), 3) := by decide +kernel
theorem dX12_cuts_124 : decode cX12_cuts 124 = .ok (.goto (-30), 3) := by decide +kernel
theorem dX12_cuts_127 : decode cX12_cuts 127 = .ok (.aload_n 0, 1) := by decide +kernel
theorem dX12_cuts_128 : decode cX12_cuts 128 = .ok (.getfield 106, 3) := by decide +kernel
theorem dX12_cuts_131 : decode cX12_cuts 131 = .ok (.iload_n 3, 1) := by decide +kernel
theorem dX12_cuts_132 : decode cX12_cuts 132 = .ok (.iload 4, 2) := by decide +kernel
theorem dX12_cuts_134 : decode cX12_cuts 134 = .ok (.iadd, 1) := by decide +kernel
theorem dX12_cuts_135 : decode cX12_cuts 135 = .ok (.iload_n 2, 1) := by decide +kernel
theorem dX12_cuts_136 : decode cX12_cuts 136 = .ok (.iastore, 1) := by decide +kernel
theorem dX12_cuts_137 : decode cX12_cuts 137 = .ok (.aload_n 0, 1) := by decide +kernel
theorem dX12_cuts_138 : decode cX12_cuts 138 = .ok (.getfield 103, 3) := by decide +kernel
theorem dX12_cuts_141 : decode cX12_cuts 141 = .ok (.iload_n 1, 1) := by decide +kernel
theorem dX12_cuts_142 : decode cX12_cuts 142 = .ok (.dup2, 1) := by decide +kernel
theorem dX12_cuts_143 : decode cX12_cuts 143 = .ok (.iaload, 1) := by decide +kernel
theorem dX12_cuts_144 : decode cX12_cuts 144 = .ok (.iconst 1, 1) := by decide +kernel
theorem dX12_cuts_145 : decode cX12_cuts 145 = .ok (.iadd, 1) := by decide +kernel
theorem dX12_cuts_146 : decode cX12_cuts 146 = .ok (.iastore, 1) := by decide +kernel
theorem dX12_cuts_147 : decode cX12_cuts 147 = .ok (.iconst 1, 1) := by decide +kernel
theorem dX12_cuts_148 : decode cX12_cuts 148 = .ok (.ireturn, 1) := by decide +kernel
