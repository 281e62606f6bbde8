theorem dX11_feed_0 : decode cX11_feed 0 = .ok (.aload_n 0, 1) := by decide +kernel
theorem dX11_feed_1 : decode cX11_feed 1 = .ok (.getfield 77, 3) := by decide +kernel
theorem dX11_feed_4 : decode cX11_feed 4 = .ok (.sipush 880, 3) := by decide +kernel
theorem dX11_feed_7 : decode cX11_feed 7 = .ok (.if_icmp .le 5, 3) := by decide +kernel
theorem dX11_feed_10 : decode cX11_feed 10 = .ok (.iconst (-1), 1) := by decide +kernel
theorem dX11_feed_11 : decode cX11_feed 11 = .ok (.ireturn, 1) := by decide +kernel
theorem dX11_feed_12 : decode cX11_feed 12 = .ok (.aload_n 0, 1) := by decide +kernel
theorem dX11_feed_13 : decode cX11_feed 13 = .ok (.iload_n 1, 1) := by decide +kernel
theorem dX11_feed_14 : decode cX11_feed 14 = .ok (.invokevirtual 81, 3) := by decide +kernel
theorem dX11_feed_17 : decode cX11_feed 17 = .ok (.aload_n 0, 1) := by decide +kernel
theorem dX11_feed_18 : decode cX11_feed 18 = .ok (.iload_n 2, 1) := by decide +kernel
theorem dX11_feed_19 : decode cX11_feed 19 = .ok (.invokevirtual 81, 3) := by decide +kernel
theorem dX11_feed_22 : decode cX11_feed 22 = .ok (.aload_n 0, 1) := by decide +kernel
theorem dX11_feed_23 : decode cX11_feed 23 = .ok (.iload_n 3, 1) := by decide +kernel
theorem dX11_feed_24 : decode cX11_feed 24 = .ok (.invokevirtual 81, 3) := by decide +kernel
theorem dX11_feed_27 : decode cX11_feed 27 = .ok (.aload_n 0, 1) := by decide +kernel
theorem dX11_feed_28 : decode cX11_feed 28 = .ok (.iload 4, 2) := by decide +kernel
theorem dX11_feed_30 : decode cX11_feed 30 = .ok (.invokevirtual 81, 3) := by decide +kernel
theorem dX11_feed_33 : decode cX11_feed 33 = .ok (.aload_n 0, 1) := by decide +kernel
theorem dX11_feed_34 : decode cX11_feed 34 = .ok (.iload 5, 2) := by decide +kernel
theorem dX11_feed_36 : decode cX11_feed 36 = .ok (.invokevirtual 81, 3) := by decide +kernel
theorem dX11_feed_39 : decode cX11_feed 39 = .ok (.aload_n 0, 1) := by decide +kernel
theorem dX11_feed_40 : decode cX11_feed 40 = .ok (.getfield 77, 3) := by decide +kernel
theorem dX11_feed_43 : decode cX11_feed 43 = .ok (.ireturn, 1) := by decide +kernel
theorem dX11_bench_0 : decode cX11_bench 0 = .ok (.iload_n 1, 1) := by decide +kernel
theorem dX11_bench_1 : decode cX11_bench 1 = .ok (.ifCond .lt 11, 3) := by decide +kernel
theorem dX11_bench_4 : decode cX11_bench 4 = .ok (.iload_n 1, 1) := by decide +kernel
theorem dX11_bench_5 : decode cX11_bench 5 = .ok (.aload_n 0, 1) := by decide +kernel
theorem dX11_bench_6 : decode cX11_bench 6 = .ok (.getfield 77, 3) := by decide +kernel
theorem dX11_bench_9 : decode cX11_bench 9 = .ok (.if_icmp .le 9, 3) := by decide +kernel
theorem dX11_bench_12 : decode cX11_bench 12 = .ok (.aload_n 0, 1) := by decide +kernel
theorem dX11_bench_13 : decode cX11_bench 13 = .ok (.iconst 2, 1) := by decide +kernel
theorem dX11_bench_14 : decode cX11_bench 14 = .ok (.invokevirtual 84, 3) := by decide +kernel
theorem dX11_bench_17 : decode cX11_bench 17 = .ok (.ireturn, 1) := by decide +kernel
theorem dX11_bench_18 : decode cX11_bench 18 = .ok (.aload_n 0, 1) := by decide +kernel
theorem dX11_bench_19 : decode cX11_bench 19 = .ok (.iconst 0, 1) := by decide +kernel
theorem dX11_bench_20 : decode cX11_bench 20 = .ok (.putfield 77, 3) := by decide +kernel
theorem dX11_bench_23 : decode cX11_bench 23 = .ok (.aload_n 0, 1) := by decide +kernel
theorem dX11_bench_24 : decode cX11_bench 24 = .ok (.getfield 35, 3) := by decide +kernel
theorem dX11_bench_27 : decode cX11_bench 27 = .ok (.aload_n 0, 1) := by decide +kernel
theorem dX11_bench_28 : decode cX11_bench 28 = .ok (.getfield 9, 3) := by decide +kernel
theorem dX11_bench_31 : decode cX11_bench 31 = .ok (.iload_n 1, 1) := by decide +kernel
theorem dX11_bench_32 : decode cX11_bench 32 = .ok (.invokevirtual 88, 3) := by decide +kernel
theorem dX11_bench_35 : decode cX11_bench 35 = .ok (.istore_n 2, 1) := by decide +kernel
theorem dX11_bench_36 : decode cX11_bench 36 = .ok (.aload_n 0, 1) := by decide +kernel
theorem dX11_bench_37 : decode cX11_bench 37 = .ok (.aload_n 0, 1) := by decide +kernel
theorem dX11_bench_38 : decode cX11_bench 38 = .ok (.getfield 35, 3) := by decide +kernel
theorem dX11_bench_41 : decode cX11_bench 41 = .ok (.getfield 92, 3) := by decide +kernel
theorem dX11_bench_44 : decode cX11_bench 44 = .ok (.getfield 96, 3) := by decide +kernel
theorem dX11_bench_47 : decode cX11_bench 47 = .ok (.putfield 101, 3) := by decide +kernel
theorem dX11_bench_50 : decode cX11_bench 50 = .ok (.aload_n 0, 1) := by decide +kernel
theorem dX11_bench_51 : decode cX11_bench 51 = .ok (.aload_n 0, 1) := by decide +kernel
theorem dX11_bench_52 : decode cX11_bench 52 = .ok (.getfield 35, 3) := by decide +kernel
theorem dX11_bench_55 : decode cX11_bench 55 = .ok (.getfield 92, 3) := by decide +kernel
theorem dX11_bench_58 : decode cX11_bench 58 = .ok (.getfield 104, 3) := by decide +kernel
theorem dX11_bench_61 : decode cX11_bench 61 = .ok (.putfield 107, 3) := by decide +kernel
theorem dX11_bench_64 : decode cX11_bench 64 = .ok (.iload_n 2, 1) := by decide +kernel
theorem dX11_bench_65 : decode cX11_bench 65 = .ok (.ifCond .ne 9, 3) := by decide +kernel
theorem dX11_bench_68 : decode cX11_bench 68 = .ok (.aload_n 0, 1) := by decide +kernel
theorem dX11_bench_69 : decode cX11_bench 69 = .ok (.iconst 4, 1) := by decide +kernel
theorem dX11_bench_70 : decode cX11_bench 70 = .ok (.invokevirtual 84, 3) := by decide +kernel
theorem dX11_bench_73 : decode cX11_bench 73 = .ok (.ireturn, 1) := by decide +kernel
theorem dX11_bench_74 : decode cX11_bench 74 = .ok (.aload_n 0, 1) := by decide +kernel
theorem dX11_bench_75 : decode cX11_bench 75 = .ok (.invokevirtual 110, 3) := by decide +kernel
theorem dX11_bench_78 : decode cX11_bench 78 = .ok (.aload_n 0, 1) := by decide +kernel
theorem dX11_bench_79 : decode cX11_bench 79 = .ok (.aload_n 0, 1) := by decide +kernel
theorem dX11_bench_80 : decode cX11_bench 80 = .ok (.getfield 113, 3) := by decide +kernel
theorem dX11_bench_83 : decode cX11_bench 83 = .ok (.invokevirtual 116, 3) := by decide +kernel
theorem dX11_bench_86 : decode cX11_bench 86 = .ok (.ireturn, 1) := by decide +kernel
theorem dX11_fault_0 : decode cX11_fault 0 = .ok (.aload_n 0, 1) := by decide +kernel
theorem dX11_fault_1 : decode cX11_fault 1 = .ok (.getfield 101, 3) := by decide +kernel
theorem dX11_fault_4 : decode cX11_fault 4 = .ok (.ireturn, 1) := by decide +kernel
theorem dX11_where_0 : decode cX11_where 0 = .ok (.aload_n 0, 1) := by decide +kernel
theorem dX11_where_1 : decode cX11_where 1 = .ok (.getfield 119, 3) := by decide +kernel
theorem dX11_where_4 : decode cX11_where 4 = .ok (.iconst 4, 1) := by decide +kernel
theorem dX11_where_5 : decode cX11_where 5 = .ok (.if_icmp .ne 10, 3) := by decide +kernel
theorem dX11_where_8 : decode cX11_where 8 = .ok (.aload_n 0, 1) := by decide +kernel
theorem dX11_where_9 : decode cX11_where 9 = .ok (.getfield 107, 3) := by decide +kernel
theorem dX11_where_12 : decode cX11_where 12 = .ok (.goto 4, 3) := by decide +kernel
theorem dX11_where_15 : decode cX11_where 15 = .ok (.iconst (-1), 1) := by decide +kernel
theorem dX11_where_16 : decode cX11_where 16 = .ok (.ireturn, 1) := by decide +kernel
theorem dX11_ranges_0 : decode cX11_ranges 0 = .ok (.aload_n 0, 1) := by decide +kernel
theorem dX11_ranges_1 : decode cX11_ranges 1 = .ok (.iload_n 1, 1) := by decide +kernel
theorem dX11_ranges_2 : decode cX11_ranges 2 = .ok (.invokevirtual 122, 3) := by decide +kernel
theorem dX11_ranges_5 : decode cX11_ranges 5 = .ok (.ifCond .ne 9, 3) := by decide +kernel
theorem dX11_ranges_8 : decode cX11_ranges 8 = .ok (.aload_n 0, 1) := by decide +kernel
theorem dX11_ranges_9 : decode cX11_ranges 9 = .ok (.iconst 1, 1) := by decide +kernel
theorem dX11_ranges_10 : decode cX11_ranges 10 = .ok (.invokevirtual 84, 3) := by decide +kernel
theorem dX11_ranges_13 : decode cX11_ranges 13 = .ok (.ireturn, 1) := by decide +kernel
theorem dX11_ranges_14 : decode cX11_ranges 14 = .ok (.aload_n 0, 1) := by decide +kernel
theorem dX11_ranges_15 : decode cX11_ranges 15 = .ok (.aload_n 0, 1) := by decide +kernel
theorem dX11_ranges_16 : decode cX11_ranges 16 = .ok (.getfield 72, 3) := by decide +kernel
theorem dX11_ranges_19 : decode cX11_ranges 19 = .ok (.getfield 126, 3) := by decide +kernel
theorem dX11_ranges_22 : decode cX11_ranges 22 = .ok (.iload_n 1, 1) := by decide +kernel
theorem dX11_ranges_23 : decode cX11_ranges 23 = .ok (.aaload, 1) := by decide +kernel
theorem dX11_ranges_24 : decode cX11_ranges 24 = .ok (.invokevirtual 129, 3) := by decide +kernel
theorem dX11_ranges_27 : decode cX11_ranges 27 = .ok (.invokevirtual 116, 3) := by decide +kernel
theorem dX11_ranges_30 : decode cX11_ranges 30 = .ok (.ireturn, 1) := by decide +kernel
theorem dX11_range_0 : decode cX11_range 0 = .ok (.aload_n 0, 1) := by decide +kernel
theorem dX11_range_1 : decode cX11_range 1 = .ok (.iload_n 1, 1) := by decide +kernel
theorem dX11_range_2 : decode cX11_range 2 = .ok (.invokevirtual 122, 3) := by decide +kernel
theorem dX11_range_5 : decode cX11_range 5 = .ok (.ifCond .eq 22, 3) := by decide +kernel
theorem dX11_range_8 : decode cX11_range 8 = .ok (.iload_n 2, 1) := by decide +kernel
theorem dX11_range_9 : decode cX11_range 9 = .ok (.aload_n 0, 1) := by decide +kernel
theorem dX11_range_10 : decode cX11_range 10 = .ok (.getfield 72, 3) := by decide +kernel
theorem dX11_range_13 : decode cX11_range 13 = .ok (.getfield 126, 3) := by decide +kernel
theorem dX11_range_16 : decode cX11_range 16 = .ok (.iload_n 1, 1) := by decide +kernel
theorem dX11_range_17 : decode cX11_range 17 = .ok (.aaload, 1) := by decide +kernel
theorem dX11_range_18 : decode cX11_range 18 = .ok (.invokevirtual 129, 3) := by decide +kernel
theorem dX11_range_21 : decode cX11_range 21 = .ok (.invokestatic 133, 3) := by decide +kernel
theorem dX11_range_24 : decode cX11_range 24 = .ok (.ifCond .ne 9, 3) := by decide +kernel
theorem dX11_range_27 : decode cX11_range 27 = .ok (.aload_n 0, 1) := by decide +kernel
theorem dX11_range_28 : decode cX11_range 28 = .ok (.iconst 1, 1) := by decide +kernel
theorem dX11_range_29 : decode cX11_range 29 = .ok (.invokevirtual 84, 3) := by decide +kernel
theorem dX11_range_32 : decode cX11_range 32 = .ok (.ireturn, 1) := by decide +kernel
theorem dX11_range_33 : decode cX11_range 33 = .ok (.aload_n 0, 1) := by decide +kernel
theorem dX11_range_34 : decode cX11_range 34 = .ok (.aload_n 0, 1) := by decide +kernel
theorem dX11_range_35 : decode cX11_range 35 = .ok (.getfield 72, 3) := by decide +kernel
theorem dX11_range_38 : decode cX11_range 38 = .ok (.getfield 126, 3) := by decide +kernel
theorem dX11_range_41 : decode cX11_range 41 = .ok (.iload_n 1, 1) := by decide +kernel
theorem dX11_range_42 : decode cX11_range 42 = .ok (.aaload, 1) := by decide +kernel
theorem dX11_range_43 : decode cX11_range 43 = .ok (.iload_n 2, 1) := by decide +kernel
theorem dX11_range_44 : decode cX11_range 44 = .ok (.iload_n 3, 1) := by decide +kernel
theorem dX11_range_45 : decode cX11_range 45 = .ok (.invokevirtual 137, 3) := by decide +kernel
theorem dX11_range_48 : decode cX11_range 48 = .ok (.invokevirtual 116, 3) := by decide +kernel
theorem dX11_range_51 : decode cX11_range 51 = .ok (.ireturn, 1) := by decide +kernel
theorem dX11_letters_0 : decode cX11_letters 0 = .ok (.aload_n 0, 1) := by decide +kernel
theorem dX11_letters_1 : decode cX11_letters 1 = .ok (.iload_n 1, 1) := by decide +kernel
theorem dX11_letters_2 : decode cX11_letters 2 = .ok (.invokevirtual 122, 3) := by decide +kernel
theorem dX11_letters_5 : decode cX11_letters 5 = .ok (.ifCond .ne 9, 3) := by decide +kernel
theorem dX11_letters_8 : decode cX11_letters 8 = .ok (.aload_n 0, 1) := by decide +kernel
theorem dX11_letters_9 : decode cX11_letters 9 = .ok (.iconst 1, 1) := by decide +kernel
theorem dX11_letters_10 : decode cX11_letters 10 = .ok (.invokevirtual 84, 3) := by decide +kernel
theorem dX11_letters_13 : decode cX11_letters 13 = .ok (.ireturn, 1) := by decide +kernel
theorem dX11_letters_14 : decode cX11_letters 14 = .ok (.aload_n 0, 1) := by decide +kernel
theorem dX11_letters_15 : decode cX11_letters 15 = .ok (.aload_n 0, 1) := by decide +kernel
theorem dX11_letters_16 : decode cX11_letters 16 = .ok (.getfield 72, 3) := by decide +kernel
theorem dX11_letters_19 : decode cX11_letters 19 = .ok (.getfield 126, 3) := by decide +kernel
theorem dX11_letters_22 : decode cX11_letters 22 = .ok (.iload_n 1, 1) := by decide +kernel
theorem dX11_letters_23 : decode cX11_letters 23 = .ok (.aaload, 1) := by decide +kernel
theorem dX11_letters_24 : decode cX11_letters 24 = .ok (.invokevirtual 141, 3) := by decide +kernel
theorem dX11_letters_27 : decode cX11_letters 27 = .ok (.invokevirtual 116, 3) := by decide +kernel
theorem dX11_letters_30 : decode cX11_letters 30 = .ok (.ireturn, 1) := by decide +kernel
theorem dX11_has_0 : decode cX11_has 0 = .ok (.aload_n 0, 1) := by decide +kernel
theorem dX11_has_1 : decode cX11_has 1 = .ok (.iload_n 1, 1) := by decide +kernel
theorem dX11_has_2 : decode cX11_has 2 = .ok (.invokevirtual 122, 3) := by decide +kernel
theorem dX11_has_5 : decode cX11_has 5 = .ok (.ifCond .ne 9, 3) := by decide +kernel
theorem dX11_has_8 : decode cX11_has 8 = .ok (.aload_n 0, 1) := by decide +kernel
theorem dX11_has_9 : decode cX11_has 9 = .ok (.iconst 1, 1) := by decide +kernel
theorem dX11_has_10 : decode cX11_has 10 = .ok (.invokevirtual 84, 3) := by decide +kernel
theorem dX11_has_13 : decode cX11_has 13 = .ok (.ireturn, 1) := by decide +kernel
theorem dX11_has_14 : decode cX11_has 14 = .ok (.iload_n 2, 1) := by decide +kernel
theorem dX11_has_15 : decode cX11_has 15 = .ok (.ldc 144, 2) := by decide +kernel
theorem dX11_has_17 : decode cX11_has 17 = .ok (.invokestatic 133, 3) := by decide +kernel
theorem dX11_has_20 : decode cX11_has 20 = .ok (.ifCond .ne 9, 3) := by decide +kernel
theorem dX11_has_23 : decode cX11_has 23 = .ok (.aload_n 0, 1) := by decide +kernel
theorem dX11_has_24 : decode cX11_has 24 = .ok (.iconst 2, 1) := by decide +kernel
theorem dX11_has_25 : decode cX11_has 25 = .ok (.invokevirtual 84, 3) := by decide +kernel
theorem dX11_has_28 : decode cX11_has 28 = .ok (.ireturn, 1) := by decide +kernel
theorem dX11_has_29 : decode cX11_has 29 = .ok (.aload_n 0, 1) := by decide +kernel
theorem dX11_has_30 : decode cX11_has 30 = .ok (.aload_n 0, 1) := by decide +kernel
theorem dX11_has_31 : decode cX11_has 31 = .ok (.getfield 72, 3) := by decide +kernel
theorem dX11_has_34 : decode cX11_has 34 = .ok (.getfield 126, 3) := by decide +kernel
theorem dX11_has_37 : decode cX11_has 37 = .ok (.iload_n 1, 1) := by decide +kernel
theorem dX11_has_38 : decode cX11_has 38 = .ok (.aaload, 1) := by decide +kernel
theorem dX11_has_39 : decode cX11_has 39 = .ok (.iload_n 2, 1) := by decide +kernel
theorem dX11_has_40 : decode cX11_has 40 = .ok (.invokevirtual 145, 3) := by decide +kernel
theorem dX11_has_43 : decode cX11_has 43 = .ok (.ifCond .eq 7, 3) := by decide +kernel
theorem dX11_has_46 : decode cX11_has 46 = .ok (.iconst 1, 1) := by decide +kernel
theorem dX11_has_47 : decode cX11_has 47 = .ok (.goto 4, 3) := by decide +kernel
theorem dX11_has_50 : decode cX11_has 50 = .ok (.iconst 0, 1) := by decide +kernel
theorem dX11_has_51 : decode cX11_has 51 = .ok (.invokevirtual 116, 3) := by decide +kernel
theorem dX11_has_54 : decode cX11_has 54 = .ok (.ireturn, 1) := by decide +kernel
theorem dX11_mixed_0 : decode cX11_mixed 0 = .ok (.aload_n 0, 1) := by decide +kernel
theorem dX11_mixed_1 : decode cX11_mixed 1 = .ok (.iload_n 1, 1) := by decide +kernel
theorem dX11_mixed_2 : decode cX11_mixed 2 = .ok (.iload_n 2, 1) := by decide +kernel
theorem dX11_mixed_3 : decode cX11_mixed 3 = .ok (.iload_n 3, 1) := by decide +kernel
theorem dX11_mixed_4 : decode cX11_mixed 4 = .ok (.invokevirtual 148, 3) := by decide +kernel
theorem dX11_mixed_7 : decode cX11_mixed 7 = .ok (.istore 4, 2) := by decide +kernel
theorem dX11_mixed_9 : decode cX11_mixed 9 = .ok (.iload 4, 2) := by decide +kernel
theorem dX11_mixed_11 : decode cX11_mixed 11 = .ok (.ifCond .eq 12, 3) := by decide +kernel
theorem dX11_mixed_14 : decode cX11_mixed 14 = .ok (.aload_n 0, 1) := by decide +kernel
theorem dX11_mixed_15 : decode cX11_mixed 15 = .ok (.iload 4, 2) := by decide +kernel
theorem dX11_mixed_17 : decode cX11_mixed 17 = .ok (.invokevirtual 84, 3) := by decide +kernel
theorem dX11_mixed_20 : decode cX11_mixed 20 = .ok (.goto 14, 3) := by decide +kernel
theorem dX11_mixed_23 : decode cX11_mixed 23 = .ok (.aload_n 0, 1) := by decide +kernel
theorem dX11_mixed_24 : decode cX11_mixed 24 = .ok (.aload_n 0, 1) := by decide +kernel
theorem dX11_mixed_25 : decode cX11_mixed 25 = .ok (.getfield 65, 3) := by decide +kernel
theorem dX11_mixed_28 : decode cX11_mixed 28 = .ok (.invokevirtual 141, 3) := by decide +kernel
theorem dX11_mixed_31 : decode cX11_mixed 31 = .ok (.invokevirtual 116, 3) := by decide +kernel
theorem dX11_mixed_34 : decode cX11_mixed 34 = .ok (.ireturn, 1) := by decide +kernel
theorem dX11_mixedRanges_0 : decode cX11_mixedRanges 0 = .ok (.aload_n 0, 1) := by decide +kernel
theorem dX11_mixedRanges_1 : decode cX11_mixedRanges 1 = .ok (.iload_n 1, 1) := by decide +kernel
theorem dX11_mixedRanges_2 : decode cX11_mixedRanges 2 = .ok (.iload_n 2, 1) := by decide +kernel
theorem dX11_mixedRanges_3 : decode cX11_mixedRanges 3 = .ok (.iload_n 3, 1) := by decide +kernel
theorem dX11_mixedRanges_4 : decode cX11_mixedRanges 4 = .ok (.invokevirtual 148, 3) := by decide +kernel
theorem dX11_mixedRanges_7 : decode cX11_mixedRanges 7 = .ok (.istore 4, 2) := by decide +kernel
theorem dX11_mixedRanges_9 : decode cX11_mixedRanges 9 = .ok (.iload 4, 2) := by decide +kernel
theorem dX11_mixedRanges_11 : decode cX11_mixedRanges 11 = .ok (.ifCond .eq 12, 3) := by decide +kernel
theorem dX11_mixedRanges_14 : decode cX11_mixedRanges 14 = .ok (.aload_n 0, 1) := by decide +kernel
theorem dX11_mixedRanges_15 : decode cX11_mixedRanges 15 = .ok (.iload 4, 2) := by decide +kernel
theorem dX11_mixedRanges_17 : decode cX11_mixedRanges 17 = .ok (.invokevirtual 84, 3) := by decide +kernel
theorem dX11_mixedRanges_20 : decode cX11_mixedRanges 20 = .ok (.goto 14, 3) := by decide +kernel
theorem dX11_mixedRanges_23 : decode cX11_mixedRanges 23 = .ok (.aload_n 0, 1) := by decide +kernel
theorem dX11_mixedRanges_24 : decode cX11_mixedRanges 24 = .ok (.aload_n 0, 1) := by decide +kernel
theorem dX11_mixedRanges_25 : decode cX11_mixedRanges 25 = .ok (.getfield 65, 3) := by decide +kernel
theorem dX11_mixedRanges_28 : decode cX11_mixedRanges 28 = .ok (.invokevirtual 129, 3) := by decide +kernel
theorem dX11_mixedRanges_31 : decode cX11_mixedRanges 31 = .ok (.invokevirtual 116, 3) := by decide +kernel
theorem dX11_mixedRanges_34 : decode cX11_mixedRanges 34 = .ok (.ireturn, 1) := by decide +kernel
theorem dX11_mixedRange_0 : decode cX11_mixedRange 0 = .ok (.aload_n 0, 1) := by decide +kernel
theorem dX11_mixedRange_1 : decode cX11_mixedRange 1 = .ok (.iload_n 1, 1) := by decide +kernel
theorem dX11_mixedRange_2 : decode cX11_mixedRange 2 = .ok (.iload_n 2, 1) := by decide +kernel
theorem dX11_mixedRange_3 : decode cX11_mixedRange 3 = .ok (.iload_n 3, 1) := by decide +kernel
theorem dX11_mixedRange_4 : decode cX11_mixedRange 4 = .ok (.invokevirtual 148, 3) := by decide +kernel
theorem dX11_mixedRange_7 : decode cX11_mixedRange 7 = .ok (.istore 6, 2) := by decide +kernel
theorem dX11_mixedRange_9 : decode cX11_mixedRange 9 = .ok (.iload 6, 2) := by decide +kernel
theorem dX11_mixedRange_11 : decode cX11_mixedRange 11 = .ok (.ifCond .eq 10, 3) := by decide +kernel
theorem dX11_mixedRange_14 : decode cX11_mixedRange 14 = .ok (.aload_n 0, 1) := by decide +kernel
theorem dX11_mixedRange_15 : decode cX11_mixedRange 15 = .ok (.iload 6, 2) := by decide +kernel
theorem dX11_mixedRange_17 : decode cX11_mixedRange 17 = .ok (.invokevirtual 84, 3) := by decide +kernel
theorem dX11_mixedRange_20 : decode cX11_mixedRange 20 = .ok (.ireturn, 1) := by decide +kernel
theorem dX11_mixedRange_21 : decode cX11_mixedRange 21 = .ok (.iload 4, 2) := by decide +kernel
theorem dX11_mixedRange_23 : decode cX11_mixedRange 23 = .ok (.aload_n 0, 1) := by decide +kernel
theorem dX11_mixedRange_24 : decode cX11_mixedRange 24 = .ok (.getfield 65, 3) := by decide +kernel
theorem dX11_mixedRange_27 : decode cX11_mixedRange 27 = .ok (.invokevirtual 129, 3) := by decide +kernel
theorem dX11_mixedRange_30 : decode cX11_mixedRange 30 = .ok (.invokestatic 133, 3) := by decide +kernel
theorem dX11_mixedRange_33 : decode cX11_mixedRange 33 = .ok (.ifCond .ne 9, 3) := by decide +kernel
theorem dX11_mixedRange_36 : decode cX11_mixedRange 36 = .ok (.aload_n 0, 1) := by decide +kernel
theorem dX11_mixedRange_37 : decode cX11_mixedRange 37 = .ok (.iconst 1, 1) := by decide +kernel
theorem dX11_mixedRange_38 : decode cX11_mixedRange 38 = .ok (.invokevirtual 84, 3) := by decide +kernel
theorem dX11_mixedRange_41 : decode cX11_mixedRange 41 = .ok (.ireturn, 1) := by decide +kernel
theorem dX11_mixedRange_42 : decode cX11_mixedRange 42 = .ok (.aload_n 0, 1) := by decide +kernel
theorem dX11_mixedRange_43 : decode cX11_mixedRange 43 = .ok (.aload_n 0, 1) := by decide +kernel
theorem dX11_mixedRange_44 : decode cX11_mixedRange 44 = .ok (.getfield 65, 3) := by decide +kernel
theorem dX11_mixedRange_47 : decode cX11_mixedRange 47 = .ok (.iload 4, 2) := by decide +kernel
theorem dX11_mixedRange_49 : decode cX11_mixedRange 49 = .ok (.iload 5, 2) := by decide +kernel
theorem dX11_mixedRange_51 : decode cX11_mixedRange 51 = .ok (.invokevirtual 137, 3) := by decide +kernel
theorem dX11_mixedRange_54 : decode cX11_mixedRange 54 = .ok (.invokevirtual 116, 3) := by decide +kernel
theorem dX11_mixedRange_57 : decode cX11_mixedRange 57 = .ok (.ireturn, 1) := by decide +kernel
theorem dX11_size_0 : decode cX11_size 0 = .ok (.aload_n 0, 1) := by decide +kernel
theorem dX11_size_1 : decode cX11_size 1 = .ok (.iload_n 1, 1) := by decide +kernel
theorem dX11_size_2 : decode cX11_size 2 = .ok (.invokevirtual 152, 3) := by decide +kernel
theorem dX11_size_5 : decode cX11_size 5 = .ok (.ifCond .eq 12, 3) := by decide +kernel
theorem dX11_size_8 : decode cX11_size 8 = .ok (.iload_n 2, 1) := by decide +kernel
theorem dX11_size_9 : decode cX11_size 9 = .ok (.bipush 7, 2) := by decide +kernel
theorem dX11_size_11 : decode cX11_size 11 = .ok (.invokestatic 133, 3) := by decide +kernel
theorem dX11_size_14 : decode cX11_size 14 = .ok (.ifCond .ne 9, 3) := by decide +kernel
theorem dX11_size_17 : decode cX11_size 17 = .ok (.aload_n 0, 1) := by decide +kernel
theorem dX11_size_18 : decode cX11_size 18 = .ok (.iconst 1, 1) := by decide +kernel
theorem dX11_size_19 : decode cX11_size 19 = .ok (.invokevirtual 84, 3) := by decide +kernel
theorem dX11_size_22 : decode cX11_size 22 = .ok (.ireturn, 1) := by decide +kernel
theorem dX11_size_23 : decode cX11_size 23 = .ok (.aload_n 0, 1) := by decide +kernel
theorem dX11_size_24 : decode cX11_size 24 = .ok (.aload_n 0, 1) := by decide +kernel
theorem dX11_size_25 : decode cX11_size 25 = .ok (.getfield 19, 3) := by decide +kernel
theorem dX11_size_28 : decode cX11_size 28 = .ok (.iload_n 1, 1) := by decide +kernel
theorem dX11_size_29 : decode cX11_size 29 = .ok (.aaload, 1) := by decide +kernel
theorem dX11_size_30 : decode cX11_size 30 = .ok (.iload_n 2, 1) := by decide +kernel
theorem dX11_size_31 : decode cX11_size 31 = .ok (.invokevirtual 155, 3) := by decide +kernel
theorem dX11_size_34 : decode cX11_size 34 = .ok (.invokevirtual 116, 3) := by decide +kernel
theorem dX11_size_37 : decode cX11_size 37 = .ok (.ireturn, 1) := by decide +kernel
theorem dX11_edge_0 : decode cX11_edge 0 = .ok (.aload_n 0, 1) := by decide +kernel
theorem dX11_edge_1 : decode cX11_edge 1 = .ok (.iload_n 1, 1) := by decide +kernel
theorem dX11_edge_2 : decode cX11_edge 2 = .ok (.invokevirtual 152, 3) := by decide +kernel
theorem dX11_edge_5 : decode cX11_edge 5 = .ok (.ifCond .eq 27, 3) := by decide +kernel
theorem dX11_edge_8 : decode cX11_edge 8 = .ok (.iload_n 2, 1) := by decide +kernel
theorem dX11_edge_9 : decode cX11_edge 9 = .ok (.aload_n 0, 1) := by decide +kernel
theorem dX11_edge_10 : decode cX11_edge 10 = .ok (.getfield 19, 3) := by decide +kernel
theorem dX11_edge_13 : decode cX11_edge 13 = .ok (.iload_n 1, 1) := by decide +kernel
theorem dX11_edge_14 : decode cX11_edge 14 = .ok (.aaload, 1) := by decide +kernel
theorem dX11_edge_15 : decode cX11_edge 15 = .ok (.getfield 158, 3) := by decide +kernel
theorem dX11_edge_18 : decode cX11_edge 18 = .ok (.invokestatic 133, 3) := by decide +kernel
theorem dX11_edge_21 : decode cX11_edge 21 = .ok (.ifCond .eq 11, 3) := by decide +kernel
theorem dX11_edge_24 : decode cX11_edge 24 = .ok (.iload_n 3, 1) := by decide +kernel
theorem dX11_edge_25 : decode cX11_edge 25 = .ok (.iconst 4, 1) := by decide +kernel
theorem dX11_edge_26 : decode cX11_edge 26 = .ok (.invokestatic 133, 3) := by decide +kernel
theorem dX11_edge_29 : decode cX11_edge 29 = .ok (.ifCond .ne 9, 3) := by decide +kernel
theorem dX11_edge_32 : decode cX11_edge 32 = .ok (.aload_n 0, 1) := by decide +kernel
theorem dX11_edge_33 : decode cX11_edge 33 = .ok (.iconst 1, 1) := by decide +kernel
theorem dX11_edge_34 : decode cX11_edge 34 = .ok (.invokevirtual 84, 3) := by decide +kernel
theorem dX11_edge_37 : decode cX11_edge 37 = .ok (.ireturn, 1) := by decide +kernel
theorem dX11_edge_38 : decode cX11_edge 38 = .ok (.aload_n 0, 1) := by decide +kernel
theorem dX11_edge_39 : decode cX11_edge 39 = .ok (.getfield 19, 3) := by decide +kernel
theorem dX11_edge_42 : decode cX11_edge 42 = .ok (.iload_n 1, 1) := by decide +kernel
theorem dX11_edge_43 : decode cX11_edge 43 = .ok (.aaload, 1) := by decide +kernel
theorem dX11_edge_44 : decode cX11_edge 44 = .ok (.astore 4, 2) := by decide +kernel
theorem dX11_edge_46 : decode cX11_edge 46 = .ok (.iload_n 3, 1) := by decide +kernel
theorem dX11_edge_47 : decode cX11_edge 47 = .ok (.tableswitch 60 0 2 #[25, 37, 49], 25) := by decide +kernel
theorem dX11_edge_72 : decode cX11_edge 72 = .ok (.aload_n 0, 1) := by decide +kernel
theorem dX11_edge_73 : decode cX11_edge 73 = .ok (.aload 4, 2) := by decide +kernel
theorem dX11_edge_75 : decode cX11_edge 75 = .ok (.getfield 161, 3) := by decide +kernel
theorem dX11_edge_78 : decode cX11_edge 78 = .ok (.iload_n 2, 1) := by decide +kernel
theorem dX11_edge_79 : decode cX11_edge 79 = .ok (.iaload, 1) := by decide +kernel
theorem dX11_edge_80 : decode cX11_edge 80 = .ok (.invokevirtual 116, 3) := by decide +kernel
theorem dX11_edge_83 : decode cX11_edge 83 = .ok (.ireturn, 1) := by decide +kernel
theorem dX11_edge_84 : decode cX11_edge 84 = .ok (.aload_n 0, 1) := by decide +kernel
theorem dX11_edge_85 : decode cX11_edge 85 = .ok (.aload 4, 2) := by decide +kernel
theorem dX11_edge_87 : decode cX11_edge 87 = .ok (.getfield 164, 3) := by decide +kernel
theorem dX11_edge_90 : decode cX11_edge 90 = .ok (.iload_n 2, 1) := by decide +kernel
theorem dX11_edge_91 : decode cX11_edge 91 = .ok (.iaload, 1) := by decide +kernel
theorem dX11_edge_92 : decode cX11_edge 92 = .ok (.invokevirtual 116, 3) := by decide +kernel
theorem dX11_edge_95 : decode cX11_edge 95 = .ok (.ireturn, 1) := by decide +kernel
theorem dX11_edge_96 : decode cX11_edge 96 = .ok (.aload_n 0, 1) := by decide +kernel
theorem dX11_edge_97 : decode cX11_edge 97 = .ok (.aload 4, 2) := by decide +kernel
theorem dX11_edge_99 : decode cX11_edge 99 = .ok (.iload_n 2, 1) := by decide +kernel
theorem dX11_edge_100 : decode cX11_edge 100 = .ok (.invokevirtual 167, 3) := by decide +kernel
theorem dX11_edge_103 : decode cX11_edge 103 = .ok (.invokevirtual 116, 3) := by decide +kernel
theorem dX11_edge_106 : decode cX11_edge 106 = .ok (.ireturn, 1) := by decide +kernel
theorem dX11_edge_107 : decode cX11_edge 107 = .ok (.aload_n 0, 1) := by decide +kernel
theorem dX11_edge_108 : decode cX11_edge 108 = .ok (.aload 4, 2) := by decide +kernel
theorem dX11_edge_110 : decode cX11_edge 110 = .ok (.iload_n 2, 1) := by decide +kernel
theorem dX11_edge_111 : decode cX11_edge 111 = .ok (.invokevirtual 170, 3) := by decide +kernel
theorem dX11_edge_114 : decode cX11_edge 114 = .ok (.invokevirtual 116, 3) := by decide +kernel
theorem dX11_edge_117 : decode cX11_edge 117 = .ok (.ireturn, 1) := by decide +kernel
theorem dX11_edgeRange_0 : decode cX11_edgeRange 0 = .ok (.aload_n 0, 1) := by decide +kernel
theorem dX11_edgeRange_1 : decode cX11_edgeRange 1 = .ok (.iload_n 1, 1) := by decide +kernel
theorem dX11_edgeRange_2 : decode cX11_edgeRange 2 = .ok (.invokevirtual 152, 3) := by decide +kernel
theorem dX11_edgeRange_5 : decode cX11_edgeRange 5 = .ok (.ifCond .eq 36, 3) := by decide +kernel
theorem dX11_edgeRange_8 : decode cX11_edgeRange 8 = .ok (.iload_n 2, 1) := by decide +kernel
theorem dX11_edgeRange_9 : decode cX11_edgeRange 9 = .ok (.aload_n 0, 1) := by decide +kernel
theorem dX11_edgeRange_10 : decode cX11_edgeRange 10 = .ok (.getfield 19, 3) := by decide +kernel
theorem dX11_edgeRange_13 : decode cX11_edgeRange 13 = .ok (.iload_n 1, 1) := by decide +kernel
theorem dX11_edgeRange_14 : decode cX11_edgeRange 14 = .ok (.aaload, 1) := by decide +kernel
theorem dX11_edgeRange_15 : decode cX11_edgeRange 15 = .ok (.getfield 158, 3) := by decide +kernel
theorem dX11_edgeRange_18 : decode cX11_edgeRange 18 = .ok (.invokestatic 133, 3) := by decide +kernel
theorem dX11_edgeRange_21 : decode cX11_edgeRange 21 = .ok (.ifCond .eq 20, 3) := by decide +kernel
theorem dX11_edgeRange_24 : decode cX11_edgeRange 24 = .ok (.iload_n 3, 1) := by decide +kernel
theorem dX11_edgeRange_25 : decode cX11_edgeRange 25 = .ok (.aload_n 0, 1) := by decide +kernel
theorem dX11_edgeRange_26 : decode cX11_edgeRange 26 = .ok (.getfield 19, 3) := by decide +kernel
theorem dX11_edgeRange_29 : decode cX11_edgeRange 29 = .ok (.iload_n 1, 1) := by decide +kernel
theorem dX11_edgeRange_30 : decode cX11_edgeRange 30 = .ok (.aaload, 1) := by decide +kernel
theorem dX11_edgeRange_31 : decode cX11_edgeRange 31 = .ok (.iload_n 2, 1) := by decide +kernel
theorem dX11_edgeRange_32 : decode cX11_edgeRange 32 = .ok (.invokevirtual 167, 3) := by decide +kernel
theorem dX11_edgeRange_35 : decode cX11_edgeRange 35 = .ok (.invokestatic 133, 3) := by decide +kernel
theorem dX11_edgeRange_38 : decode cX11_edgeRange 38 = .ok (.ifCond .ne 9, 3) := by decide +kernel
theorem dX11_edgeRange_41 : decode cX11_edgeRange 41 = .ok (.aload_n 0, 1) := by decide +kernel
theorem dX11_edgeRange_42 : decode cX11_edgeRange 42 = .ok (.iconst 1, 1) := by decide +kernel
theorem dX11_edgeRange_43 : decode cX11_edgeRange 43 = .ok (.invokevirtual 84, 3) := by decide +kernel
theorem dX11_edgeRange_46 : decode cX11_edgeRange 46 = .ok (.ireturn, 1) := by decide +kernel
theorem dX11_edgeRange_47 : decode cX11_edgeRange 47 = .ok (.aload_n 0, 1) := by decide +kernel
theorem dX11_edgeRange_48 : decode cX11_edgeRange 48 = .ok (.aload_n 0, 1) := by decide +kernel
theorem dX11_edgeRange_49 : decode cX11_edgeRange 49 = .ok (.getfield 19, 3) := by decide +kernel
theorem dX11_edgeRange_52 : decode cX11_edgeRange 52 = .ok (.iload_n 1, 1) := by decide +kernel
theorem dX11_edgeRange_53 : decode cX11_edgeRange 53 = .ok (.aaload, 1) := by decide +kernel
theorem dX11_edgeRange_54 : decode cX11_edgeRange 54 = .ok (.iload_n 2, 1) := by decide +kernel
theorem dX11_edgeRange_55 : decode cX11_edgeRange 55 = .ok (.iload_n 3, 1) := by decide +kernel
theorem dX11_edgeRange_56 : decode cX11_edgeRange 56 = .ok (.iload 4, 2) := by decide +kernel
theorem dX11_edgeRange_58 : decode cX11_edgeRange 58 = .ok (.invokevirtual 173, 3) := by decide +kernel
theorem dX11_edgeRange_61 : decode cX11_edgeRange 61 = .ok (.invokevirtual 116, 3) := by decide +kernel
theorem dX11_edgeRange_64 : decode cX11_edgeRange 64 = .ok (.ireturn, 1) := by decide +kernel
theorem dX11_free_0 : decode cX11_free 0 = .ok (.aload_n 0, 1) := by decide +kernel
theorem dX11_free_1 : decode cX11_free 1 = .ok (.iload_n 1, 1) := by decide +kernel
theorem dX11_free_2 : decode cX11_free 2 = .ok (.invokevirtual 152, 3) := by decide +kernel
theorem dX11_free_5 : decode cX11_free 5 = .ok (.ifCond .eq 19, 3) := by decide +kernel
theorem dX11_free_8 : decode cX11_free 8 = .ok (.iload_n 2, 1) := by decide +kernel
theorem dX11_free_9 : decode cX11_free 9 = .ok (.aload_n 0, 1) := by decide +kernel
theorem dX11_free_10 : decode cX11_free 10 = .ok (.getfield 19, 3) := by decide +kernel
theorem dX11_free_13 : decode cX11_free 13 = .ok (.iload_n 1, 1) := by decide +kernel
theorem dX11_free_14 : decode cX11_free 14 = .ok (.aaload, 1) := by decide +kernel
theorem dX11_free_15 : decode cX11_free 15 = .ok (.getfield 177, 3) := by decide +kernel
theorem dX11_free_18 : decode cX11_free 18 = .ok (.invokestatic 133, 3) := by decide +kernel
theorem dX11_free_21 : decode cX11_free 21 = .ok (.ifCond .ne 9, 3) := by decide +kernel
theorem dX11_free_24 : decode cX11_free 24 = .ok (.aload_n 0, 1) := by decide +kernel
theorem dX11_free_25 : decode cX11_free 25 = .ok (.iconst 1, 1) := by decide +kernel
theorem dX11_free_26 : decode cX11_free 26 = .ok (.invokevirtual 84, 3) := by decide +kernel
theorem dX11_free_29 : decode cX11_free 29 = .ok (.ireturn, 1) := by decide +kernel
theorem dX11_free_30 : decode cX11_free 30 = .ok (.aload_n 0, 1) := by decide +kernel
theorem dX11_free_31 : decode cX11_free 31 = .ok (.iload_n 3, 1) := by decide +kernel
theorem dX11_free_32 : decode cX11_free 32 = .ok (.ifCond .eq 17, 3) := by decide +kernel
theorem dX11_free_35 : decode cX11_free 35 = .ok (.aload_n 0, 1) := by decide +kernel
theorem dX11_free_36 : decode cX11_free 36 = .ok (.getfield 19, 3) := by decide +kernel
theorem dX11_free_39 : decode cX11_free 39 = .ok (.iload_n 1, 1) := by decide +kernel
theorem dX11_free_40 : decode cX11_free 40 = .ok (.aaload, 1) := by decide +kernel
theorem dX11_free_41 : decode cX11_free 41 = .ok (.getfield 180, 3) := by decide +kernel
theorem dX11_free_44 : decode cX11_free 44 = .ok (.iload_n 2, 1) := by decide +kernel
theorem dX11_free_45 : decode cX11_free 45 = .ok (.iaload, 1) := by decide +kernel
theorem dX11_free_46 : decode cX11_free 46 = .ok (.goto 14, 3) := by decide +kernel
theorem dX11_free_49 : decode cX11_free 49 = .ok (.aload_n 0, 1) := by decide +kernel
theorem dX11_free_50 : decode cX11_free 50 = .ok (.getfield 19, 3) := by decide +kernel
theorem dX11_free_53 : decode cX11_free 53 = .ok (.iload_n 1, 1) := by decide +kernel
theorem dX11_free_54 : decode cX11_free 54 = .ok (.aaload, 1) := by decide +kernel
theorem dX11_free_55 : decode cX11_free 55 = .ok (.getfield 183, 3) := by decide +kernel
theorem dX11_free_58 : decode cX11_free 58 = .ok (.iload_n 2, 1) := by decide +kernel
theorem dX11_free_59 : decode cX11_free 59 = .ok (.iaload, 1) := by decide +kernel
theorem dX11_free_60 : decode cX11_free 60 = .ok (.invokevirtual 116, 3) := by decide +kernel
theorem dX11_free_63 : decode cX11_free 63 = .ok (.ireturn, 1) := by decide +kernel
theorem dX11_ends_0 : decode cX11_ends 0 = .ok (.aload_n 0, 1) := by decide +kernel
theorem dX11_ends_1 : decode cX11_ends 1 = .ok (.iload_n 1, 1) := by decide +kernel
theorem dX11_ends_2 : decode cX11_ends 2 = .ok (.invokevirtual 152, 3) := by decide +kernel
theorem dX11_ends_5 : decode cX11_ends 5 = .ok (.ifCond .ne 10, 3) := by decide +kernel
theorem dX11_ends_8 : decode cX11_ends 8 = .ok (.aload_n 0, 1) := by decide +kernel
theorem dX11_ends_9 : decode cX11_ends 9 = .ok (.iconst 1, 1) := by decide +kernel
theorem dX11_ends_10 : decode cX11_ends 10 = .ok (.invokevirtual 84, 3) := by decide +kernel
theorem dX11_ends_13 : decode cX11_ends 13 = .ok (.i2l, 1) := by decide +kernel
theorem dX11_ends_14 : decode cX11_ends 14 = .ok (.lreturn, 1) := by decide +kernel
theorem dX11_ends_15 : decode cX11_ends 15 = .ok (.aload_n 0, 1) := by decide +kernel
theorem dX11_ends_16 : decode cX11_ends 16 = .ok (.aload_n 0, 1) := by decide +kernel
theorem dX11_ends_17 : decode cX11_ends 17 = .ok (.getfield 19, 3) := by decide +kernel
theorem dX11_ends_20 : decode cX11_ends 20 = .ok (.iload_n 1, 1) := by decide +kernel
theorem dX11_ends_21 : decode cX11_ends 21 = .ok (.aaload, 1) := by decide +kernel
theorem dX11_ends_22 : decode cX11_ends 22 = .ok (.getfield 186, 3) := by decide +kernel
theorem dX11_ends_25 : decode cX11_ends 25 = .ok (.invokevirtual 190, 3) := by decide +kernel
theorem dX11_ends_28 : decode cX11_ends 28 = .ok (.lreturn, 1) := by decide +kernel
theorem dX11_block_0 : decode cX11_block 0 = .ok (.aload_n 0, 1) := by decide +kernel
theorem dX11_block_1 : decode cX11_block 1 = .ok (.iload_n 1, 1) := by decide +kernel
theorem dX11_block_2 : decode cX11_block 2 = .ok (.invokevirtual 152, 3) := by decide +kernel
theorem dX11_block_5 : decode cX11_block 5 = .ok (.ifCond .eq 19, 3) := by decide +kernel
theorem dX11_block_8 : decode cX11_block 8 = .ok (.iload_n 2, 1) := by decide +kernel
theorem dX11_block_9 : decode cX11_block 9 = .ok (.aload_n 0, 1) := by decide +kernel
theorem dX11_block_10 : decode cX11_block 10 = .ok (.getfield 19, 3) := by decide +kernel
theorem dX11_block_13 : decode cX11_block 13 = .ok (.iload_n 1, 1) := by decide +kernel
theorem dX11_block_14 : decode cX11_block 14 = .ok (.aaload, 1) := by decide +kernel
theorem dX11_block_15 : decode cX11_block 15 = .ok (.getfield 194, 3) := by decide +kernel
theorem dX11_block_18 : decode cX11_block 18 = .ok (.invokestatic 133, 3) := by decide +kernel
theorem dX11_block_21 : decode cX11_block 21 = .ok (.ifCond .ne 9, 3) := by decide +kernel
theorem dX11_block_24 : decode cX11_block 24 = .ok (.aload_n 0, 1) := by decide +kernel
theorem dX11_block_25 : decode cX11_block 25 = .ok (.iconst 1, 1) := by decide +kernel
theorem dX11_block_26 : decode cX11_block 26 = .ok (.invokevirtual 84, 3) := by decide +kernel
theorem dX11_block_29 : decode cX11_block 29 = .ok (.ireturn, 1) := by decide +kernel
theorem dX11_block_30 : decode cX11_block 30 = .ok (.aload_n 0, 1) := by decide +kernel
theorem dX11_block_31 : decode cX11_block 31 = .ok (.aload_n 0, 1) := by decide +kernel
theorem dX11_block_32 : decode cX11_block 32 = .ok (.getfield 19, 3) := by decide +kernel
theorem dX11_block_35 : decode cX11_block 35 = .ok (.iload_n 1, 1) := by decide +kernel
theorem dX11_block_36 : decode cX11_block 36 = .ok (.aaload, 1) := by decide +kernel
theorem dX11_block_37 : decode cX11_block 37 = .ok (.getfield 197, 3) := by decide +kernel
theorem dX11_block_40 : decode cX11_block 40 = .ok (.iload_n 2, 1) := by decide +kernel
theorem dX11_block_41 : decode cX11_block 41 = .ok (.iaload, 1) := by decide +kernel
theorem dX11_block_42 : decode cX11_block 42 = .ok (.invokevirtual 116, 3) := by decide +kernel
theorem dX11_block_45 : decode cX11_block 45 = .ok (.ireturn, 1) := by decide +kernel
theorem dX11_sheaf_0 : decode cX11_sheaf 0 = .ok (.aload_n 0, 1) := by decide +kernel
theorem dX11_sheaf_1 : decode cX11_sheaf 1 = .ok (.iload_n 1, 1) := by decide +kernel
theorem dX11_sheaf_2 : decode cX11_sheaf 2 = .ok (.invokevirtual 152, 3) := by decide +kernel
theorem dX11_sheaf_5 : decode cX11_sheaf 5 = .ok (.ifCond .eq 22, 3) := by decide +kernel
theorem dX11_sheaf_8 : decode cX11_sheaf 8 = .ok (.iload_n 2, 1) := by decide +kernel
theorem dX11_sheaf_9 : decode cX11_sheaf 9 = .ok (.aload_n 0, 1) := by decide +kernel
theorem dX11_sheaf_10 : decode cX11_sheaf 10 = .ok (.getfield 19, 3) := by decide +kernel
theorem dX11_sheaf_13 : decode cX11_sheaf 13 = .ok (.iload_n 1, 1) := by decide +kernel
theorem dX11_sheaf_14 : decode cX11_sheaf 14 = .ok (.aaload, 1) := by decide +kernel
theorem dX11_sheaf_15 : decode cX11_sheaf 15 = .ok (.getfield 200, 3) := by decide +kernel
theorem dX11_sheaf_18 : decode cX11_sheaf 18 = .ok (.getfield 204, 3) := by decide +kernel
theorem dX11_sheaf_21 : decode cX11_sheaf 21 = .ok (.invokestatic 133, 3) := by decide +kernel
theorem dX11_sheaf_24 : decode cX11_sheaf 24 = .ok (.ifCond .ne 10, 3) := by decide +kernel
theorem dX11_sheaf_27 : decode cX11_sheaf 27 = .ok (.aload_n 0, 1) := by decide +kernel
theorem dX11_sheaf_28 : decode cX11_sheaf 28 = .ok (.iconst 1, 1) := by decide +kernel
theorem dX11_sheaf_29 : decode cX11_sheaf 29 = .ok (.invokevirtual 84, 3) := by decide +kernel
theorem dX11_sheaf_32 : decode cX11_sheaf 32 = .ok (.i2l, 1) := by decide +kernel
theorem dX11_sheaf_33 : decode cX11_sheaf 33 = .ok (.lreturn, 1) := by decide +kernel
theorem dX11_sheaf_34 : decode cX11_sheaf 34 = .ok (.aload_n 0, 1) := by decide +kernel
theorem dX11_sheaf_35 : decode cX11_sheaf 35 = .ok (.aload_n 0, 1) := by decide +kernel
theorem dX11_sheaf_36 : decode cX11_sheaf 36 = .ok (.getfield 19, 3) := by decide +kernel
theorem dX11_sheaf_39 : decode cX11_sheaf 39 = .ok (.iload_n 1, 1) := by decide +kernel
theorem dX11_sheaf_40 : decode cX11_sheaf 40 = .ok (.aaload, 1) := by decide +kernel
theorem dX11_sheaf_41 : decode cX11_sheaf 41 = .ok (.getfield 200, 3) := by decide +kernel
theorem dX11_sheaf_44 : decode cX11_sheaf 44 = .ok (.getfield 209, 3) := by decide +kernel
theorem dX11_sheaf_47 : decode cX11_sheaf 47 = .ok (.iload_n 2, 1) := by decide +kernel
theorem dX11_sheaf_48 : decode cX11_sheaf 48 = .ok (.laload, 1) := by decide +kernel
theorem dX11_sheaf_49 : decode cX11_sheaf 49 = .ok (.invokevirtual 190, 3) := by decide +kernel
theorem dX11_sheaf_52 : decode cX11_sheaf 52 = .ok (.lreturn, 1) := by decide +kernel
theorem dX11_useless_0 : decode cX11_useless 0 = .ok (.aload_n 0, 1) := by decide +kernel
theorem dX11_useless_1 : decode cX11_useless 1 = .ok (.iload_n 1, 1) := by decide +kernel
theorem dX11_useless_2 : decode cX11_useless 2 = .ok (.invokevirtual 152, 3) := by decide +kernel
theorem dX11_useless_5 : decode cX11_useless 5 = .ok (.ifCond .ne 10, 3) := by decide +kernel
theorem dX11_useless_8 : decode cX11_useless 8 = .ok (.aload_n 0, 1) := by decide +kernel
theorem dX11_useless_9 : decode cX11_useless 9 = .ok (.iconst 1, 1) := by decide +kernel
theorem dX11_useless_10 : decode cX11_useless 10 = .ok (.invokevirtual 84, 3) := by decide +kernel
theorem dX11_useless_13 : decode cX11_useless 13 = .ok (.i2l, 1) := by decide +kernel
theorem dX11_useless_14 : decode cX11_useless 14 = .ok (.lreturn, 1) := by decide +kernel
theorem dX11_useless_15 : decode cX11_useless 15 = .ok (.aload_n 0, 1) := by decide +kernel
theorem dX11_useless_16 : decode cX11_useless 16 = .ok (.aload_n 0, 1) := by decide +kernel
theorem dX11_useless_17 : decode cX11_useless 17 = .ok (.getfield 19, 3) := by decide +kernel
theorem dX11_useless_20 : decode cX11_useless 20 = .ok (.iload_n 1, 1) := by decide +kernel
theorem dX11_useless_21 : decode cX11_useless 21 = .ok (.aaload, 1) := by decide +kernel
theorem dX11_useless_22 : decode cX11_useless 22 = .ok (.invokevirtual 213, 3) := by decide +kernel
theorem dX11_useless_25 : decode cX11_useless 25 = .ok (.invokevirtual 190, 3) := by decide +kernel
theorem dX11_useless_28 : decode cX11_useless 28 = .ok (.lreturn, 1) := by decide +kernel
theorem dX11_terms_0 : decode cX11_terms 0 = .ok (.aload_n 0, 1) := by decide +kernel
theorem dX11_terms_1 : decode cX11_terms 1 = .ok (.iload_n 1, 1) := by decide +kernel
theorem dX11_terms_2 : decode cX11_terms 2 = .ok (.invokevirtual 152, 3) := by decide +kernel
theorem dX11_terms_5 : decode cX11_terms 5 = .ok (.ifCond .eq 19, 3) := by decide +kernel
theorem dX11_terms_8 : decode cX11_terms 8 = .ok (.iload_n 2, 1) := by decide +kernel
theorem dX11_terms_9 : decode cX11_terms 9 = .ok (.aload_n 0, 1) := by decide +kernel
theorem dX11_terms_10 : decode cX11_terms 10 = .ok (.getfield 19, 3) := by decide +kernel
theorem dX11_terms_13 : decode cX11_terms 13 = .ok (.iload_n 1, 1) := by decide +kernel
theorem dX11_terms_14 : decode cX11_terms 14 = .ok (.aaload, 1) := by decide +kernel
theorem dX11_terms_15 : decode cX11_terms 15 = .ok (.getfield 217, 3) := by decide +kernel
theorem dX11_terms_18 : decode cX11_terms 18 = .ok (.invokestatic 133, 3) := by decide +kernel
theorem dX11_terms_21 : decode cX11_terms 21 = .ok (.ifCond .ne 9, 3) := by decide +kernel
theorem dX11_terms_24 : decode cX11_terms 24 = .ok (.aload_n 0, 1) := by decide +kernel
theorem dX11_terms_25 : decode cX11_terms 25 = .ok (.iconst 1, 1) := by decide +kernel
theorem dX11_terms_26 : decode cX11_terms 26 = .ok (.invokevirtual 84, 3) := by decide +kernel
theorem dX11_terms_29 : decode cX11_terms 29 = .ok (.ireturn, 1) := by decide +kernel
theorem dX11_terms_30 : decode cX11_terms 30 = .ok (.aload_n 0, 1) := by decide +kernel
theorem dX11_terms_31 : decode cX11_terms 31 = .ok (.getfield 56, 3) := by decide +kernel
theorem dX11_terms_34 : decode cX11_terms 34 = .ok (.aload_n 0, 1) := by decide +kernel
theorem dX11_terms_35 : decode cX11_terms 35 = .ok (.getfield 19, 3) := by decide +kernel
theorem dX11_terms_38 : decode cX11_terms 38 = .ok (.iload_n 1, 1) := by decide +kernel
theorem dX11_terms_39 : decode cX11_terms 39 = .ok (.aaload, 1) := by decide +kernel
theorem dX11_terms_40 : decode cX11_terms 40 = .ok (.iload_n 2, 1) := by decide +kernel
theorem dX11_terms_41 : decode cX11_terms 41 = .ok (.invokevirtual 220, 3) := by decide +kernel
theorem dX11_terms_44 : decode cX11_terms 44 = .ok (.aload_n 0, 1) := by decide +kernel
theorem dX11_terms_45 : decode cX11_terms 45 = .ok (.aload_n 0, 1) := by decide +kernel
theorem dX11_terms_46 : decode cX11_terms 46 = .ok (.getfield 56, 3) := by decide +kernel
theorem dX11_terms_49 : decode cX11_terms 49 = .ok (.getfield 224, 3) := by decide +kernel
theorem dX11_terms_52 : decode cX11_terms 52 = .ok (.invokevirtual 116, 3) := by decide +kernel
theorem dX11_terms_55 : decode cX11_terms 55 = .ok (.ireturn, 1) := by decide +kernel
theorem dX11_term_0 : decode cX11_term 0 = .ok (.aload_n 0, 1) := by decide +kernel
theorem dX11_term_1 : decode cX11_term 1 = .ok (.iload_n 1, 1) := by decide +kernel
theorem dX11_term_2 : decode cX11_term 2 = .ok (.invokevirtual 152, 3) := by decide +kernel
theorem dX11_term_5 : decode cX11_term 5 = .ok (.ifCond .eq 28, 3) := by decide +kernel
theorem dX11_term_8 : decode cX11_term 8 = .ok (.iload_n 2, 1) := by decide +kernel
theorem dX11_term_9 : decode cX11_term 9 = .ok (.aload_n 0, 1) := by decide +kernel
theorem dX11_term_10 : decode cX11_term 10 = .ok (.getfield 19, 3) := by decide +kernel
theorem dX11_term_13 : decode cX11_term 13 = .ok (.iload_n 1, 1) := by decide +kernel
theorem dX11_term_14 : decode cX11_term 14 = .ok (.aaload, 1) := by decide +kernel
theorem dX11_term_15 : decode cX11_term 15 = .ok (.getfield 217, 3) := by decide +kernel
theorem dX11_term_18 : decode cX11_term 18 = .ok (.invokestatic 133, 3) := by decide +kernel
theorem dX11_term_21 : decode cX11_term 21 = .ok (.ifCond .eq 12, 3) := by decide +kernel
theorem dX11_term_24 : decode cX11_term 24 = .ok (.iload 4, 2) := by decide +kernel
theorem dX11_term_26 : decode cX11_term 26 = .ok (.iconst 3, 1) := by decide +kernel
theorem dX11_term_27 : decode cX11_term 27 = .ok (.invokestatic 133, 3) := by decide +kernel
theorem dX11_term_30 : decode cX11_term 30 = .ok (.ifCond .ne 9, 3) := by decide +kernel
theorem dX11_term_33 : decode cX11_term 33 = .ok (.aload_n 0, 1) := by decide +kernel
theorem dX11_term_34 : decode cX11_term 34 = .ok (.iconst 1, 1) := by decide +kernel
theorem dX11_term_35 : decode cX11_term 35 = .ok (.invokevirtual 84, 3) := by decide +kernel
theorem dX11_term_38 : decode cX11_term 38 = .ok (.ireturn, 1) := by decide +kernel
theorem dX11_term_39 : decode cX11_term 39 = .ok (.aload_n 0, 1) := by decide +kernel
theorem dX11_term_40 : decode cX11_term 40 = .ok (.getfield 56, 3) := by decide +kernel
theorem dX11_term_43 : decode cX11_term 43 = .ok (.aload_n 0, 1) := by decide +kernel
theorem dX11_term_44 : decode cX11_term 44 = .ok (.getfield 19, 3) := by decide +kernel
theorem dX11_term_47 : decode cX11_term 47 = .ok (.iload_n 1, 1) := by decide +kernel
theorem dX11_term_48 : decode cX11_term 48 = .ok (.aaload, 1) := by decide +kernel
theorem dX11_term_49 : decode cX11_term 49 = .ok (.iload_n 2, 1) := by decide +kernel
theorem dX11_term_50 : decode cX11_term 50 = .ok (.invokevirtual 220, 3) := by decide +kernel
theorem dX11_term_53 : decode cX11_term 53 = .ok (.iload_n 3, 1) := by decide +kernel
theorem dX11_term_54 : decode cX11_term 54 = .ok (.aload_n 0, 1) := by decide +kernel
theorem dX11_term_55 : decode cX11_term 55 = .ok (.getfield 56, 3) := by decide +kernel
theorem dX11_term_58 : decode cX11_term 58 = .ok (.getfield 224, 3) := by decide +kernel
theorem dX11_term_61 : decode cX11_term 61 = .ok (.invokestatic 133, 3) := by decide +kernel
theorem dX11_term_64 : decode cX11_term 64 = .ok (.ifCond .ne 9, 3) := by decide +kernel
theorem dX11_term_67 : decode cX11_term 67 = .ok (.aload_n 0, 1) := by decide +kernel
theorem dX11_term_68 : decode cX11_term 68 = .ok (.iconst 1, 1) := by decide +kernel
theorem dX11_term_69 : decode cX11_term 69 = .ok (.invokevirtual 84, 3) := by decide +kernel
theorem dX11_term_72 : decode cX11_term 72 = .ok (.ireturn, 1) := by decide +kernel
theorem dX11_term_73 : decode cX11_term 73 = .ok (.aload_n 0, 1) := by decide +kernel
theorem dX11_term_74 : decode cX11_term 74 = .ok (.getfield 56, 3) := by decide +kernel
theorem dX11_term_77 : decode cX11_term 77 = .ok (.aload_n 0, 1) := by decide +kernel
theorem dX11_term_78 : decode cX11_term 78 = .ok (.getfield 19, 3) := by decide +kernel
theorem dX11_term_81 : decode cX11_term 81 = .ok (.iload_n 1, 1) := by decide +kernel
theorem dX11_term_82 : decode cX11_term 82 = .ok (.aaload, 1) := by decide +kernel
theorem dX11_term_83 : decode cX11_term 83 = .ok (.iload_n 3, 1) := by decide +kernel
theorem dX11_term_84 : decode cX11_term 84 = .ok (.invokevirtual 227, 3) := by decide +kernel
theorem dX11_term_87 : decode cX11_term 87 = .ok (.istore 5, 2) := by decide +kernel
theorem dX11_term_89 : decode cX11_term 89 = .ok (.iload 4, 2) := by decide +kernel
theorem dX11_term_91 : decode cX11_term 91 = .ok (.lookupswitch 61 #[(0, 25), (1, 42)], 25) := by decide +kernel
theorem dX11_term_116 : decode cX11_term 116 = .ok (.aload_n 0, 1) := by decide +kernel
theorem dX11_term_117 : decode cX11_term 117 = .ok (.aload_n 0, 1) := by decide +kernel
theorem dX11_term_118 : decode cX11_term 118 = .ok (.getfield 19, 3) := by decide +kernel
theorem dX11_term_121 : decode cX11_term 121 = .ok (.iload_n 1, 1) := by decide +kernel
theorem dX11_term_122 : decode cX11_term 122 = .ok (.aaload, 1) := by decide +kernel
theorem dX11_term_123 : decode cX11_term 123 = .ok (.getfield 197, 3) := by decide +kernel
theorem dX11_term_126 : decode cX11_term 126 = .ok (.iload 5, 2) := by decide +kernel
theorem dX11_term_128 : decode cX11_term 128 = .ok (.iaload, 1) := by decide +kernel
theorem dX11_term_129 : decode cX11_term 129 = .ok (.invokevirtual 116, 3) := by decide +kernel
theorem dX11_term_132 : decode cX11_term 132 = .ok (.ireturn, 1) := by decide +kernel
theorem dX11_term_133 : decode cX11_term 133 = .ok (.aload_n 0, 1) := by decide +kernel
theorem dX11_term_134 : decode cX11_term 134 = .ok (.aload_n 0, 1) := by decide +kernel
theorem dX11_term_135 : decode cX11_term 135 = .ok (.getfield 56, 3) := by decide +kernel
theorem dX11_term_138 : decode cX11_term 138 = .ok (.aload_n 0, 1) := by decide +kernel
theorem dX11_term_139 : decode cX11_term 139 = .ok (.getfield 19, 3) := by decide +kernel
theorem dX11_term_142 : decode cX11_term 142 = .ok (.iload_n 1, 1) := by decide +kernel
theorem dX11_term_143 : decode cX11_term 143 = .ok (.aaload, 1) := by decide +kernel
theorem dX11_term_144 : decode cX11_term 144 = .ok (.iload_n 3, 1) := by decide +kernel
theorem dX11_term_145 : decode cX11_term 145 = .ok (.invokevirtual 231, 3) := by decide +kernel
theorem dX11_term_148 : decode cX11_term 148 = .ok (.invokevirtual 116, 3) := by decide +kernel
theorem dX11_term_151 : decode cX11_term 151 = .ok (.ireturn, 1) := by decide +kernel
theorem dX11_term_152 : decode cX11_term 152 = .ok (.aload_n 0, 1) := by decide +kernel
theorem dX11_term_153 : decode cX11_term 153 = .ok (.aload_n 0, 1) := by decide +kernel
theorem dX11_term_154 : decode cX11_term 154 = .ok (.getfield 19, 3) := by decide +kernel
theorem dX11_term_157 : decode cX11_term 157 = .ok (.iload_n 1, 1) := by decide +kernel
theorem dX11_term_158 : decode cX11_term 158 = .ok (.aaload, 1) := by decide +kernel
theorem dX11_term_159 : decode cX11_term 159 = .ok (.iload_n 2, 1) := by decide +kernel
theorem dX11_term_160 : decode cX11_term 160 = .ok (.iload 5, 2) := by decide +kernel
theorem dX11_term_162 : decode cX11_term 162 = .ok (.invokevirtual 234, 3) := by decide +kernel
theorem dX11_term_165 : decode cX11_term 165 = .ok (.invokevirtual 116, 3) := by decide +kernel
theorem dX11_term_168 : decode cX11_term 168 = .ok (.ireturn, 1) := by decide +kernel
theorem dX11_go_0 : decode cX11_go 0 = .ok (.aload_n 0, 1) := by decide +kernel
theorem dX11_go_1 : decode cX11_go 1 = .ok (.iload_n 1, 1) := by decide +kernel
theorem dX11_go_2 : decode cX11_go 2 = .ok (.iload_n 2, 1) := by decide +kernel
theorem dX11_go_3 : decode cX11_go 3 = .ok (.invokevirtual 238, 3) := by decide +kernel
theorem dX11_go_6 : decode cX11_go 6 = .ok (.ifCond .ne 9, 3) := by decide +kernel
theorem dX11_go_9 : decode cX11_go 9 = .ok (.aload_n 0, 1) := by decide +kernel
theorem dX11_go_10 : decode cX11_go 10 = .ok (.iconst 1, 1) := by decide +kernel
theorem dX11_go_11 : decode cX11_go 11 = .ok (.invokevirtual 84, 3) := by decide +kernel
theorem dX11_go_14 : decode cX11_go 14 = .ok (.ireturn, 1) := by decide +kernel
theorem dX11_go_15 : decode cX11_go 15 = .ok (.iload_n 3, 1) := by decide +kernel
theorem dX11_go_16 : decode cX11_go 16 = .ok (.ldc 144, 2) := by decide +kernel
theorem dX11_go_18 : decode cX11_go 18 = .ok (.invokestatic 133, 3) := by decide +kernel
theorem dX11_go_21 : decode cX11_go 21 = .ok (.ifCond .ne 9, 3) := by decide +kernel
theorem dX11_go_24 : decode cX11_go 24 = .ok (.aload_n 0, 1) := by decide +kernel
theorem dX11_go_25 : decode cX11_go 25 = .ok (.iconst 2, 1) := by decide +kernel
theorem dX11_go_26 : decode cX11_go 26 = .ok (.invokevirtual 84, 3) := by decide +kernel
theorem dX11_go_29 : decode cX11_go 29 = .ok (.ireturn, 1) := by decide +kernel
theorem dX11_go_30 : decode cX11_go 30 = .ok (.aload_n 0, 1) := by decide +kernel
theorem dX11_go_31 : decode cX11_go 31 = .ok (.aload_n 0, 1) := by decide +kernel
theorem dX11_go_32 : decode cX11_go 32 = .ok (.getfield 19, 3) := by decide +kernel
theorem dX11_go_35 : decode cX11_go 35 = .ok (.iload_n 1, 1) := by decide +kernel
theorem dX11_go_36 : decode cX11_go 36 = .ok (.aaload, 1) := by decide +kernel
theorem dX11_go_37 : decode cX11_go 37 = .ok (.getfield 200, 3) := by decide +kernel
theorem dX11_go_40 : decode cX11_go 40 = .ok (.iload_n 2, 1) := by decide +kernel
theorem dX11_go_41 : decode cX11_go 41 = .ok (.aload_n 0, 1) := by decide +kernel
theorem dX11_go_42 : decode cX11_go 42 = .ok (.getfield 19, 3) := by decide +kernel
theorem dX11_go_45 : decode cX11_go 45 = .ok (.iload_n 1, 1) := by decide +kernel
theorem dX11_go_46 : decode cX11_go 46 = .ok (.aaload, 1) := by decide +kernel
theorem dX11_go_47 : decode cX11_go 47 = .ok (.iload_n 3, 1) := by decide +kernel
theorem dX11_go_48 : decode cX11_go 48 = .ok (.invokevirtual 241, 3) := by decide +kernel
theorem dX11_go_51 : decode cX11_go 51 = .ok (.invokevirtual 244, 3) := by decide +kernel
theorem dX11_go_54 : decode cX11_go 54 = .ok (.invokevirtual 116, 3) := by decide +kernel
theorem dX11_go_57 : decode cX11_go 57 = .ok (.ireturn, 1) := by decide +kernel
theorem dX11_takes_0 : decode cX11_takes 0 = .ok (.aload_n 0, 1) := by decide +kernel
theorem dX11_takes_1 : decode cX11_takes 1 = .ok (.iload_n 1, 1) := by decide +kernel
theorem dX11_takes_2 : decode cX11_takes 2 = .ok (.iload_n 2, 1) := by decide +kernel
theorem dX11_takes_3 : decode cX11_takes 3 = .ok (.invokevirtual 238, 3) := by decide +kernel
theorem dX11_takes_6 : decode cX11_takes 6 = .ok (.ifCond .ne 9, 3) := by decide +kernel
theorem dX11_takes_9 : decode cX11_takes 9 = .ok (.aload_n 0, 1) := by decide +kernel
theorem dX11_takes_10 : decode cX11_takes 10 = .ok (.iconst 1, 1) := by decide +kernel
theorem dX11_takes_11 : decode cX11_takes 11 = .ok (.invokevirtual 84, 3) := by decide +kernel
theorem dX11_takes_14 : decode cX11_takes 14 = .ok (.ireturn, 1) := by decide +kernel
theorem dX11_takes_15 : decode cX11_takes 15 = .ok (.aload_n 0, 1) := by decide +kernel
theorem dX11_takes_16 : decode cX11_takes 16 = .ok (.aload_n 0, 1) := by decide +kernel
theorem dX11_takes_17 : decode cX11_takes 17 = .ok (.getfield 19, 3) := by decide +kernel
theorem dX11_takes_20 : decode cX11_takes 20 = .ok (.iload_n 1, 1) := by decide +kernel
theorem dX11_takes_21 : decode cX11_takes 21 = .ok (.aaload, 1) := by decide +kernel
theorem dX11_takes_22 : decode cX11_takes 22 = .ok (.getfield 200, 3) := by decide +kernel
theorem dX11_takes_25 : decode cX11_takes 25 = .ok (.iload_n 2, 1) := by decide +kernel
theorem dX11_takes_26 : decode cX11_takes 26 = .ok (.invokevirtual 247, 3) := by decide +kernel
theorem dX11_takes_29 : decode cX11_takes 29 = .ok (.ifCond .eq 7, 3) := by decide +kernel
theorem dX11_takes_32 : decode cX11_takes 32 = .ok (.iconst 1, 1) := by decide +kernel
theorem dX11_takes_33 : decode cX11_takes 33 = .ok (.goto 4, 3) := by decide +kernel
theorem dX11_takes_36 : decode cX11_takes 36 = .ok (.iconst 0, 1) := by decide +kernel
theorem dX11_takes_37 : decode cX11_takes 37 = .ok (.invokevirtual 116, 3) := by decide +kernel
theorem dX11_takes_40 : decode cX11_takes 40 = .ok (.ireturn, 1) := by decide +kernel
theorem dX11_dead_0 : decode cX11_dead 0 = .ok (.aload_n 0, 1) := by decide +kernel
theorem dX11_dead_1 : decode cX11_dead 1 = .ok (.iload_n 1, 1) := by decide +kernel
theorem dX11_dead_2 : decode cX11_dead 2 = .ok (.invokevirtual 152, 3) := by decide +kernel
theorem dX11_dead_5 : decode cX11_dead 5 = .ok (.ifCond .ne 9, 3) := by decide +kernel
theorem dX11_dead_8 : decode cX11_dead 8 = .ok (.aload_n 0, 1) := by decide +kernel
theorem dX11_dead_9 : decode cX11_dead 9 = .ok (.iconst 1, 1) := by decide +kernel
theorem dX11_dead_10 : decode cX11_dead 10 = .ok (.invokevirtual 84, 3) := by decide +kernel
theorem dX11_dead_13 : decode cX11_dead 13 = .ok (.ireturn, 1) := by decide +kernel
theorem dX11_dead_14 : decode cX11_dead 14 = .ok (.aload_n 0, 1) := by decide +kernel
theorem dX11_dead_15 : decode cX11_dead 15 = .ok (.aload_n 0, 1) := by decide +kernel
theorem dX11_dead_16 : decode cX11_dead 16 = .ok (.getfield 19, 3) := by decide +kernel
theorem dX11_dead_19 : decode cX11_dead 19 = .ok (.iload_n 1, 1) := by decide +kernel
theorem dX11_dead_20 : decode cX11_dead 20 = .ok (.aaload, 1) := by decide +kernel
theorem dX11_dead_21 : decode cX11_dead 21 = .ok (.getfield 200, 3) := by decide +kernel
theorem dX11_dead_24 : decode cX11_dead 24 = .ok (.invokevirtual 250, 3) := by decide +kernel
theorem dX11_dead_27 : decode cX11_dead 27 = .ok (.invokevirtual 116, 3) := by decide +kernel
theorem dX11_dead_30 : decode cX11_dead 30 = .ok (.ireturn, 1) := by decide +kernel
theorem dX11_first_0 : decode cX11_first 0 = .ok (.aload_n 0, 1) := by decide +kernel
theorem dX11_first_1 : decode cX11_first 1 = .ok (.iload_n 1, 1) := by decide +kernel
theorem dX11_first_2 : decode cX11_first 2 = .ok (.iload_n 2, 1) := by decide +kernel
theorem dX11_first_3 : decode cX11_first 3 = .ok (.invokevirtual 238, 3) := by decide +kernel
theorem dX11_first_6 : decode cX11_first 6 = .ok (.ifCond .ne 9, 3) := by decide +kernel
theorem dX11_first_9 : decode cX11_first 9 = .ok (.aload_n 0, 1) := by decide +kernel
theorem dX11_first_10 : decode cX11_first 10 = .ok (.iconst 1, 1) := by decide +kernel
theorem dX11_first_11 : decode cX11_first 11 = .ok (.invokevirtual 84, 3) := by decide +kernel
theorem dX11_first_14 : decode cX11_first 14 = .ok (.ireturn, 1) := by decide +kernel
theorem dX11_first_15 : decode cX11_first 15 = .ok (.aload_n 0, 1) := by decide +kernel
theorem dX11_first_16 : decode cX11_first 16 = .ok (.getfield 19, 3) := by decide +kernel
theorem dX11_first_19 : decode cX11_first 19 = .ok (.iload_n 1, 1) := by decide +kernel
theorem dX11_first_20 : decode cX11_first 20 = .ok (.aaload, 1) := by decide +kernel
theorem dX11_first_21 : decode cX11_first 21 = .ok (.getfield 200, 3) := by decide +kernel
theorem dX11_first_24 : decode cX11_first 24 = .ok (.astore_n 3, 1) := by decide +kernel
theorem dX11_first_25 : decode cX11_first 25 = .ok (.aload_n 0, 1) := by decide +kernel
theorem dX11_first_26 : decode cX11_first 26 = .ok (.aload_n 3, 1) := by decide +kernel
theorem dX11_first_27 : decode cX11_first 27 = .ok (.getfield 253, 3) := by decide +kernel
theorem dX11_first_30 : decode cX11_first 30 = .ok (.aload_n 3, 1) := by decide +kernel
theorem dX11_first_31 : decode cX11_first 31 = .ok (.getfield 256, 3) := by decide +kernel
theorem dX11_first_34 : decode cX11_first 34 = .ok (.iload_n 2, 1) := by decide +kernel
theorem dX11_first_35 : decode cX11_first 35 = .ok (.iaload, 1) := by decide +kernel
theorem dX11_first_36 : decode cX11_first 36 = .ok (.iaload, 1) := by decide +kernel
theorem dX11_first_37 : decode cX11_first 37 = .ok (.invokevirtual 116, 3) := by decide +kernel
theorem dX11_first_40 : decode cX11_first 40 = .ok (.ireturn, 1) := by decide +kernel
theorem dX11_firstLetter_0 : decode cX11_firstLetter 0 = .ok (.aload_n 0, 1) := by decide +kernel
theorem dX11_firstLetter_1 : decode cX11_firstLetter 1 = .ok (.iload_n 1, 1) := by decide +kernel
theorem dX11_firstLetter_2 : decode cX11_firstLetter 2 = .ok (.iload_n 2, 1) := by decide +kernel
theorem dX11_firstLetter_3 : decode cX11_firstLetter 3 = .ok (.invokevirtual 238, 3) := by decide +kernel
theorem dX11_firstLetter_6 : decode cX11_firstLetter 6 = .ok (.ifCond .ne 9, 3) := by decide +kernel
theorem dX11_firstLetter_9 : decode cX11_firstLetter 9 = .ok (.aload_n 0, 1) := by decide +kernel
theorem dX11_firstLetter_10 : decode cX11_firstLetter 10 = .ok (.iconst 1, 1) := by decide +kernel
theorem dX11_firstLetter_11 : decode cX11_firstLetter 11 = .ok (.invokevirtual 84, 3) := by decide +kernel
theorem dX11_firstLetter_14 : decode cX11_firstLetter 14 = .ok (.ireturn, 1) := by decide +kernel
theorem dX11_firstLetter_15 : decode cX11_firstLetter 15 = .ok (.aload_n 0, 1) := by decide +kernel
theorem dX11_firstLetter_16 : decode cX11_firstLetter 16 = .ok (.getfield 19, 3) := by decide +kernel
theorem dX11_firstLetter_19 : decode cX11_firstLetter 19 = .ok (.iload_n 1, 1) := by decide +kernel
theorem dX11_firstLetter_20 : decode cX11_firstLetter 20 = .ok (.aaload, 1) := by decide +kernel
theorem dX11_firstLetter_21 : decode cX11_firstLetter 21 = .ok (.getfield 200, 3) := by decide +kernel
theorem dX11_firstLetter_24 : decode cX11_firstLetter 24 = .ok (.astore 4, 2) := by decide +kernel
theorem dX11_firstLetter_26 : decode cX11_firstLetter 26 = .ok (.aload 4, 2) := by decide +kernel
theorem dX11_firstLetter_28 : decode cX11_firstLetter 28 = .ok (.getfield 256, 3) := by decide +kernel
theorem dX11_firstLetter_31 : decode cX11_firstLetter 31 = .ok (.iload_n 2, 1) := by decide +kernel
theorem dX11_firstLetter_32 : decode cX11_firstLetter 32 = .ok (.iaload, 1) := by decide +kernel
theorem dX11_firstLetter_33 : decode cX11_firstLetter 33 = .ok (.istore 5, 2) := by decide +kernel
theorem dX11_firstLetter_35 : decode cX11_firstLetter 35 = .ok (.iload_n 3, 1) := by decide +kernel
theorem dX11_firstLetter_36 : decode cX11_firstLetter 36 = .ok (.aload 4, 2) := by decide +kernel
theorem dX11_firstLetter_38 : decode cX11_firstLetter 38 = .ok (.getfield 253, 3) := by decide +kernel
theorem dX11_firstLetter_41 : decode cX11_firstLetter 41 = .ok (.iload 5, 2) := by decide +kernel
theorem dX11_firstLetter_43 : decode cX11_firstLetter 43 = .ok (.iaload, 1) := by decide +kernel
theorem dX11_firstLetter_44 : decode cX11_firstLetter 44 = .ok (.invokestatic 133, 3) := by decide +kernel
theorem dX11_firstLetter_47 : decode cX11_firstLetter 47 = .ok (.ifCond .ne 9, 3) := by decide +kernel
theorem dX11_firstLetter_50 : decode cX11_firstLetter 50 = .ok (.aload_n 0, 1) := by decide +kernel
theorem dX11_firstLetter_51 : decode cX11_firstLetter 51 = .ok (.iconst 1, 1) := by decide +kernel
theorem dX11_firstLetter_52 : decode cX11_firstLetter 52 = .ok (.invokevirtual 84, 3) := by decide +kernel
theorem dX11_firstLetter_55 : decode cX11_firstLetter 55 = .ok (.ireturn, 1) := by decide +kernel
theorem dX11_firstLetter_56 : decode cX11_firstLetter 56 = .ok (.aload_n 0, 1) := by decide +kernel
theorem dX11_firstLetter_57 : decode cX11_firstLetter 57 = .ok (.aload_n 0, 1) := by decide +kernel
theorem dX11_firstLetter_58 : decode cX11_firstLetter 58 = .ok (.getfield 19, 3) := by decide +kernel
theorem dX11_firstLetter_61 : decode cX11_firstLetter 61 = .ok (.iload_n 1, 1) := by decide +kernel
theorem dX11_firstLetter_62 : decode cX11_firstLetter 62 = .ok (.aaload, 1) := by decide +kernel
theorem dX11_firstLetter_63 : decode cX11_firstLetter 63 = .ok (.getfield 197, 3) := by decide +kernel
theorem dX11_firstLetter_66 : decode cX11_firstLetter 66 = .ok (.aload 4, 2) := by decide +kernel
theorem dX11_firstLetter_68 : decode cX11_firstLetter 68 = .ok (.iload 5, 2) := by decide +kernel
theorem dX11_firstLetter_70 : decode cX11_firstLetter 70 = .ok (.iload_n 3, 1) := by decide +kernel
theorem dX11_firstLetter_71 : decode cX11_firstLetter 71 = .ok (.invokevirtual 259, 3) := by decide +kernel
theorem dX11_firstLetter_74 : decode cX11_firstLetter 74 = .ok (.iaload, 1) := by decide +kernel
theorem dX11_firstLetter_75 : decode cX11_firstLetter 75 = .ok (.invokevirtual 116, 3) := by decide +kernel
theorem dX11_firstLetter_78 : decode cX11_firstLetter 78 = .ok (.ireturn, 1) := by decide +kernel
theorem dX11_parting_0 : decode cX11_parting 0 = .ok (.aload_n 0, 1) := by decide +kernel
theorem dX11_parting_1 : decode cX11_parting 1 = .ok (.iload_n 1, 1) := by decide +kernel
theorem dX11_parting_2 : decode cX11_parting 2 = .ok (.iload_n 2, 1) := by decide +kernel
theorem dX11_parting_3 : decode cX11_parting 3 = .ok (.invokevirtual 238, 3) := by decide +kernel
theorem dX11_parting_6 : decode cX11_parting 6 = .ok (.ifCond .eq 12, 3) := by decide +kernel
theorem dX11_parting_9 : decode cX11_parting 9 = .ok (.aload_n 0, 1) := by decide +kernel
theorem dX11_parting_10 : decode cX11_parting 10 = .ok (.iload_n 1, 1) := by decide +kernel
theorem dX11_parting_11 : decode cX11_parting 11 = .ok (.iload_n 3, 1) := by decide +kernel
theorem dX11_parting_12 : decode cX11_parting 12 = .ok (.invokevirtual 238, 3) := by decide +kernel
theorem dX11_parting_15 : decode cX11_parting 15 = .ok (.ifCond .ne 9, 3) := by decide +kernel
theorem dX11_parting_18 : decode cX11_parting 18 = .ok (.aload_n 0, 1) := by decide +kernel
theorem dX11_parting_19 : decode cX11_parting 19 = .ok (.iconst 1, 1) := by decide +kernel
theorem dX11_parting_20 : decode cX11_parting 20 = .ok (.invokevirtual 84, 3) := by decide +kernel
theorem dX11_parting_23 : decode cX11_parting 23 = .ok (.ireturn, 1) := by decide +kernel
theorem dX11_parting_24 : decode cX11_parting 24 = .ok (.aload_n 0, 1) := by decide +kernel
theorem dX11_parting_25 : decode cX11_parting 25 = .ok (.iload_n 2, 1) := by decide +kernel
theorem dX11_parting_26 : decode cX11_parting 26 = .ok (.iload_n 3, 1) := by decide +kernel
theorem dX11_parting_27 : decode cX11_parting 27 = .ok (.if_icmp .ne 8, 3) := by decide +kernel
theorem dX11_parting_30 : decode cX11_parting 30 = .ok (.bipush (-2), 2) := by decide +kernel
theorem dX11_parting_32 : decode cX11_parting 32 = .ok (.goto 17, 3) := by decide +kernel
theorem dX11_parting_35 : decode cX11_parting 35 = .ok (.aload_n 0, 1) := by decide +kernel
theorem dX11_parting_36 : decode cX11_parting 36 = .ok (.getfield 19, 3) := by decide +kernel
theorem dX11_parting_39 : decode cX11_parting 39 = .ok (.iload_n 1, 1) := by decide +kernel
theorem dX11_parting_40 : decode cX11_parting 40 = .ok (.aaload, 1) := by decide +kernel
theorem dX11_parting_41 : decode cX11_parting 41 = .ok (.getfield 200, 3) := by decide +kernel
theorem dX11_parting_44 : decode cX11_parting 44 = .ok (.iload_n 2, 1) := by decide +kernel
theorem dX11_parting_45 : decode cX11_parting 45 = .ok (.iload_n 3, 1) := by decide +kernel
theorem dX11_parting_46 : decode cX11_parting 46 = .ok (.invokevirtual 262, 3) := by decide +kernel
theorem dX11_parting_49 : decode cX11_parting 49 = .ok (.invokevirtual 116, 3) := by decide +kernel
theorem dX11_parting_52 : decode cX11_parting 52 = .ok (.ireturn, 1) := by decide +kernel
theorem dX11_partingLetter_0 : decode cX11_partingLetter 0 = .ok (.aload_n 0, 1) := by decide +kernel
theorem dX11_partingLetter_1 : decode cX11_partingLetter 1 = .ok (.iload_n 1, 1) := by decide +kernel
theorem dX11_partingLetter_2 : decode cX11_partingLetter 2 = .ok (.iload_n 2, 1) := by decide +kernel
theorem dX11_partingLetter_3 : decode cX11_partingLetter 3 = .ok (.invokevirtual 238, 3) := by decide +kernel
theorem dX11_partingLetter_6 : decode cX11_partingLetter 6 = .ok (.ifCond .eq 39, 3) := by decide +kernel
theorem dX11_partingLetter_9 : decode cX11_partingLetter 9 = .ok (.aload_n 0, 1) := by decide +kernel
theorem dX11_partingLetter_10 : decode cX11_partingLetter 10 = .ok (.iload_n 1, 1) := by decide +kernel
theorem dX11_partingLetter_11 : decode cX11_partingLetter 11 = .ok (.iload_n 3, 1) := by decide +kernel
theorem dX11_partingLetter_12 : decode cX11_partingLetter 12 = .ok (.invokevirtual 238, 3) := by decide +kernel
theorem dX11_partingLetter_15 : decode cX11_partingLetter 15 = .ok (.ifCond .eq 30, 3) := by decide +kernel
theorem dX11_partingLetter_18 : decode cX11_partingLetter 18 = .ok (.iload_n 2, 1) := by decide +kernel
theorem dX11_partingLetter_19 : decode cX11_partingLetter 19 = .ok (.iload_n 3, 1) := by decide +kernel
theorem dX11_partingLetter_20 : decode cX11_partingLetter 20 = .ok (.if_icmp .eq 25, 3) := by decide +kernel
theorem dX11_partingLetter_23 : decode cX11_partingLetter 23 = .ok (.iload 4, 2) := by decide +kernel
theorem dX11_partingLetter_25 : decode cX11_partingLetter 25 = .ok (.aload_n 0, 1) := by decide +kernel
theorem dX11_partingLetter_26 : decode cX11_partingLetter 26 = .ok (.getfield 19, 3) := by decide +kernel
theorem dX11_partingLetter_29 : decode cX11_partingLetter 29 = .ok (.iload_n 1, 1) := by decide +kernel
theorem dX11_partingLetter_30 : decode cX11_partingLetter 30 = .ok (.aaload, 1) := by decide +kernel
theorem dX11_partingLetter_31 : decode cX11_partingLetter 31 = .ok (.getfield 200, 3) := by decide +kernel
theorem dX11_partingLetter_34 : decode cX11_partingLetter 34 = .ok (.iload_n 2, 1) := by decide +kernel
theorem dX11_partingLetter_35 : decode cX11_partingLetter 35 = .ok (.iload_n 3, 1) := by decide +kernel
theorem dX11_partingLetter_36 : decode cX11_partingLetter 36 = .ok (.invokevirtual 262, 3) := by decide +kernel
theorem dX11_partingLetter_39 : decode cX11_partingLetter 39 = .ok (.invokestatic 133, 3) := by decide +kernel
theorem dX11_partingLetter_42 : decode cX11_partingLetter 42 = .ok (.ifCond .ne 9, 3) := by decide +kernel
theorem dX11_partingLetter_45 : decode cX11_partingLetter 45 = .ok (.aload_n 0, 1) := by decide +kernel
theorem dX11_partingLetter_46 : decode cX11_partingLetter 46 = .ok (.iconst 1, 1) := by decide +kernel
theorem dX11_partingLetter_47 : decode cX11_partingLetter 47 = .ok (.invokevirtual 84, 3) := by decide +kernel
theorem dX11_partingLetter_50 : decode cX11_partingLetter 50 = .ok (.ireturn, 1) := by decide +kernel
theorem dX11_partingLetter_51 : decode cX11_partingLetter 51 = .ok (.aload_n 0, 1) := by decide +kernel
theorem dX11_partingLetter_52 : decode cX11_partingLetter 52 = .ok (.aload_n 0, 1) := by decide +kernel
theorem dX11_partingLetter_53 : decode cX11_partingLetter 53 = .ok (.getfield 19, 3) := by decide +kernel
theorem dX11_partingLetter_56 : decode cX11_partingLetter 56 = .ok (.iload_n 1, 1) := by decide +kernel
theorem dX11_partingLetter_57 : decode cX11_partingLetter 57 = .ok (.aaload, 1) := by decide +kernel
theorem dX11_partingLetter_58 : decode cX11_partingLetter 58 = .ok (.getfield 197, 3) := by decide +kernel
theorem dX11_partingLetter_61 : decode cX11_partingLetter 61 = .ok (.aload_n 0, 1) := by decide +kernel
theorem dX11_partingLetter_62 : decode cX11_partingLetter 62 = .ok (.getfield 19, 3) := by decide +kernel
theorem dX11_partingLetter_65 : decode cX11_partingLetter 65 = .ok (.iload_n 1, 1) := by decide +kernel
theorem dX11_partingLetter_66 : decode cX11_partingLetter 66 = .ok (.aaload, 1) := by decide +kernel
theorem dX11_partingLetter_67 : decode cX11_partingLetter 67 = .ok (.getfield 200, 3) := by decide +kernel
theorem dX11_partingLetter_70 : decode cX11_partingLetter 70 = .ok (.iload_n 2, 1) := by decide +kernel
theorem dX11_partingLetter_71 : decode cX11_partingLetter 71 = .ok (.iload_n 3, 1) := by decide +kernel
theorem dX11_partingLetter_72 : decode cX11_partingLetter 72 = .ok (.iload 4, 2) := by decide +kernel
theorem dX11_partingLetter_74 : decode cX11_partingLetter 74 = .ok (.invokevirtual 265, 3) := by decide +kernel
theorem dX11_partingLetter_77 : decode cX11_partingLetter 77 = .ok (.iaload, 1) := by decide +kernel
theorem dX11_partingLetter_78 : decode cX11_partingLetter 78 = .ok (.invokevirtual 116, 3) := by decide +kernel
theorem dX11_partingLetter_81 : decode cX11_partingLetter 81 = .ok (.ireturn, 1) := by decide +kernel
theorem dX11_rounds_0 : decode cX11_rounds 0 = .ok (.aload_n 0, 1) := by decide +kernel
theorem dX11_rounds_1 : decode cX11_rounds 1 = .ok (.iload_n 1, 1) := by decide +kernel
theorem dX11_rounds_2 : decode cX11_rounds 2 = .ok (.invokevirtual 152, 3) := by decide +kernel
theorem dX11_rounds_5 : decode cX11_rounds 5 = .ok (.ifCond .ne 9, 3) := by decide +kernel
theorem dX11_rounds_8 : decode cX11_rounds 8 = .ok (.aload_n 0, 1) := by decide +kernel
theorem dX11_rounds_9 : decode cX11_rounds 9 = .ok (.iconst 1, 1) := by decide +kernel
theorem dX11_rounds_10 : decode cX11_rounds 10 = .ok (.invokevirtual 84, 3) := by decide +kernel
theorem dX11_rounds_13 : decode cX11_rounds 13 = .ok (.ireturn, 1) := by decide +kernel
theorem dX11_rounds_14 : decode cX11_rounds 14 = .ok (.aload_n 0, 1) := by decide +kernel
theorem dX11_rounds_15 : decode cX11_rounds 15 = .ok (.aload_n 0, 1) := by decide +kernel
theorem dX11_rounds_16 : decode cX11_rounds 16 = .ok (.getfield 19, 3) := by decide +kernel
theorem dX11_rounds_19 : decode cX11_rounds 19 = .ok (.iload_n 1, 1) := by decide +kernel
theorem dX11_rounds_20 : decode cX11_rounds 20 = .ok (.aaload, 1) := by decide +kernel
theorem dX11_rounds_21 : decode cX11_rounds 21 = .ok (.getfield 200, 3) := by decide +kernel
theorem dX11_rounds_24 : decode cX11_rounds 24 = .ok (.getfield 268, 3) := by decide +kernel
theorem dX11_rounds_27 : decode cX11_rounds 27 = .ok (.invokevirtual 116, 3) := by decide +kernel
theorem dX11_rounds_30 : decode cX11_rounds 30 = .ok (.ireturn, 1) := by decide +kernel
theorem dX11_word_0 : decode cX11_word 0 = .ok (.iload_n 1, 1) := by decide +kernel
theorem dX11_word_1 : decode cX11_word 1 = .ok (.iconst 5, 1) := by decide +kernel
theorem dX11_word_2 : decode cX11_word 2 = .ok (.invokestatic 133, 3) := by decide +kernel
theorem dX11_word_5 : decode cX11_word 5 = .ok (.ifCond .ne 9, 3) := by decide +kernel
theorem dX11_word_8 : decode cX11_word 8 = .ok (.aload_n 0, 1) := by decide +kernel
theorem dX11_word_9 : decode cX11_word 9 = .ok (.iconst 2, 1) := by decide +kernel
theorem dX11_word_10 : decode cX11_word 10 = .ok (.invokevirtual 84, 3) := by decide +kernel
theorem dX11_word_13 : decode cX11_word 13 = .ok (.ireturn, 1) := by decide +kernel
theorem dX11_word_14 : decode cX11_word 14 = .ok (.iload_n 1, 1) := by decide +kernel
theorem dX11_word_15 : decode cX11_word 15 = .ok (.iconst 1, 1) := by decide +kernel
theorem dX11_word_16 : decode cX11_word 16 = .ok (.if_icmp .lt 12, 3) := by decide +kernel
theorem dX11_word_19 : decode cX11_word 19 = .ok (.iload_n 2, 1) := by decide +kernel
theorem dX11_word_20 : decode cX11_word 20 = .ok (.ldc 144, 2) := by decide +kernel
theorem dX11_word_22 : decode cX11_word 22 = .ok (.invokestatic 133, 3) := by decide +kernel
theorem dX11_word_25 : decode cX11_word 25 = .ok (.ifCond .eq 51, 3) := by decide +kernel
theorem dX11_word_28 : decode cX11_word 28 = .ok (.iload_n 1, 1) := by decide +kernel
theorem dX11_word_29 : decode cX11_word 29 = .ok (.iconst 2, 1) := by decide +kernel
theorem dX11_word_30 : decode cX11_word 30 = .ok (.if_icmp .lt 12, 3) := by decide +kernel
theorem dX11_word_33 : decode cX11_word 33 = .ok (.iload_n 3, 1) := by decide +kernel
theorem dX11_word_34 : decode cX11_word 34 = .ok (.ldc 144, 2) := by decide +kernel
theorem dX11_word_36 : decode cX11_word 36 = .ok (.invokestatic 133, 3) := by decide +kernel
theorem dX11_word_39 : decode cX11_word 39 = .ok (.ifCond .eq 37, 3) := by decide +kernel
theorem dX11_word_42 : decode cX11_word 42 = .ok (.iload_n 1, 1) := by decide +kernel
theorem dX11_word_43 : decode cX11_word 43 = .ok (.iconst 3, 1) := by decide +kernel
theorem dX11_word_44 : decode cX11_word 44 = .ok (.if_icmp .lt 13, 3) := by decide +kernel
theorem dX11_word_47 : decode cX11_word 47 = .ok (.iload 4, 2) := by decide +kernel
theorem dX11_word_49 : decode cX11_word 49 = .ok (.ldc 144, 2) := by decide +kernel
theorem dX11_word_51 : decode cX11_word 51 = .ok (.invokestatic 133, 3) := by decide +kernel
theorem dX11_word_54 : decode cX11_word 54 = .ok (.ifCond .eq 22, 3) := by decide +kernel
theorem dX11_word_57 : decode cX11_word 57 = .ok (.iload_n 1, 1) := by decide +kernel
theorem dX11_word_58 : decode cX11_word 58 = .ok (.iconst 4, 1) := by decide +kernel
theorem dX11_word_59 : decode cX11_word 59 = .ok (.if_icmp .lt 13, 3) := by decide +kernel
theorem dX11_word_62 : decode cX11_word 62 = .ok (.iload 5, 2) := by decide +kernel
theorem dX11_word_64 : decode cX11_word 64 = .ok (.ldc 144, 2) := by decide +kernel
theorem dX11_word_66 : decode cX11_word 66 = .ok (.invokestatic 133, 3) := by decide +kernel
theorem dX11_word_69 : decode cX11_word 69 = .ok (.ifCond .eq 7, 3) := by decide +kernel
theorem dX11_word_72 : decode cX11_word 72 = .ok (.iconst 1, 1) := by decide +kernel
theorem dX11_word_73 : decode cX11_word 73 = .ok (.goto 4, 3) := by decide +kernel
theorem dX11_word_76 : decode cX11_word 76 = .ok (.iconst 0, 1) := by decide +kernel
theorem dX11_word_77 : decode cX11_word 77 = .ok (.istore 6, 2) := by decide +kernel
theorem dX11_word_79 : decode cX11_word 79 = .ok (.iload 6, 2) := by decide +kernel
theorem dX11_word_81 : decode cX11_word 81 = .ok (.ifCond .ne 9, 3) := by decide +kernel
theorem dX11_word_84 : decode cX11_word 84 = .ok (.aload_n 0, 1) := by decide +kernel
theorem dX11_word_85 : decode cX11_word 85 = .ok (.iconst 2, 1) := by decide +kernel
theorem dX11_word_86 : decode cX11_word 86 = .ok (.invokevirtual 84, 3) := by decide +kernel
theorem dX11_word_89 : decode cX11_word 89 = .ok (.ireturn, 1) := by decide +kernel
theorem dX11_word_90 : decode cX11_word 90 = .ok (.aload_n 0, 1) := by decide +kernel
theorem dX11_word_91 : decode cX11_word 91 = .ok (.getfield 13, 3) := by decide +kernel
theorem dX11_word_94 : decode cX11_word 94 = .ok (.iconst 0, 1) := by decide +kernel
theorem dX11_word_95 : decode cX11_word 95 = .ok (.iload_n 2, 1) := by decide +kernel
theorem dX11_word_96 : decode cX11_word 96 = .ok (.iastore, 1) := by decide +kernel
theorem dX11_word_97 : decode cX11_word 97 = .ok (.aload_n 0, 1) := by decide +kernel
theorem dX11_word_98 : decode cX11_word 98 = .ok (.getfield 13, 3) := by decide +kernel
theorem dX11_word_101 : decode cX11_word 101 = .ok (.iconst 1, 1) := by decide +kernel
theorem dX11_word_102 : decode cX11_word 102 = .ok (.iload_n 3, 1) := by decide +kernel
theorem dX11_word_103 : decode cX11_word 103 = .ok (.iastore, 1) := by decide +kernel
theorem dX11_word_104 : decode cX11_word 104 = .ok (.aload_n 0, 1) := by decide +kernel
theorem dX11_word_105 : decode cX11_word 105 = .ok (.getfield 13, 3) := by decide +kernel
theorem dX11_word_108 : decode cX11_word 108 = .ok (.iconst 2, 1) := by decide +kernel
theorem dX11_word_109 : decode cX11_word 109 = .ok (.iload 4, 2) := by decide +kernel
theorem dX11_word_111 : decode cX11_word 111 = .ok (.iastore, 1) := by decide +kernel
theorem dX11_word_112 : decode cX11_word 112 = .ok (.aload_n 0, 1) := by decide +kernel
theorem dX11_word_113 : decode cX11_word 113 = .ok (.getfield 13, 3) := by decide +kernel
theorem dX11_word_116 : decode cX11_word 116 = .ok (.iconst 3, 1) := by decide +kernel
theorem dX11_word_117 : decode cX11_word 117 = .ok (.iload 5, 2) := by decide +kernel
theorem dX11_word_119 : decode cX11_word 119 = .ok (.iastore, 1) := by decide +kernel
theorem dX11_word_120 : decode cX11_word 120 = .ok (.aload_n 0, 1) := by decide +kernel
theorem dX11_word_121 : decode cX11_word 121 = .ok (.iload_n 1, 1) := by decide +kernel
theorem dX11_word_122 : decode cX11_word 122 = .ok (.putfield 271, 3) := by decide +kernel
theorem dX11_word_125 : decode cX11_word 125 = .ok (.aload_n 0, 1) := by decide +kernel
theorem dX11_word_126 : decode cX11_word 126 = .ok (.iload_n 1, 1) := by decide +kernel
theorem dX11_word_127 : decode cX11_word 127 = .ok (.invokevirtual 116, 3) := by decide +kernel
theorem dX11_word_130 : decode cX11_word 130 = .ok (.ireturn, 1) := by decide +kernel
theorem dX11_more_0 : decode cX11_more 0 = .ok (.iload_n 1, 1) := by decide +kernel
theorem dX11_more_1 : decode cX11_more 1 = .ok (.ldc 144, 2) := by decide +kernel
theorem dX11_more_3 : decode cX11_more 3 = .ok (.invokestatic 133, 3) := by decide +kernel
theorem dX11_more_6 : decode cX11_more 6 = .ok (.ifCond .ne 9, 3) := by decide +kernel
theorem dX11_more_9 : decode cX11_more 9 = .ok (.aload_n 0, 1) := by decide +kernel
theorem dX11_more_10 : decode cX11_more 10 = .ok (.iconst 2, 1) := by decide +kernel
theorem dX11_more_11 : decode cX11_more 11 = .ok (.invokevirtual 84, 3) := by decide +kernel
theorem dX11_more_14 : decode cX11_more 14 = .ok (.ireturn, 1) := by decide +kernel
theorem dX11_more_15 : decode cX11_more 15 = .ok (.aload_n 0, 1) := by decide +kernel
theorem dX11_more_16 : decode cX11_more 16 = .ok (.getfield 271, 3) := by decide +kernel
theorem dX11_more_19 : decode cX11_more 19 = .ok (.bipush 16, 2) := by decide +kernel
theorem dX11_more_21 : decode cX11_more 21 = .ok (.if_icmp .lt 9, 3) := by decide +kernel
theorem dX11_more_24 : decode cX11_more 24 = .ok (.aload_n 0, 1) := by decide +kernel
theorem dX11_more_25 : decode cX11_more 25 = .ok (.iconst 3, 1) := by decide +kernel
theorem dX11_more_26 : decode cX11_more 26 = .ok (.invokevirtual 84, 3) := by decide +kernel
theorem dX11_more_29 : decode cX11_more 29 = .ok (.ireturn, 1) := by decide +kernel
theorem dX11_more_30 : decode cX11_more 30 = .ok (.aload_n 0, 1) := by decide +kernel
theorem dX11_more_31 : decode cX11_more 31 = .ok (.getfield 13, 3) := by decide +kernel
theorem dX11_more_34 : decode cX11_more 34 = .ok (.aload_n 0, 1) := by decide +kernel
theorem dX11_more_35 : decode cX11_more 35 = .ok (.getfield 271, 3) := by decide +kernel
theorem dX11_more_38 : decode cX11_more 38 = .ok (.iload_n 1, 1) := by decide +kernel
theorem dX11_more_39 : decode cX11_more 39 = .ok (.iastore, 1) := by decide +kernel
theorem dX11_more_40 : decode cX11_more 40 = .ok (.aload_n 0, 1) := by decide +kernel
theorem dX11_more_41 : decode cX11_more 41 = .ok (.dup, 1) := by decide +kernel
theorem dX11_more_42 : decode cX11_more 42 = .ok (.getfield 271, 3) := by decide +kernel
theorem dX11_more_45 : decode cX11_more 45 = .ok (.iconst 1, 1) := by decide +kernel
theorem dX11_more_46 : decode cX11_more 46 = .ok (.iadd, 1) := by decide +kernel
theorem dX11_more_47 : decode cX11_more 47 = .ok (.putfield 271, 3) := by decide +kernel
theorem dX11_more_50 : decode cX11_more 50 = .ok (.aload_n 0, 1) := by decide +kernel
theorem dX11_more_51 : decode cX11_more 51 = .ok (.aload_n 0, 1) := by decide +kernel
theorem dX11_more_52 : decode cX11_more 52 = .ok (.getfield 271, 3) := by decide +kernel
theorem dX11_more_55 : decode cX11_more 55 = .ok (.invokevirtual 116, 3) := by decide +kernel
theorem dX11_more_58 : decode cX11_more 58 = .ok (.ireturn, 1) := by decide +kernel
theorem dX11_taken_0 : decode cX11_taken 0 = .ok (.aload_n 0, 1) := by decide +kernel
theorem dX11_taken_1 : decode cX11_taken 1 = .ok (.iload_n 1, 1) := by decide +kernel
theorem dX11_taken_2 : decode cX11_taken 2 = .ok (.invokevirtual 152, 3) := by decide +kernel
theorem dX11_taken_5 : decode cX11_taken 5 = .ok (.ifCond .ne 9, 3) := by decide +kernel
theorem dX11_taken_8 : decode cX11_taken 8 = .ok (.aload_n 0, 1) := by decide +kernel
theorem dX11_taken_9 : decode cX11_taken 9 = .ok (.iconst 1, 1) := by decide +kernel
theorem dX11_taken_10 : decode cX11_taken 10 = .ok (.invokevirtual 84, 3) := by decide +kernel
theorem dX11_taken_13 : decode cX11_taken 13 = .ok (.ireturn, 1) := by decide +kernel
theorem dX11_taken_14 : decode cX11_taken 14 = .ok (.aload_n 0, 1) := by decide +kernel
theorem dX11_taken_15 : decode cX11_taken 15 = .ok (.aload_n 0, 1) := by decide +kernel
theorem dX11_taken_16 : decode cX11_taken 16 = .ok (.getfield 19, 3) := by decide +kernel
theorem dX11_taken_19 : decode cX11_taken 19 = .ok (.iload_n 1, 1) := by decide +kernel
theorem dX11_taken_20 : decode cX11_taken 20 = .ok (.aaload, 1) := by decide +kernel
theorem dX11_taken_21 : decode cX11_taken 21 = .ok (.getfield 200, 3) := by decide +kernel
theorem dX11_taken_24 : decode cX11_taken 24 = .ok (.aload_n 0, 1) := by decide +kernel
theorem dX11_taken_25 : decode cX11_taken 25 = .ok (.aload_n 0, 1) := by decide +kernel
theorem dX11_taken_26 : decode cX11_taken 26 = .ok (.getfield 19, 3) := by decide +kernel
theorem dX11_taken_29 : decode cX11_taken 29 = .ok (.iload_n 1, 1) := by decide +kernel
theorem dX11_taken_30 : decode cX11_taken 30 = .ok (.aaload, 1) := by decide +kernel
theorem dX11_taken_31 : decode cX11_taken 31 = .ok (.invokevirtual 274, 3) := by decide +kernel
theorem dX11_taken_34 : decode cX11_taken 34 = .ok (.invokevirtual 278, 3) := by decide +kernel
theorem dX11_taken_37 : decode cX11_taken 37 = .ok (.ifCond .eq 7, 3) := by decide +kernel
theorem dX11_taken_40 : decode cX11_taken 40 = .ok (.iconst 1, 1) := by decide +kernel
theorem dX11_taken_41 : decode cX11_taken 41 = .ok (.goto 4, 3) := by decide +kernel
theorem dX11_taken_44 : decode cX11_taken 44 = .ok (.iconst 0, 1) := by decide +kernel
theorem dX11_taken_45 : decode cX11_taken 45 = .ok (.invokevirtual 116, 3) := by decide +kernel
theorem dX11_taken_48 : decode cX11_taken 48 = .ok (.ireturn, 1) := by decide +kernel
theorem dX11_leads_0 : decode cX11_leads 0 = .ok (.aload_n 0, 1) := by decide +kernel
theorem dX11_leads_1 : decode cX11_leads 1 = .ok (.iload_n 1, 1) := by decide +kernel
theorem dX11_leads_2 : decode cX11_leads 2 = .ok (.invokevirtual 152, 3) := by decide +kernel
theorem dX11_leads_5 : decode cX11_leads 5 = .ok (.ifCond .ne 10, 3) := by decide +kernel
theorem dX11_leads_8 : decode cX11_leads 8 = .ok (.aload_n 0, 1) := by decide +kernel
theorem dX11_leads_9 : decode cX11_leads 9 = .ok (.iconst 1, 1) := by decide +kernel
theorem dX11_leads_10 : decode cX11_leads 10 = .ok (.invokevirtual 84, 3) := by decide +kernel
theorem dX11_leads_13 : decode cX11_leads 13 = .ok (.i2l, 1) := by decide +kernel
theorem dX11_leads_14 : decode cX11_leads 14 = .ok (.lreturn, 1) := by decide +kernel
theorem dX11_leads_15 : decode cX11_leads 15 = .ok (.aload_n 0, 1) := by decide +kernel
theorem dX11_leads_16 : decode cX11_leads 16 = .ok (.aload_n 0, 1) := by decide +kernel
theorem dX11_leads_17 : decode cX11_leads 17 = .ok (.getfield 19, 3) := by decide +kernel
theorem dX11_leads_20 : decode cX11_leads 20 = .ok (.iload_n 1, 1) := by decide +kernel
theorem dX11_leads_21 : decode cX11_leads 21 = .ok (.aaload, 1) := by decide +kernel
theorem dX11_leads_22 : decode cX11_leads 22 = .ok (.getfield 200, 3) := by decide +kernel
theorem dX11_leads_25 : decode cX11_leads 25 = .ok (.getfield 209, 3) := by decide +kernel
theorem dX11_leads_28 : decode cX11_leads 28 = .ok (.aload_n 0, 1) := by decide +kernel
theorem dX11_leads_29 : decode cX11_leads 29 = .ok (.aload_n 0, 1) := by decide +kernel
theorem dX11_leads_30 : decode cX11_leads 30 = .ok (.getfield 19, 3) := by decide +kernel
theorem dX11_leads_33 : decode cX11_leads 33 = .ok (.iload_n 1, 1) := by decide +kernel
theorem dX11_leads_34 : decode cX11_leads 34 = .ok (.aaload, 1) := by decide +kernel
theorem dX11_leads_35 : decode cX11_leads 35 = .ok (.invokevirtual 274, 3) := by decide +kernel
theorem dX11_leads_38 : decode cX11_leads 38 = .ok (.laload, 1) := by decide +kernel
theorem dX11_leads_39 : decode cX11_leads 39 = .ok (.invokevirtual 190, 3) := by decide +kernel
theorem dX11_leads_42 : decode cX11_leads 42 = .ok (.lreturn, 1) := by decide +kernel
theorem dX11_classOf_0 : decode cX11_classOf 0 = .ok (.aload_n 0, 1) := by decide +kernel
theorem dX11_classOf_1 : decode cX11_classOf 1 = .ok (.iload_n 1, 1) := by decide +kernel
theorem dX11_classOf_2 : decode cX11_classOf 2 = .ok (.invokevirtual 152, 3) := by decide +kernel
theorem dX11_classOf_5 : decode cX11_classOf 5 = .ok (.ifCond .ne 9, 3) := by decide +kernel
theorem dX11_classOf_8 : decode cX11_classOf 8 = .ok (.aload_n 0, 1) := by decide +kernel
theorem dX11_classOf_9 : decode cX11_classOf 9 = .ok (.iconst 1, 1) := by decide +kernel
theorem dX11_classOf_10 : decode cX11_classOf 10 = .ok (.invokevirtual 84, 3) := by decide +kernel
theorem dX11_classOf_13 : decode cX11_classOf 13 = .ok (.ireturn, 1) := by decide +kernel
theorem dX11_classOf_14 : decode cX11_classOf 14 = .ok (.aload_n 0, 1) := by decide +kernel
theorem dX11_classOf_15 : decode cX11_classOf 15 = .ok (.aload_n 0, 1) := by decide +kernel
theorem dX11_classOf_16 : decode cX11_classOf 16 = .ok (.getfield 19, 3) := by decide +kernel
theorem dX11_classOf_19 : decode cX11_classOf 19 = .ok (.iload_n 1, 1) := by decide +kernel
theorem dX11_classOf_20 : decode cX11_classOf 20 = .ok (.aaload, 1) := by decide +kernel
theorem dX11_classOf_21 : decode cX11_classOf 21 = .ok (.getfield 200, 3) := by decide +kernel
theorem dX11_classOf_24 : decode cX11_classOf 24 = .ok (.getfield 281, 3) := by decide +kernel
theorem dX11_classOf_27 : decode cX11_classOf 27 = .ok (.aload_n 0, 1) := by decide +kernel
theorem dX11_classOf_28 : decode cX11_classOf 28 = .ok (.aload_n 0, 1) := by decide +kernel
theorem dX11_classOf_29 : decode cX11_classOf 29 = .ok (.getfield 19, 3) := by decide +kernel
theorem dX11_classOf_32 : decode cX11_classOf 32 = .ok (.iload_n 1, 1) := by decide +kernel
theorem dX11_classOf_33 : decode cX11_classOf 33 = .ok (.aaload, 1) := by decide +kernel
theorem dX11_classOf_34 : decode cX11_classOf 34 = .ok (.invokevirtual 274, 3) := by decide +kernel
theorem dX11_classOf_37 : decode cX11_classOf 37 = .ok (.iaload, 1) := by decide +kernel
theorem dX11_classOf_38 : decode cX11_classOf 38 = .ok (.invokevirtual 116, 3) := by decide +kernel
theorem dX11_classOf_41 : decode cX11_classOf 41 = .ok (.ireturn, 1) := by decide +kernel
theorem dX11_place_0 : decode cX11_place 0 = .ok (.aload_n 0, 1) := by decide +kernel
theorem dX11_place_1 : decode cX11_place 1 = .ok (.iload_n 1, 1) := by decide +kernel
theorem dX11_place_2 : decode cX11_place 2 = .ok (.invokevirtual 152, 3) := by decide +kernel
theorem dX11_place_5 : decode cX11_place 5 = .ok (.ifCond .ne 10, 3) := by decide +kernel
theorem dX11_place_8 : decode cX11_place 8 = .ok (.aload_n 0, 1) := by decide +kernel
theorem dX11_place_9 : decode cX11_place 9 = .ok (.iconst 1, 1) := by decide +kernel
theorem dX11_place_10 : decode cX11_place 10 = .ok (.invokevirtual 84, 3) := by decide +kernel
theorem dX11_place_13 : decode cX11_place 13 = .ok (.i2l, 1) := by decide +kernel
theorem dX11_place_14 : decode cX11_place 14 = .ok (.lreturn, 1) := by decide +kernel
theorem dX11_place_15 : decode cX11_place 15 = .ok (.aload_n 0, 1) := by decide +kernel
theorem dX11_place_16 : decode cX11_place 16 = .ok (.getfield 271, 3) := by decide +kernel
theorem dX11_place_19 : decode cX11_place 19 = .ok (.iconst 3, 1) := by decide +kernel
theorem dX11_place_20 : decode cX11_place 20 = .ok (.if_icmp .le 10, 3) := by decide +kernel
theorem dX11_place_23 : decode cX11_place 23 = .ok (.aload_n 0, 1) := by decide +kernel
theorem dX11_place_24 : decode cX11_place 24 = .ok (.iconst 5, 1) := by decide +kernel
theorem dX11_place_25 : decode cX11_place 25 = .ok (.invokevirtual 84, 3) := by decide +kernel
theorem dX11_place_28 : decode cX11_place 28 = .ok (.i2l, 1) := by decide +kernel
theorem dX11_place_29 : decode cX11_place 29 = .ok (.lreturn, 1) := by decide +kernel
theorem dX11_place_30 : decode cX11_place 30 = .ok (.aload_n 0, 1) := by decide +kernel
theorem dX11_place_31 : decode cX11_place 31 = .ok (.getfield 49, 3) := by decide +kernel
theorem dX11_place_34 : decode cX11_place 34 = .ok (.aload_n 0, 1) := by decide +kernel
theorem dX11_place_35 : decode cX11_place 35 = .ok (.getfield 19, 3) := by decide +kernel
theorem dX11_place_38 : decode cX11_place 38 = .ok (.iload_n 1, 1) := by decide +kernel
theorem dX11_place_39 : decode cX11_place 39 = .ok (.aaload, 1) := by decide +kernel
theorem dX11_place_40 : decode cX11_place 40 = .ok (.aload_n 0, 1) := by decide +kernel
theorem dX11_place_41 : decode cX11_place 41 = .ok (.getfield 271, 3) := by decide +kernel
theorem dX11_place_44 : decode cX11_place 44 = .ok (.invokevirtual 284, 3) := by decide +kernel
theorem dX11_place_47 : decode cX11_place 47 = .ok (.aload_n 0, 1) := by decide +kernel
theorem dX11_place_48 : decode cX11_place 48 = .ok (.aload_n 0, 1) := by decide +kernel
theorem dX11_place_49 : decode cX11_place 49 = .ok (.getfield 49, 3) := by decide +kernel
theorem dX11_place_52 : decode cX11_place 52 = .ok (.aload_n 0, 1) := by decide +kernel
theorem dX11_place_53 : decode cX11_place 53 = .ok (.getfield 19, 3) := by decide +kernel
theorem dX11_place_56 : decode cX11_place 56 = .ok (.iload_n 1, 1) := by decide +kernel
theorem dX11_place_57 : decode cX11_place 57 = .ok (.aaload, 1) := by decide +kernel
theorem dX11_place_58 : decode cX11_place 58 = .ok (.aload_n 0, 1) := by decide +kernel
theorem dX11_place_59 : decode cX11_place 59 = .ok (.getfield 13, 3) := by decide +kernel
theorem dX11_place_62 : decode cX11_place 62 = .ok (.aload_n 0, 1) := by decide +kernel
theorem dX11_place_63 : decode cX11_place 63 = .ok (.getfield 271, 3) := by decide +kernel
theorem dX11_place_66 : decode cX11_place 66 = .ok (.invokevirtual 287, 3) := by decide +kernel
theorem dX11_place_69 : decode cX11_place 69 = .ok (.invokevirtual 190, 3) := by decide +kernel
theorem dX11_place_72 : decode cX11_place 72 = .ok (.lreturn, 1) := by decide +kernel
theorem dX11_count_0 : decode cX11_count 0 = .ok (.aload_n 0, 1) := by decide +kernel
theorem dX11_count_1 : decode cX11_count 1 = .ok (.iload_n 1, 1) := by decide +kernel
theorem dX11_count_2 : decode cX11_count 2 = .ok (.invokevirtual 152, 3) := by decide +kernel
theorem dX11_count_5 : decode cX11_count 5 = .ok (.ifCond .ne 10, 3) := by decide +kernel
theorem dX11_count_8 : decode cX11_count 8 = .ok (.aload_n 0, 1) := by decide +kernel
theorem dX11_count_9 : decode cX11_count 9 = .ok (.iconst 1, 1) := by decide +kernel
theorem dX11_count_10 : decode cX11_count 10 = .ok (.invokevirtual 84, 3) := by decide +kernel
theorem dX11_count_13 : decode cX11_count 13 = .ok (.i2l, 1) := by decide +kernel
theorem dX11_count_14 : decode cX11_count 14 = .ok (.lreturn, 1) := by decide +kernel
theorem dX11_count_15 : decode cX11_count 15 = .ok (.iload_n 2, 1) := by decide +kernel
theorem dX11_count_16 : decode cX11_count 16 = .ok (.iconst 4, 1) := by decide +kernel
theorem dX11_count_17 : decode cX11_count 17 = .ok (.invokestatic 133, 3) := by decide +kernel
theorem dX11_count_20 : decode cX11_count 20 = .ok (.ifCond .ne 10, 3) := by decide +kernel
theorem dX11_count_23 : decode cX11_count 23 = .ok (.aload_n 0, 1) := by decide +kernel
theorem dX11_count_24 : decode cX11_count 24 = .ok (.iconst 2, 1) := by decide +kernel
theorem dX11_count_25 : decode cX11_count 25 = .ok (.invokevirtual 84, 3) := by decide +kernel
theorem dX11_count_28 : decode cX11_count 28 = .ok (.i2l, 1) := by decide +kernel
theorem dX11_count_29 : decode cX11_count 29 = .ok (.lreturn, 1) := by decide +kernel
theorem dX11_count_30 : decode cX11_count 30 = .ok (.aload_n 0, 1) := by decide +kernel
theorem dX11_count_31 : decode cX11_count 31 = .ok (.getfield 49, 3) := by decide +kernel
theorem dX11_count_34 : decode cX11_count 34 = .ok (.aload_n 0, 1) := by decide +kernel
theorem dX11_count_35 : decode cX11_count 35 = .ok (.getfield 19, 3) := by decide +kernel
theorem dX11_count_38 : decode cX11_count 38 = .ok (.iload_n 1, 1) := by decide +kernel
theorem dX11_count_39 : decode cX11_count 39 = .ok (.aaload, 1) := by decide +kernel
theorem dX11_count_40 : decode cX11_count 40 = .ok (.iload_n 2, 1) := by decide +kernel
theorem dX11_count_41 : decode cX11_count 41 = .ok (.invokevirtual 284, 3) := by decide +kernel
theorem dX11_count_44 : decode cX11_count 44 = .ok (.aload_n 0, 1) := by decide +kernel
theorem dX11_count_45 : decode cX11_count 45 = .ok (.aload_n 0, 1) := by decide +kernel
theorem dX11_count_46 : decode cX11_count 46 = .ok (.getfield 49, 3) := by decide +kernel
theorem dX11_count_49 : decode cX11_count 49 = .ok (.iload_n 2, 1) := by decide +kernel
theorem dX11_count_50 : decode cX11_count 50 = .ok (.iconst 0, 1) := by decide +kernel
theorem dX11_count_51 : decode cX11_count 51 = .ok (.invokevirtual 291, 3) := by decide +kernel
theorem dX11_count_54 : decode cX11_count 54 = .ok (.invokevirtual 190, 3) := by decide +kernel
theorem dX11_count_57 : decode cX11_count 57 = .ok (.lreturn, 1) := by decide +kernel
theorem dX11_at_0 : decode cX11_at 0 = .ok (.aload_n 0, 1) := by decide +kernel
theorem dX11_at_1 : decode cX11_at 1 = .ok (.iload_n 1, 1) := by decide +kernel
theorem dX11_at_2 : decode cX11_at 2 = .ok (.invokevirtual 152, 3) := by decide +kernel
theorem dX11_at_5 : decode cX11_at 5 = .ok (.ifCond .ne 9, 3) := by decide +kernel
theorem dX11_at_8 : decode cX11_at 8 = .ok (.aload_n 0, 1) := by decide +kernel
theorem dX11_at_9 : decode cX11_at 9 = .ok (.iconst 1, 1) := by decide +kernel
theorem dX11_at_10 : decode cX11_at 10 = .ok (.invokevirtual 84, 3) := by decide +kernel
theorem dX11_at_13 : decode cX11_at 13 = .ok (.ireturn, 1) := by decide +kernel
theorem dX11_at_14 : decode cX11_at 14 = .ok (.iload_n 2, 1) := by decide +kernel
theorem dX11_at_15 : decode cX11_at 15 = .ok (.iconst 1, 1) := by decide +kernel
theorem dX11_at_16 : decode cX11_at 16 = .ok (.if_icmp .lt 8, 3) := by decide +kernel
theorem dX11_at_19 : decode cX11_at 19 = .ok (.iload_n 2, 1) := by decide +kernel
theorem dX11_at_20 : decode cX11_at 20 = .ok (.iconst 3, 1) := by decide +kernel
theorem dX11_at_21 : decode cX11_at 21 = .ok (.if_icmp .le 9, 3) := by decide +kernel
theorem dX11_at_24 : decode cX11_at 24 = .ok (.aload_n 0, 1) := by decide +kernel
theorem dX11_at_25 : decode cX11_at 25 = .ok (.iconst 2, 1) := by decide +kernel
theorem dX11_at_26 : decode cX11_at 26 = .ok (.invokevirtual 84, 3) := by decide +kernel
theorem dX11_at_29 : decode cX11_at 29 = .ok (.ireturn, 1) := by decide +kernel
theorem dX11_at_30 : decode cX11_at 30 = .ok (.aload_n 0, 1) := by decide +kernel
theorem dX11_at_31 : decode cX11_at 31 = .ok (.getfield 49, 3) := by decide +kernel
theorem dX11_at_34 : decode cX11_at 34 = .ok (.aload_n 0, 1) := by decide +kernel
theorem dX11_at_35 : decode cX11_at 35 = .ok (.getfield 19, 3) := by decide +kernel
theorem dX11_at_38 : decode cX11_at 38 = .ok (.iload_n 1, 1) := by decide +kernel
theorem dX11_at_39 : decode cX11_at 39 = .ok (.aaload, 1) := by decide +kernel
theorem dX11_at_40 : decode cX11_at 40 = .ok (.iload_n 2, 1) := by decide +kernel
theorem dX11_at_41 : decode cX11_at 41 = .ok (.invokevirtual 284, 3) := by decide +kernel
theorem dX11_at_44 : decode cX11_at 44 = .ok (.lload_n 3, 1) := by decide +kernel
theorem dX11_at_45 : decode cX11_at 45 = .ok (.lconst 0, 1) := by decide +kernel
theorem dX11_at_46 : decode cX11_at 46 = .ok (.lcmp, 1) := by decide +kernel
theorem dX11_at_47 : decode cX11_at 47 = .ok (.ifCond .lt 26, 3) := by decide +kernel
theorem dX11_at_50 : decode cX11_at 50 = .ok (.lload_n 3, 1) := by decide +kernel
theorem dX11_at_51 : decode cX11_at 51 = .ok (.aload_n 0, 1) := by decide +kernel
theorem dX11_at_52 : decode cX11_at 52 = .ok (.getfield 49, 3) := by decide +kernel
theorem dX11_at_55 : decode cX11_at 55 = .ok (.iload_n 2, 1) := by decide +kernel
theorem dX11_at_56 : decode cX11_at 56 = .ok (.iconst 0, 1) := by decide +kernel
theorem dX11_at_57 : decode cX11_at 57 = .ok (.invokevirtual 291, 3) := by decide +kernel
theorem dX11_at_60 : decode cX11_at 60 = .ok (.lcmp, 1) := by decide +kernel
theorem dX11_at_61 : decode cX11_at 61 = .ok (.ifCond .ge 12, 3) := by decide +kernel
theorem dX11_at_64 : decode cX11_at 64 = .ok (.iload 5, 2) := by decide +kernel
theorem dX11_at_66 : decode cX11_at 66 = .ok (.iload_n 2, 1) := by decide +kernel
theorem dX11_at_67 : decode cX11_at 67 = .ok (.invokestatic 133, 3) := by decide +kernel
theorem dX11_at_70 : decode cX11_at 70 = .ok (.ifCond .ne 9, 3) := by decide +kernel
theorem dX11_at_73 : decode cX11_at 73 = .ok (.aload_n 0, 1) := by decide +kernel
theorem dX11_at_74 : decode cX11_at 74 = .ok (.iconst 1, 1) := by decide +kernel
theorem dX11_at_75 : decode cX11_at 75 = .ok (.invokevirtual 84, 3) := by decide +kernel
theorem dX11_at_78 : decode cX11_at 78 = .ok (.ireturn, 1) := by decide +kernel
theorem dX11_at_79 : decode cX11_at 79 = .ok (.aload_n 0, 1) := by decide +kernel
theorem dX11_at_80 : decode cX11_at 80 = .ok (.aload_n 0, 1) := by decide +kernel
theorem dX11_at_81 : decode cX11_at 81 = .ok (.getfield 49, 3) := by decide +kernel
theorem dX11_at_84 : decode cX11_at 84 = .ok (.aload_n 0, 1) := by decide +kernel
theorem dX11_at_85 : decode cX11_at 85 = .ok (.getfield 19, 3) := by decide +kernel
theorem dX11_at_88 : decode cX11_at 88 = .ok (.iload_n 1, 1) := by decide +kernel
theorem dX11_at_89 : decode cX11_at 89 = .ok (.aaload, 1) := by decide +kernel
theorem dX11_at_90 : decode cX11_at 90 = .ok (.iload_n 2, 1) := by decide +kernel
theorem dX11_at_91 : decode cX11_at 91 = .ok (.lload_n 3, 1) := by decide +kernel
theorem dX11_at_92 : decode cX11_at 92 = .ok (.iload 5, 2) := by decide +kernel
theorem dX11_at_94 : decode cX11_at 94 = .ok (.invokevirtual 295, 3) := by decide +kernel
theorem dX11_at_97 : decode cX11_at 97 = .ok (.invokevirtual 116, 3) := by decide +kernel
theorem dX11_at_100 : decode cX11_at 100 = .ok (.ireturn, 1) := by decide +kernel
theorem dX11_longest_0 : decode cX11_longest 0 = .ok (.aload_n 0, 1) := by decide +kernel
theorem dX11_longest_1 : decode cX11_longest 1 = .ok (.iload_n 1, 1) := by decide +kernel
theorem dX11_longest_2 : decode cX11_longest 2 = .ok (.invokevirtual 152, 3) := by decide +kernel
theorem dX11_longest_5 : decode cX11_longest 5 = .ok (.ifCond .ne 9, 3) := by decide +kernel
theorem dX11_longest_8 : decode cX11_longest 8 = .ok (.aload_n 0, 1) := by decide +kernel
theorem dX11_longest_9 : decode cX11_longest 9 = .ok (.iconst 1, 1) := by decide +kernel
theorem dX11_longest_10 : decode cX11_longest 10 = .ok (.invokevirtual 84, 3) := by decide +kernel
theorem dX11_longest_13 : decode cX11_longest 13 = .ok (.ireturn, 1) := by decide +kernel
theorem dX11_longest_14 : decode cX11_longest 14 = .ok (.aload_n 0, 1) := by decide +kernel
theorem dX11_longest_15 : decode cX11_longest 15 = .ok (.aload_n 0, 1) := by decide +kernel
theorem dX11_longest_16 : decode cX11_longest 16 = .ok (.getfield 19, 3) := by decide +kernel
theorem dX11_longest_19 : decode cX11_longest 19 = .ok (.iload_n 1, 1) := by decide +kernel
theorem dX11_longest_20 : decode cX11_longest 20 = .ok (.aaload, 1) := by decide +kernel
theorem dX11_longest_21 : decode cX11_longest 21 = .ok (.getfield 200, 3) := by decide +kernel
theorem dX11_longest_24 : decode cX11_longest 24 = .ok (.invokevirtual 299, 3) := by decide +kernel
theorem dX11_longest_27 : decode cX11_longest 27 = .ok (.invokevirtual 116, 3) := by decide +kernel
theorem dX11_longest_30 : decode cX11_longest 30 = .ok (.ireturn, 1) := by decide +kernel
theorem dX11_found_0 : decode cX11_found 0 = .ok (.aload_n 0, 1) := by decide +kernel
theorem dX11_found_1 : decode cX11_found 1 = .ok (.iload_n 1, 1) := by decide +kernel
theorem dX11_found_2 : decode cX11_found 2 = .ok (.iload_n 2, 1) := by decide +kernel
theorem dX11_found_3 : decode cX11_found 3 = .ok (.iload_n 3, 1) := by decide +kernel
theorem dX11_found_4 : decode cX11_found 4 = .ok (.invokevirtual 302, 3) := by decide +kernel
theorem dX11_found_7 : decode cX11_found 7 = .ok (.istore 4, 2) := by decide +kernel
theorem dX11_found_9 : decode cX11_found 9 = .ok (.iload 4, 2) := by decide +kernel
theorem dX11_found_11 : decode cX11_found 11 = .ok (.ifCond .eq 10, 3) := by decide +kernel
theorem dX11_found_14 : decode cX11_found 14 = .ok (.aload_n 0, 1) := by decide +kernel
theorem dX11_found_15 : decode cX11_found 15 = .ok (.iload 4, 2) := by decide +kernel
theorem dX11_found_17 : decode cX11_found 17 = .ok (.invokevirtual 84, 3) := by decide +kernel
theorem dX11_found_20 : decode cX11_found 20 = .ok (.ireturn, 1) := by decide +kernel
theorem dX11_found_21 : decode cX11_found 21 = .ok (.aload_n 0, 1) := by decide +kernel
theorem dX11_found_22 : decode cX11_found 22 = .ok (.getfield 42, 3) := by decide +kernel
theorem dX11_found_25 : decode cX11_found 25 = .ok (.aload_n 0, 1) := by decide +kernel
theorem dX11_found_26 : decode cX11_found 26 = .ok (.getfield 19, 3) := by decide +kernel
theorem dX11_found_29 : decode cX11_found 29 = .ok (.iload_n 1, 1) := by decide +kernel
theorem dX11_found_30 : decode cX11_found 30 = .ok (.aaload, 1) := by decide +kernel
theorem dX11_found_31 : decode cX11_found 31 = .ok (.aload_n 0, 1) := by decide +kernel
theorem dX11_found_32 : decode cX11_found 32 = .ok (.getfield 19, 3) := by decide +kernel
theorem dX11_found_35 : decode cX11_found 35 = .ok (.iload_n 2, 1) := by decide +kernel
theorem dX11_found_36 : decode cX11_found 36 = .ok (.aaload, 1) := by decide +kernel
theorem dX11_found_37 : decode cX11_found 37 = .ok (.iload_n 3, 1) := by decide +kernel
theorem dX11_found_38 : decode cX11_found 38 = .ok (.invokevirtual 305, 3) := by decide +kernel
theorem dX11_found_41 : decode cX11_found 41 = .ok (.istore 5, 2) := by decide +kernel
theorem dX11_found_43 : decode cX11_found 43 = .ok (.aload_n 0, 1) := by decide +kernel
theorem dX11_found_44 : decode cX11_found 44 = .ok (.iload 5, 2) := by decide +kernel
theorem dX11_found_46 : decode cX11_found 46 = .ok (.ifCond .ge 8, 3) := by decide +kernel
theorem dX11_found_49 : decode cX11_found 49 = .ok (.bipush (-2), 2) := by decide +kernel
theorem dX11_found_51 : decode cX11_found 51 = .ok (.goto 13, 3) := by decide +kernel
theorem dX11_found_54 : decode cX11_found 54 = .ok (.aload_n 0, 1) := by decide +kernel
theorem dX11_found_55 : decode cX11_found 55 = .ok (.getfield 42, 3) := by decide +kernel
theorem dX11_found_58 : decode cX11_found 58 = .ok (.getfield 309, 3) := by decide +kernel
theorem dX11_found_61 : decode cX11_found 61 = .ok (.iload 5, 2) := by decide +kernel
theorem dX11_found_63 : decode cX11_found 63 = .ok (.iaload, 1) := by decide +kernel
theorem dX11_found_64 : decode cX11_found 64 = .ok (.invokevirtual 116, 3) := by decide +kernel
theorem dX11_found_67 : decode cX11_found 67 = .ok (.ireturn, 1) := by decide +kernel
theorem dX11_foundLetter_0 : decode cX11_foundLetter 0 = .ok (.aload_n 0, 1) := by decide +kernel
theorem dX11_foundLetter_1 : decode cX11_foundLetter 1 = .ok (.iload_n 1, 1) := by decide +kernel
theorem dX11_foundLetter_2 : decode cX11_foundLetter 2 = .ok (.iload_n 2, 1) := by decide +kernel
theorem dX11_foundLetter_3 : decode cX11_foundLetter 3 = .ok (.iload_n 3, 1) := by decide +kernel
theorem dX11_foundLetter_4 : decode cX11_foundLetter 4 = .ok (.invokevirtual 302, 3) := by decide +kernel
theorem dX11_foundLetter_7 : decode cX11_foundLetter 7 = .ok (.istore 5, 2) := by decide +kernel
theorem dX11_foundLetter_9 : decode cX11_foundLetter 9 = .ok (.iload 5, 2) := by decide +kernel
theorem dX11_foundLetter_11 : decode cX11_foundLetter 11 = .ok (.ifCond .eq 10, 3) := by decide +kernel
theorem dX11_foundLetter_14 : decode cX11_foundLetter 14 = .ok (.aload_n 0, 1) := by decide +kernel
theorem dX11_foundLetter_15 : decode cX11_foundLetter 15 = .ok (.iload 5, 2) := by decide +kernel
theorem dX11_foundLetter_17 : decode cX11_foundLetter 17 = .ok (.invokevirtual 84, 3) := by decide +kernel
theorem dX11_foundLetter_20 : decode cX11_foundLetter 20 = .ok (.ireturn, 1) := by decide +kernel
theorem dX11_foundLetter_21 : decode cX11_foundLetter 21 = .ok (.aload_n 0, 1) := by decide +kernel
theorem dX11_foundLetter_22 : decode cX11_foundLetter 22 = .ok (.getfield 42, 3) := by decide +kernel
theorem dX11_foundLetter_25 : decode cX11_foundLetter 25 = .ok (.aload_n 0, 1) := by decide +kernel
theorem dX11_foundLetter_26 : decode cX11_foundLetter 26 = .ok (.getfield 19, 3) := by decide +kernel
theorem dX11_foundLetter_29 : decode cX11_foundLetter 29 = .ok (.iload_n 1, 1) := by decide +kernel
theorem dX11_foundLetter_30 : decode cX11_foundLetter 30 = .ok (.aaload, 1) := by decide +kernel
theorem dX11_foundLetter_31 : decode cX11_foundLetter 31 = .ok (.aload_n 0, 1) := by decide +kernel
theorem dX11_foundLetter_32 : decode cX11_foundLetter 32 = .ok (.getfield 19, 3) := by decide +kernel
theorem dX11_foundLetter_35 : decode cX11_foundLetter 35 = .ok (.iload_n 2, 1) := by decide +kernel
theorem dX11_foundLetter_36 : decode cX11_foundLetter 36 = .ok (.aaload, 1) := by decide +kernel
theorem dX11_foundLetter_37 : decode cX11_foundLetter 37 = .ok (.iload_n 3, 1) := by decide +kernel
theorem dX11_foundLetter_38 : decode cX11_foundLetter 38 = .ok (.invokevirtual 305, 3) := by decide +kernel
theorem dX11_foundLetter_41 : decode cX11_foundLetter 41 = .ok (.istore 6, 2) := by decide +kernel
theorem dX11_foundLetter_43 : decode cX11_foundLetter 43 = .ok (.iload 6, 2) := by decide +kernel
theorem dX11_foundLetter_45 : decode cX11_foundLetter 45 = .ok (.ifCond .lt 21, 3) := by decide +kernel
theorem dX11_foundLetter_48 : decode cX11_foundLetter 48 = .ok (.iload 4, 2) := by decide +kernel
theorem dX11_foundLetter_50 : decode cX11_foundLetter 50 = .ok (.aload_n 0, 1) := by decide +kernel
theorem dX11_foundLetter_51 : decode cX11_foundLetter 51 = .ok (.getfield 42, 3) := by decide +kernel
theorem dX11_foundLetter_54 : decode cX11_foundLetter 54 = .ok (.getfield 309, 3) := by decide +kernel
theorem dX11_foundLetter_57 : decode cX11_foundLetter 57 = .ok (.iload 6, 2) := by decide +kernel
theorem dX11_foundLetter_59 : decode cX11_foundLetter 59 = .ok (.iaload, 1) := by decide +kernel
theorem dX11_foundLetter_60 : decode cX11_foundLetter 60 = .ok (.invokestatic 133, 3) := by decide +kernel
theorem dX11_foundLetter_63 : decode cX11_foundLetter 63 = .ok (.ifCond .ne 9, 3) := by decide +kernel
theorem dX11_foundLetter_66 : decode cX11_foundLetter 66 = .ok (.aload_n 0, 1) := by decide +kernel
theorem dX11_foundLetter_67 : decode cX11_foundLetter 67 = .ok (.iconst 1, 1) := by decide +kernel
theorem dX11_foundLetter_68 : decode cX11_foundLetter 68 = .ok (.invokevirtual 84, 3) := by decide +kernel
theorem dX11_foundLetter_71 : decode cX11_foundLetter 71 = .ok (.ireturn, 1) := by decide +kernel
theorem dX11_foundLetter_72 : decode cX11_foundLetter 72 = .ok (.aload_n 0, 1) := by decide +kernel
theorem dX11_foundLetter_73 : decode cX11_foundLetter 73 = .ok (.aload_n 0, 1) := by decide +kernel
theorem dX11_foundLetter_74 : decode cX11_foundLetter 74 = .ok (.getfield 42, 3) := by decide +kernel
theorem dX11_foundLetter_77 : decode cX11_foundLetter 77 = .ok (.iload 6, 2) := by decide +kernel
theorem dX11_foundLetter_79 : decode cX11_foundLetter 79 = .ok (.iload 4, 2) := by decide +kernel
theorem dX11_foundLetter_81 : decode cX11_foundLetter 81 = .ok (.invokevirtual 310, 3) := by decide +kernel
theorem dX11_foundLetter_84 : decode cX11_foundLetter 84 = .ok (.invokevirtual 116, 3) := by decide +kernel
theorem dX11_foundLetter_87 : decode cX11_foundLetter 87 = .ok (.ireturn, 1) := by decide +kernel
theorem dX11_same_0 : decode cX11_same 0 = .ok (.aload_n 0, 1) := by decide +kernel
theorem dX11_same_1 : decode cX11_same 1 = .ok (.iload_n 1, 1) := by decide +kernel
theorem dX11_same_2 : decode cX11_same 2 = .ok (.invokevirtual 152, 3) := by decide +kernel
theorem dX11_same_5 : decode cX11_same 5 = .ok (.ifCond .eq 11, 3) := by decide +kernel
theorem dX11_same_8 : decode cX11_same 8 = .ok (.aload_n 0, 1) := by decide +kernel
theorem dX11_same_9 : decode cX11_same 9 = .ok (.iload_n 2, 1) := by decide +kernel
theorem dX11_same_10 : decode cX11_same 10 = .ok (.invokevirtual 152, 3) := by decide +kernel
theorem dX11_same_13 : decode cX11_same 13 = .ok (.ifCond .ne 9, 3) := by decide +kernel
theorem dX11_same_16 : decode cX11_same 16 = .ok (.aload_n 0, 1) := by decide +kernel
theorem dX11_same_17 : decode cX11_same 17 = .ok (.iconst 1, 1) := by decide +kernel
theorem dX11_same_18 : decode cX11_same 18 = .ok (.invokevirtual 84, 3) := by decide +kernel
theorem dX11_same_21 : decode cX11_same 21 = .ok (.ireturn, 1) := by decide +kernel
theorem dX11_same_22 : decode cX11_same 22 = .ok (.aload_n 0, 1) := by decide +kernel
theorem dX11_same_23 : decode cX11_same 23 = .ok (.aload_n 0, 1) := by decide +kernel
theorem dX11_same_24 : decode cX11_same 24 = .ok (.getfield 42, 3) := by decide +kernel
theorem dX11_same_27 : decode cX11_same 27 = .ok (.aload_n 0, 1) := by decide +kernel
theorem dX11_same_28 : decode cX11_same 28 = .ok (.getfield 19, 3) := by decide +kernel
theorem dX11_same_31 : decode cX11_same 31 = .ok (.iload_n 1, 1) := by decide +kernel
theorem dX11_same_32 : decode cX11_same 32 = .ok (.aaload, 1) := by decide +kernel
theorem dX11_same_33 : decode cX11_same 33 = .ok (.aload_n 0, 1) := by decide +kernel
theorem dX11_same_34 : decode cX11_same 34 = .ok (.getfield 19, 3) := by decide +kernel
theorem dX11_same_37 : decode cX11_same 37 = .ok (.iload_n 2, 1) := by decide +kernel
theorem dX11_same_38 : decode cX11_same 38 = .ok (.aaload, 1) := by decide +kernel
theorem dX11_same_39 : decode cX11_same 39 = .ok (.bipush 6, 2) := by decide +kernel
theorem dX11_same_41 : decode cX11_same 41 = .ok (.invokevirtual 305, 3) := by decide +kernel
theorem dX11_same_44 : decode cX11_same 44 = .ok (.ifCond .ge 7, 3) := by decide +kernel
theorem dX11_same_47 : decode cX11_same 47 = .ok (.iconst 1, 1) := by decide +kernel
theorem dX11_same_48 : decode cX11_same 48 = .ok (.goto 4, 3) := by decide +kernel
theorem dX11_same_51 : decode cX11_same 51 = .ok (.iconst 0, 1) := by decide +kernel
theorem dX11_same_52 : decode cX11_same 52 = .ok (.invokevirtual 116, 3) := by decide +kernel
theorem dX11_same_55 : decode cX11_same 55 = .ok (.ireturn, 1) := by decide +kernel
theorem dX11_within_0 : decode cX11_within 0 = .ok (.aload_n 0, 1) := by decide +kernel
theorem dX11_within_1 : decode cX11_within 1 = .ok (.iload_n 1, 1) := by decide +kernel
theorem dX11_within_2 : decode cX11_within 2 = .ok (.invokevirtual 152, 3) := by decide +kernel
theorem dX11_within_5 : decode cX11_within 5 = .ok (.ifCond .eq 11, 3) := by decide +kernel
theorem dX11_within_8 : decode cX11_within 8 = .ok (.aload_n 0, 1) := by decide +kernel
theorem dX11_within_9 : decode cX11_within 9 = .ok (.iload_n 2, 1) := by decide +kernel
theorem dX11_within_10 : decode cX11_within 10 = .ok (.invokevirtual 152, 3) := by decide +kernel
theorem dX11_within_13 : decode cX11_within 13 = .ok (.ifCond .ne 9, 3) := by decide +kernel
theorem dX11_within_16 : decode cX11_within 16 = .ok (.aload_n 0, 1) := by decide +kernel
theorem dX11_within_17 : decode cX11_within 17 = .ok (.iconst 1, 1) := by decide +kernel
theorem dX11_within_18 : decode cX11_within 18 = .ok (.invokevirtual 84, 3) := by decide +kernel
theorem dX11_within_21 : decode cX11_within 21 = .ok (.ireturn, 1) := by decide +kernel
theorem dX11_within_22 : decode cX11_within 22 = .ok (.aload_n 0, 1) := by decide +kernel
theorem dX11_within_23 : decode cX11_within 23 = .ok (.aload_n 0, 1) := by decide +kernel
theorem dX11_within_24 : decode cX11_within 24 = .ok (.getfield 42, 3) := by decide +kernel
theorem dX11_within_27 : decode cX11_within 27 = .ok (.aload_n 0, 1) := by decide +kernel
theorem dX11_within_28 : decode cX11_within 28 = .ok (.getfield 19, 3) := by decide +kernel
theorem dX11_within_31 : decode cX11_within 31 = .ok (.iload_n 1, 1) := by decide +kernel
theorem dX11_within_32 : decode cX11_within 32 = .ok (.aaload, 1) := by decide +kernel
theorem dX11_within_33 : decode cX11_within 33 = .ok (.aload_n 0, 1) := by decide +kernel
theorem dX11_within_34 : decode cX11_within 34 = .ok (.getfield 19, 3) := by decide +kernel
theorem dX11_within_37 : decode cX11_within 37 = .ok (.iload_n 2, 1) := by decide +kernel
theorem dX11_within_38 : decode cX11_within 38 = .ok (.aaload, 1) := by decide +kernel
theorem dX11_within_39 : decode cX11_within 39 = .ok (.iconst 2, 1) := by decide +kernel
theorem dX11_within_40 : decode cX11_within 40 = .ok (.invokevirtual 305, 3) := by decide +kernel
theorem dX11_within_43 : decode cX11_within 43 = .ok (.ifCond .ge 7, 3) := by decide +kernel
theorem dX11_within_46 : decode cX11_within 46 = .ok (.iconst 1, 1) := by decide +kernel
theorem dX11_within_47 : decode cX11_within 47 = .ok (.goto 4, 3) := by decide +kernel
theorem dX11_within_50 : decode cX11_within 50 = .ok (.iconst 0, 1) := by decide +kernel
theorem dX11_within_51 : decode cX11_within 51 = .ok (.invokevirtual 116, 3) := by decide +kernel
theorem dX11_within_54 : decode cX11_within 54 = .ok (.ireturn, 1) := by decide +kernel
theorem dX11_sure_0 : decode cX11_sure 0 = .ok (.aload_n 0, 1) := by decide +kernel
theorem dX11_sure_1 : decode cX11_sure 1 = .ok (.iload_n 1, 1) := by decide +kernel
theorem dX11_sure_2 : decode cX11_sure 2 = .ok (.invokevirtual 152, 3) := by decide +kernel
theorem dX11_sure_5 : decode cX11_sure 5 = .ok (.ifCond .ne 9, 3) := by decide +kernel
theorem dX11_sure_8 : decode cX11_sure 8 = .ok (.aload_n 0, 1) := by decide +kernel
theorem dX11_sure_9 : decode cX11_sure 9 = .ok (.iconst 1, 1) := by decide +kernel
theorem dX11_sure_10 : decode cX11_sure 10 = .ok (.invokevirtual 84, 3) := by decide +kernel
theorem dX11_sure_13 : decode cX11_sure 13 = .ok (.ireturn, 1) := by decide +kernel
theorem dX11_sure_14 : decode cX11_sure 14 = .ok (.aload_n 0, 1) := by decide +kernel
theorem dX11_sure_15 : decode cX11_sure 15 = .ok (.getfield 26, 3) := by decide +kernel
theorem dX11_sure_18 : decode cX11_sure 18 = .ok (.aload_n 0, 1) := by decide +kernel
theorem dX11_sure_19 : decode cX11_sure 19 = .ok (.getfield 19, 3) := by decide +kernel
theorem dX11_sure_22 : decode cX11_sure 22 = .ok (.iload_n 1, 1) := by decide +kernel
theorem dX11_sure_23 : decode cX11_sure 23 = .ok (.aaload, 1) := by decide +kernel
theorem dX11_sure_24 : decode cX11_sure 24 = .ok (.invokevirtual 313, 3) := by decide +kernel
theorem dX11_sure_27 : decode cX11_sure 27 = .ok (.aload_n 0, 1) := by decide +kernel
theorem dX11_sure_28 : decode cX11_sure 28 = .ok (.invokevirtual 317, 3) := by decide +kernel
theorem dX11_sure_31 : decode cX11_sure 31 = .ok (.ireturn, 1) := by decide +kernel
theorem dX11_least_0 : decode cX11_least 0 = .ok (.aload_n 0, 1) := by decide +kernel
theorem dX11_least_1 : decode cX11_least 1 = .ok (.iload_n 1, 1) := by decide +kernel
theorem dX11_least_2 : decode cX11_least 2 = .ok (.invokevirtual 152, 3) := by decide +kernel
theorem dX11_least_5 : decode cX11_least 5 = .ok (.ifCond .ne 9, 3) := by decide +kernel
theorem dX11_least_8 : decode cX11_least 8 = .ok (.aload_n 0, 1) := by decide +kernel
theorem dX11_least_9 : decode cX11_least 9 = .ok (.iconst 1, 1) := by decide +kernel
theorem dX11_least_10 : decode cX11_least 10 = .ok (.invokevirtual 84, 3) := by decide +kernel
theorem dX11_least_13 : decode cX11_least 13 = .ok (.ireturn, 1) := by decide +kernel
theorem dX11_least_14 : decode cX11_least 14 = .ok (.aload_n 0, 1) := by decide +kernel
theorem dX11_least_15 : decode cX11_least 15 = .ok (.getfield 26, 3) := by decide +kernel
theorem dX11_least_18 : decode cX11_least 18 = .ok (.aload_n 0, 1) := by decide +kernel
theorem dX11_least_19 : decode cX11_least 19 = .ok (.getfield 19, 3) := by decide +kernel
theorem dX11_least_22 : decode cX11_least 22 = .ok (.iload_n 1, 1) := by decide +kernel
theorem dX11_least_23 : decode cX11_least 23 = .ok (.aaload, 1) := by decide +kernel
theorem dX11_least_24 : decode cX11_least 24 = .ok (.iconst 1, 1) := by decide +kernel
theorem dX11_least_25 : decode cX11_least 25 = .ok (.invokevirtual 320, 3) := by decide +kernel
theorem dX11_least_28 : decode cX11_least 28 = .ok (.aload_n 0, 1) := by decide +kernel
theorem dX11_least_29 : decode cX11_least 29 = .ok (.invokevirtual 317, 3) := by decide +kernel
theorem dX11_least_32 : decode cX11_least 32 = .ok (.ireturn, 1) := by decide +kernel
theorem dX11_other_0 : decode cX11_other 0 = .ok (.aload_n 0, 1) := by decide +kernel
theorem dX11_other_1 : decode cX11_other 1 = .ok (.iload_n 1, 1) := by decide +kernel
theorem dX11_other_2 : decode cX11_other 2 = .ok (.invokevirtual 152, 3) := by decide +kernel
theorem dX11_other_5 : decode cX11_other 5 = .ok (.ifCond .ne 9, 3) := by decide +kernel
theorem dX11_other_8 : decode cX11_other 8 = .ok (.aload_n 0, 1) := by decide +kernel
theorem dX11_other_9 : decode cX11_other 9 = .ok (.iconst 1, 1) := by decide +kernel
theorem dX11_other_10 : decode cX11_other 10 = .ok (.invokevirtual 84, 3) := by decide +kernel
theorem dX11_other_13 : decode cX11_other 13 = .ok (.ireturn, 1) := by decide +kernel
theorem dX11_other_14 : decode cX11_other 14 = .ok (.aload_n 0, 1) := by decide +kernel
theorem dX11_other_15 : decode cX11_other 15 = .ok (.getfield 26, 3) := by decide +kernel
theorem dX11_other_18 : decode cX11_other 18 = .ok (.aload_n 0, 1) := by decide +kernel
theorem dX11_other_19 : decode cX11_other 19 = .ok (.getfield 19, 3) := by decide +kernel
theorem dX11_other_22 : decode cX11_other 22 = .ok (.iload_n 1, 1) := by decide +kernel
theorem dX11_other_23 : decode cX11_other 23 = .ok (.aaload, 1) := by decide +kernel
theorem dX11_other_24 : decode cX11_other 24 = .ok (.iconst 0, 1) := by decide +kernel
theorem dX11_other_25 : decode cX11_other 25 = .ok (.invokevirtual 320, 3) := by decide +kernel
theorem dX11_other_28 : decode cX11_other 28 = .ok (.aload_n 0, 1) := by decide +kernel
theorem dX11_other_29 : decode cX11_other 29 = .ok (.invokevirtual 317, 3) := by decide +kernel
theorem dX11_other_32 : decode cX11_other 32 = .ok (.ireturn, 1) := by decide +kernel
theorem dX11_join_0 : decode cX11_join 0 = .ok (.aload_n 0, 1) := by decide +kernel
theorem dX11_join_1 : decode cX11_join 1 = .ok (.iload_n 1, 1) := by decide +kernel
theorem dX11_join_2 : decode cX11_join 2 = .ok (.iload_n 2, 1) := by decide +kernel
theorem dX11_join_3 : decode cX11_join 3 = .ok (.iload_n 3, 1) := by decide +kernel
theorem dX11_join_4 : decode cX11_join 4 = .ok (.invokevirtual 302, 3) := by decide +kernel
theorem dX11_join_7 : decode cX11_join 7 = .ok (.istore 4, 2) := by decide +kernel
theorem dX11_join_9 : decode cX11_join 9 = .ok (.iload 4, 2) := by decide +kernel
theorem dX11_join_11 : decode cX11_join 11 = .ok (.ifCond .eq 10, 3) := by decide +kernel
theorem dX11_join_14 : decode cX11_join 14 = .ok (.aload_n 0, 1) := by decide +kernel
theorem dX11_join_15 : decode cX11_join 15 = .ok (.iload 4, 2) := by decide +kernel
theorem dX11_join_17 : decode cX11_join 17 = .ok (.invokevirtual 84, 3) := by decide +kernel
theorem dX11_join_20 : decode cX11_join 20 = .ok (.ireturn, 1) := by decide +kernel
theorem dX11_join_21 : decode cX11_join 21 = .ok (.aload_n 0, 1) := by decide +kernel
theorem dX11_join_22 : decode cX11_join 22 = .ok (.getfield 42, 3) := by decide +kernel
theorem dX11_join_25 : decode cX11_join 25 = .ok (.aload_n 0, 1) := by decide +kernel
theorem dX11_join_26 : decode cX11_join 26 = .ok (.getfield 19, 3) := by decide +kernel
theorem dX11_join_29 : decode cX11_join 29 = .ok (.iload_n 1, 1) := by decide +kernel
theorem dX11_join_30 : decode cX11_join 30 = .ok (.aaload, 1) := by decide +kernel
theorem dX11_join_31 : decode cX11_join 31 = .ok (.aload_n 0, 1) := by decide +kernel
theorem dX11_join_32 : decode cX11_join 32 = .ok (.getfield 19, 3) := by decide +kernel
theorem dX11_join_35 : decode cX11_join 35 = .ok (.iload_n 2, 1) := by decide +kernel
theorem dX11_join_36 : decode cX11_join 36 = .ok (.aaload, 1) := by decide +kernel
theorem dX11_join_37 : decode cX11_join 37 = .ok (.iload_n 3, 1) := by decide +kernel
theorem dX11_join_38 : decode cX11_join 38 = .ok (.invokevirtual 324, 3) := by decide +kernel
theorem dX11_join_41 : decode cX11_join 41 = .ok (.ifCond .ne 9, 3) := by decide +kernel
theorem dX11_join_44 : decode cX11_join 44 = .ok (.aload_n 0, 1) := by decide +kernel
theorem dX11_join_45 : decode cX11_join 45 = .ok (.iconst 3, 1) := by decide +kernel
theorem dX11_join_46 : decode cX11_join 46 = .ok (.invokevirtual 84, 3) := by decide +kernel
theorem dX11_join_49 : decode cX11_join 49 = .ok (.ireturn, 1) := by decide +kernel
theorem dX11_join_50 : decode cX11_join 50 = .ok (.aload_n 0, 1) := by decide +kernel
theorem dX11_join_51 : decode cX11_join 51 = .ok (.invokevirtual 317, 3) := by decide +kernel
theorem dX11_join_54 : decode cX11_join 54 = .ok (.ireturn, 1) := by decide +kernel
theorem dX11_behind_0 : decode cX11_behind 0 = .ok (.aload_n 0, 1) := by decide +kernel
theorem dX11_behind_1 : decode cX11_behind 1 = .ok (.iload_n 1, 1) := by decide +kernel
theorem dX11_behind_2 : decode cX11_behind 2 = .ok (.invokevirtual 152, 3) := by decide +kernel
theorem dX11_behind_5 : decode cX11_behind 5 = .ok (.ifCond .eq 11, 3) := by decide +kernel
theorem dX11_behind_8 : decode cX11_behind 8 = .ok (.aload_n 0, 1) := by decide +kernel
theorem dX11_behind_9 : decode cX11_behind 9 = .ok (.iload_n 2, 1) := by decide +kernel
theorem dX11_behind_10 : decode cX11_behind 10 = .ok (.invokevirtual 152, 3) := by decide +kernel
theorem dX11_behind_13 : decode cX11_behind 13 = .ok (.ifCond .ne 9, 3) := by decide +kernel
theorem dX11_behind_16 : decode cX11_behind 16 = .ok (.aload_n 0, 1) := by decide +kernel
theorem dX11_behind_17 : decode cX11_behind 17 = .ok (.iconst 1, 1) := by decide +kernel
theorem dX11_behind_18 : decode cX11_behind 18 = .ok (.invokevirtual 84, 3) := by decide +kernel
theorem dX11_behind_21 : decode cX11_behind 21 = .ok (.ireturn, 1) := by decide +kernel
theorem dX11_behind_22 : decode cX11_behind 22 = .ok (.aload_n 0, 1) := by decide +kernel
theorem dX11_behind_23 : decode cX11_behind 23 = .ok (.getfield 19, 3) := by decide +kernel
theorem dX11_behind_26 : decode cX11_behind 26 = .ok (.iload_n 1, 1) := by decide +kernel
theorem dX11_behind_27 : decode cX11_behind 27 = .ok (.aaload, 1) := by decide +kernel
theorem dX11_behind_28 : decode cX11_behind 28 = .ok (.astore_n 3, 1) := by decide +kernel
theorem dX11_behind_29 : decode cX11_behind 29 = .ok (.aload_n 0, 1) := by decide +kernel
theorem dX11_behind_30 : decode cX11_behind 30 = .ok (.getfield 19, 3) := by decide +kernel
theorem dX11_behind_33 : decode cX11_behind 33 = .ok (.iload_n 2, 1) := by decide +kernel
theorem dX11_behind_34 : decode cX11_behind 34 = .ok (.aaload, 1) := by decide +kernel
theorem dX11_behind_35 : decode cX11_behind 35 = .ok (.astore 4, 2) := by decide +kernel
theorem dX11_behind_37 : decode cX11_behind 37 = .ok (.aload_n 0, 1) := by decide +kernel
theorem dX11_behind_38 : decode cX11_behind 38 = .ok (.getfield 26, 3) := by decide +kernel
theorem dX11_behind_41 : decode cX11_behind 41 = .ok (.aload_n 3, 1) := by decide +kernel
theorem dX11_behind_42 : decode cX11_behind 42 = .ok (.getfield 217, 3) := by decide +kernel
theorem dX11_behind_45 : decode cX11_behind 45 = .ok (.aload 4, 2) := by decide +kernel
theorem dX11_behind_47 : decode cX11_behind 47 = .ok (.getfield 217, 3) := by decide +kernel
theorem dX11_behind_50 : decode cX11_behind 50 = .ok (.iadd, 1) := by decide +kernel
theorem dX11_behind_51 : decode cX11_behind 51 = .ok (.invokevirtual 328, 3) := by decide +kernel
theorem dX11_behind_54 : decode cX11_behind 54 = .ok (.aload_n 0, 1) := by decide +kernel
theorem dX11_behind_55 : decode cX11_behind 55 = .ok (.getfield 26, 3) := by decide +kernel
theorem dX11_behind_58 : decode cX11_behind 58 = .ok (.aload_n 3, 1) := by decide +kernel
theorem dX11_behind_59 : decode cX11_behind 59 = .ok (.iconst 0, 1) := by decide +kernel
theorem dX11_behind_60 : decode cX11_behind 60 = .ok (.invokevirtual 331, 3) := by decide +kernel
theorem dX11_behind_63 : decode cX11_behind 63 = .ok (.aload_n 0, 1) := by decide +kernel
theorem dX11_behind_64 : decode cX11_behind 64 = .ok (.getfield 26, 3) := by decide +kernel
theorem dX11_behind_67 : decode cX11_behind 67 = .ok (.aload 4, 2) := by decide +kernel
theorem dX11_behind_69 : decode cX11_behind 69 = .ok (.iconst 0, 1) := by decide +kernel
theorem dX11_behind_70 : decode cX11_behind 70 = .ok (.invokevirtual 331, 3) := by decide +kernel
theorem dX11_behind_73 : decode cX11_behind 73 = .ok (.aload_n 0, 1) := by decide +kernel
theorem dX11_behind_74 : decode cX11_behind 74 = .ok (.getfield 26, 3) := by decide +kernel
theorem dX11_behind_77 : decode cX11_behind 77 = .ok (.aload_n 3, 1) := by decide +kernel
theorem dX11_behind_78 : decode cX11_behind 78 = .ok (.iconst 0, 1) := by decide +kernel
theorem dX11_behind_79 : decode cX11_behind 79 = .ok (.invokevirtual 334, 3) := by decide +kernel
theorem dX11_behind_82 : decode cX11_behind 82 = .ok (.aload_n 0, 1) := by decide +kernel
theorem dX11_behind_83 : decode cX11_behind 83 = .ok (.getfield 26, 3) := by decide +kernel
theorem dX11_behind_86 : decode cX11_behind 86 = .ok (.aload_n 3, 1) := by decide +kernel
theorem dX11_behind_87 : decode cX11_behind 87 = .ok (.iconst 0, 1) := by decide +kernel
theorem dX11_behind_88 : decode cX11_behind 88 = .ok (.iconst 0, 1) := by decide +kernel
theorem dX11_behind_89 : decode cX11_behind 89 = .ok (.invokevirtual 337, 3) := by decide +kernel
theorem dX11_behind_92 : decode cX11_behind 92 = .ok (.aload_n 0, 1) := by decide +kernel
theorem dX11_behind_93 : decode cX11_behind 93 = .ok (.getfield 26, 3) := by decide +kernel
theorem dX11_behind_96 : decode cX11_behind 96 = .ok (.aload 4, 2) := by decide +kernel
theorem dX11_behind_98 : decode cX11_behind 98 = .ok (.iconst 0, 1) := by decide +kernel
theorem dX11_behind_99 : decode cX11_behind 99 = .ok (.invokevirtual 334, 3) := by decide +kernel
theorem dX11_behind_102 : decode cX11_behind 102 = .ok (.aload_n 0, 1) := by decide +kernel
theorem dX11_behind_103 : decode cX11_behind 103 = .ok (.getfield 26, 3) := by decide +kernel
theorem dX11_behind_106 : decode cX11_behind 106 = .ok (.aload 4, 2) := by decide +kernel
theorem dX11_behind_108 : decode cX11_behind 108 = .ok (.aload_n 3, 1) := by decide +kernel
theorem dX11_behind_109 : decode cX11_behind 109 = .ok (.getfield 217, 3) := by decide +kernel
theorem dX11_behind_112 : decode cX11_behind 112 = .ok (.iconst 0, 1) := by decide +kernel
theorem dX11_behind_113 : decode cX11_behind 113 = .ok (.invokevirtual 337, 3) := by decide +kernel
theorem dX11_behind_116 : decode cX11_behind 116 = .ok (.aload_n 0, 1) := by decide +kernel
theorem dX11_behind_117 : decode cX11_behind 117 = .ok (.getfield 26, 3) := by decide +kernel
theorem dX11_behind_120 : decode cX11_behind 120 = .ok (.aload_n 3, 1) := by decide +kernel
theorem dX11_behind_121 : decode cX11_behind 121 = .ok (.iconst 0, 1) := by decide +kernel
theorem dX11_behind_122 : decode cX11_behind 122 = .ok (.iconst 0, 1) := by decide +kernel
theorem dX11_behind_123 : decode cX11_behind 123 = .ok (.invokevirtual 341, 3) := by decide +kernel
theorem dX11_behind_126 : decode cX11_behind 126 = .ok (.aload_n 0, 1) := by decide +kernel
theorem dX11_behind_127 : decode cX11_behind 127 = .ok (.getfield 26, 3) := by decide +kernel
theorem dX11_behind_130 : decode cX11_behind 130 = .ok (.aload 4, 2) := by decide +kernel
theorem dX11_behind_132 : decode cX11_behind 132 = .ok (.aload_n 3, 1) := by decide +kernel
theorem dX11_behind_133 : decode cX11_behind 133 = .ok (.getfield 217, 3) := by decide +kernel
theorem dX11_behind_136 : decode cX11_behind 136 = .ok (.iconst 0, 1) := by decide +kernel
theorem dX11_behind_137 : decode cX11_behind 137 = .ok (.invokevirtual 341, 3) := by decide +kernel
theorem dX11_behind_140 : decode cX11_behind 140 = .ok (.aload_n 0, 1) := by decide +kernel
theorem dX11_behind_141 : decode cX11_behind 141 = .ok (.getfield 26, 3) := by decide +kernel
theorem dX11_behind_144 : decode cX11_behind 144 = .ok (.aload_n 3, 1) := by decide +kernel
theorem dX11_behind_145 : decode cX11_behind 145 = .ok (.getfield 186, 3) := by decide +kernel
theorem dX11_behind_148 : decode cX11_behind 148 = .ok (.iconst 0, 1) := by decide +kernel
theorem dX11_behind_149 : decode cX11_behind 149 = .ok (.aload_n 3, 1) := by decide +kernel
theorem dX11_behind_150 : decode cX11_behind 150 = .ok (.getfield 217, 3) := by decide +kernel
theorem dX11_behind_153 : decode cX11_behind 153 = .ok (.invokevirtual 344, 3) := by decide +kernel
theorem dX11_behind_156 : decode cX11_behind 156 = .ok (.aload_n 0, 1) := by decide +kernel
theorem dX11_behind_157 : decode cX11_behind 157 = .ok (.getfield 26, 3) := by decide +kernel
theorem dX11_behind_160 : decode cX11_behind 160 = .ok (.aload 4, 2) := by decide +kernel
theorem dX11_behind_162 : decode cX11_behind 162 = .ok (.getfield 186, 3) := by decide +kernel
theorem dX11_behind_165 : decode cX11_behind 165 = .ok (.aload_n 3, 1) := by decide +kernel
theorem dX11_behind_166 : decode cX11_behind 166 = .ok (.getfield 217, 3) := by decide +kernel
theorem dX11_behind_169 : decode cX11_behind 169 = .ok (.lshl, 1) := by decide +kernel
theorem dX11_behind_170 : decode cX11_behind 170 = .ok (.putfield 348, 3) := by decide +kernel
theorem dX11_behind_173 : decode cX11_behind 173 = .ok (.aload_n 0, 1) := by decide +kernel
theorem dX11_behind_174 : decode cX11_behind 174 = .ok (.invokevirtual 317, 3) := by decide +kernel
theorem dX11_behind_177 : decode cX11_behind 177 = .ok (.ireturn, 1) := by decide +kernel
theorem dX11_again_0 : decode cX11_again 0 = .ok (.aload_n 0, 1) := by decide +kernel
theorem dX11_again_1 : decode cX11_again 1 = .ok (.iload_n 1, 1) := by decide +kernel
theorem dX11_again_2 : decode cX11_again 2 = .ok (.invokevirtual 152, 3) := by decide +kernel
theorem dX11_again_5 : decode cX11_again 5 = .ok (.ifCond .ne 9, 3) := by decide +kernel
theorem dX11_again_8 : decode cX11_again 8 = .ok (.aload_n 0, 1) := by decide +kernel
theorem dX11_again_9 : decode cX11_again 9 = .ok (.iconst 1, 1) := by decide +kernel
theorem dX11_again_10 : decode cX11_again 10 = .ok (.invokevirtual 84, 3) := by decide +kernel
theorem dX11_again_13 : decode cX11_again 13 = .ok (.ireturn, 1) := by decide +kernel
theorem dX11_again_14 : decode cX11_again 14 = .ok (.aload_n 0, 1) := by decide +kernel
theorem dX11_again_15 : decode cX11_again 15 = .ok (.getfield 19, 3) := by decide +kernel
theorem dX11_again_18 : decode cX11_again 18 = .ok (.iload_n 1, 1) := by decide +kernel
theorem dX11_again_19 : decode cX11_again 19 = .ok (.aaload, 1) := by decide +kernel
theorem dX11_again_20 : decode cX11_again 20 = .ok (.astore_n 2, 1) := by decide +kernel
theorem dX11_again_21 : decode cX11_again 21 = .ok (.aload_n 0, 1) := by decide +kernel
theorem dX11_again_22 : decode cX11_again 22 = .ok (.getfield 26, 3) := by decide +kernel
theorem dX11_again_25 : decode cX11_again 25 = .ok (.aload_n 2, 1) := by decide +kernel
theorem dX11_again_26 : decode cX11_again 26 = .ok (.getfield 217, 3) := by decide +kernel
theorem dX11_again_29 : decode cX11_again 29 = .ok (.iconst 1, 1) := by decide +kernel
theorem dX11_again_30 : decode cX11_again 30 = .ok (.iadd, 1) := by decide +kernel
theorem dX11_again_31 : decode cX11_again 31 = .ok (.invokevirtual 328, 3) := by decide +kernel
theorem dX11_again_34 : decode cX11_again 34 = .ok (.aload_n 0, 1) := by decide +kernel
theorem dX11_again_35 : decode cX11_again 35 = .ok (.getfield 26, 3) := by decide +kernel
theorem dX11_again_38 : decode cX11_again 38 = .ok (.iconst 0, 1) := by decide +kernel
theorem dX11_again_39 : decode cX11_again 39 = .ok (.iconst 1, 1) := by decide +kernel
theorem dX11_again_40 : decode cX11_again 40 = .ok (.invokevirtual 349, 3) := by decide +kernel
theorem dX11_again_43 : decode cX11_again 43 = .ok (.aload_n 0, 1) := by decide +kernel
theorem dX11_again_44 : decode cX11_again 44 = .ok (.getfield 26, 3) := by decide +kernel
theorem dX11_again_47 : decode cX11_again 47 = .ok (.aload_n 2, 1) := by decide +kernel
theorem dX11_again_48 : decode cX11_again 48 = .ok (.getfield 186, 3) := by decide +kernel
theorem dX11_again_51 : decode cX11_again 51 = .ok (.iconst 1, 1) := by decide +kernel
theorem dX11_again_52 : decode cX11_again 52 = .ok (.iconst 0, 1) := by decide +kernel
theorem dX11_again_53 : decode cX11_again 53 = .ok (.invokevirtual 344, 3) := by decide +kernel
theorem dX11_again_56 : decode cX11_again 56 = .ok (.aload_n 0, 1) := by decide +kernel
theorem dX11_again_57 : decode cX11_again 57 = .ok (.getfield 26, 3) := by decide +kernel
theorem dX11_again_60 : decode cX11_again 60 = .ok (.aload_n 2, 1) := by decide +kernel
theorem dX11_again_61 : decode cX11_again 61 = .ok (.iconst 1, 1) := by decide +kernel
theorem dX11_again_62 : decode cX11_again 62 = .ok (.iconst 0, 1) := by decide +kernel
theorem dX11_again_63 : decode cX11_again 63 = .ok (.invokevirtual 353, 3) := by decide +kernel
theorem dX11_again_66 : decode cX11_again 66 = .ok (.aload_n 0, 1) := by decide +kernel
theorem dX11_again_67 : decode cX11_again 67 = .ok (.getfield 26, 3) := by decide +kernel
theorem dX11_again_70 : decode cX11_again 70 = .ok (.lconst 1, 1) := by decide +kernel
theorem dX11_again_71 : decode cX11_again 71 = .ok (.putfield 348, 3) := by decide +kernel
theorem dX11_again_74 : decode cX11_again 74 = .ok (.aload_n 0, 1) := by decide +kernel
theorem dX11_again_75 : decode cX11_again 75 = .ok (.invokevirtual 317, 3) := by decide +kernel
theorem dX11_again_78 : decode cX11_again 78 = .ok (.ireturn, 1) := by decide +kernel
theorem dX11_backwards_0 : decode cX11_backwards 0 = .ok (.aload_n 0, 1) := by decide +kernel
theorem dX11_backwards_1 : decode cX11_backwards 1 = .ok (.iload_n 1, 1) := by decide +kernel
theorem dX11_backwards_2 : decode cX11_backwards 2 = .ok (.invokevirtual 152, 3) := by decide +kernel
theorem dX11_backwards_5 : decode cX11_backwards 5 = .ok (.ifCond .ne 9, 3) := by decide +kernel
theorem dX11_backwards_8 : decode cX11_backwards 8 = .ok (.aload_n 0, 1) := by decide +kernel
theorem dX11_backwards_9 : decode cX11_backwards 9 = .ok (.iconst 1, 1) := by decide +kernel
theorem dX11_backwards_10 : decode cX11_backwards 10 = .ok (.invokevirtual 84, 3) := by decide +kernel
theorem dX11_backwards_13 : decode cX11_backwards 13 = .ok (.ireturn, 1) := by decide +kernel
theorem dX11_backwards_14 : decode cX11_backwards 14 = .ok (.aload_n 0, 1) := by decide +kernel
theorem dX11_backwards_15 : decode cX11_backwards 15 = .ok (.getfield 19, 3) := by decide +kernel
theorem dX11_backwards_18 : decode cX11_backwards 18 = .ok (.iload_n 1, 1) := by decide +kernel
theorem dX11_backwards_19 : decode cX11_backwards 19 = .ok (.aaload, 1) := by decide +kernel
theorem dX11_backwards_20 : decode cX11_backwards 20 = .ok (.astore_n 2, 1) := by decide +kernel
theorem dX11_backwards_21 : decode cX11_backwards 21 = .ok (.aload_n 0, 1) := by decide +kernel
theorem dX11_backwards_22 : decode cX11_backwards 22 = .ok (.getfield 26, 3) := by decide +kernel
theorem dX11_backwards_25 : decode cX11_backwards 25 = .ok (.aload_n 2, 1) := by decide +kernel
theorem dX11_backwards_26 : decode cX11_backwards 26 = .ok (.getfield 217, 3) := by decide +kernel
theorem dX11_backwards_29 : decode cX11_backwards 29 = .ok (.iconst 1, 1) := by decide +kernel
theorem dX11_backwards_30 : decode cX11_backwards 30 = .ok (.iadd, 1) := by decide +kernel
theorem dX11_backwards_31 : decode cX11_backwards 31 = .ok (.invokevirtual 328, 3) := by decide +kernel
theorem dX11_backwards_34 : decode cX11_backwards 34 = .ok (.aload_n 0, 1) := by decide +kernel
theorem dX11_backwards_35 : decode cX11_backwards 35 = .ok (.getfield 26, 3) := by decide +kernel
theorem dX11_backwards_38 : decode cX11_backwards 38 = .ok (.aload_n 2, 1) := by decide +kernel
theorem dX11_backwards_39 : decode cX11_backwards 39 = .ok (.getfield 186, 3) := by decide +kernel
theorem dX11_backwards_42 : decode cX11_backwards 42 = .ok (.iconst 1, 1) := by decide +kernel
theorem dX11_backwards_43 : decode cX11_backwards 43 = .ok (.invokevirtual 356, 3) := by decide +kernel
theorem dX11_backwards_46 : decode cX11_backwards 46 = .ok (.aload_n 0, 1) := by decide +kernel
theorem dX11_backwards_47 : decode cX11_backwards 47 = .ok (.getfield 26, 3) := by decide +kernel
theorem dX11_backwards_50 : decode cX11_backwards 50 = .ok (.aload_n 2, 1) := by decide +kernel
theorem dX11_backwards_51 : decode cX11_backwards 51 = .ok (.iconst 1, 1) := by decide +kernel
theorem dX11_backwards_52 : decode cX11_backwards 52 = .ok (.iconst 1, 1) := by decide +kernel
theorem dX11_backwards_53 : decode cX11_backwards 53 = .ok (.invokevirtual 353, 3) := by decide +kernel
theorem dX11_backwards_56 : decode cX11_backwards 56 = .ok (.aload_n 0, 1) := by decide +kernel
theorem dX11_backwards_57 : decode cX11_backwards 57 = .ok (.getfield 26, 3) := by decide +kernel
theorem dX11_backwards_60 : decode cX11_backwards 60 = .ok (.ldc2_w 360, 3) := by decide +kernel
theorem dX11_backwards_63 : decode cX11_backwards 63 = .ok (.putfield 348, 3) := by decide +kernel
theorem dX11_backwards_66 : decode cX11_backwards 66 = .ok (.aload_n 0, 1) := by decide +kernel
theorem dX11_backwards_67 : decode cX11_backwards 67 = .ok (.invokevirtual 317, 3) := by decide +kernel
theorem dX11_backwards_70 : decode cX11_backwards 70 = .ok (.ireturn, 1) := by decide +kernel
theorem dX11_only_0 : decode cX11_only 0 = .ok (.aload_n 0, 1) := by decide +kernel
theorem dX11_only_1 : decode cX11_only 1 = .ok (.iload_n 1, 1) := by decide +kernel
theorem dX11_only_2 : decode cX11_only 2 = .ok (.invokevirtual 152, 3) := by decide +kernel
theorem dX11_only_5 : decode cX11_only 5 = .ok (.ifCond .eq 11, 3) := by decide +kernel
theorem dX11_only_8 : decode cX11_only 8 = .ok (.aload_n 0, 1) := by decide +kernel
theorem dX11_only_9 : decode cX11_only 9 = .ok (.iload_n 2, 1) := by decide +kernel
theorem dX11_only_10 : decode cX11_only 10 = .ok (.invokevirtual 122, 3) := by decide +kernel
theorem dX11_only_13 : decode cX11_only 13 = .ok (.ifCond .ne 9, 3) := by decide +kernel
theorem dX11_only_16 : decode cX11_only 16 = .ok (.aload_n 0, 1) := by decide +kernel
theorem dX11_only_17 : decode cX11_only 17 = .ok (.iconst 1, 1) := by decide +kernel
theorem dX11_only_18 : decode cX11_only 18 = .ok (.invokevirtual 84, 3) := by decide +kernel
theorem dX11_only_21 : decode cX11_only 21 = .ok (.ireturn, 1) := by decide +kernel
theorem dX11_only_22 : decode cX11_only 22 = .ok (.aload_n 0, 1) := by decide +kernel
theorem dX11_only_23 : decode cX11_only 23 = .ok (.getfield 19, 3) := by decide +kernel
theorem dX11_only_26 : decode cX11_only 26 = .ok (.iload_n 1, 1) := by decide +kernel
theorem dX11_only_27 : decode cX11_only 27 = .ok (.aaload, 1) := by decide +kernel
theorem dX11_only_28 : decode cX11_only 28 = .ok (.astore_n 3, 1) := by decide +kernel
theorem dX11_only_29 : decode cX11_only 29 = .ok (.aload_n 0, 1) := by decide +kernel
theorem dX11_only_30 : decode cX11_only 30 = .ok (.getfield 26, 3) := by decide +kernel
theorem dX11_only_33 : decode cX11_only 33 = .ok (.aload_n 3, 1) := by decide +kernel
theorem dX11_only_34 : decode cX11_only 34 = .ok (.getfield 217, 3) := by decide +kernel
theorem dX11_only_37 : decode cX11_only 37 = .ok (.invokevirtual 328, 3) := by decide +kernel
theorem dX11_only_40 : decode cX11_only 40 = .ok (.aload_n 0, 1) := by decide +kernel
theorem dX11_only_41 : decode cX11_only 41 = .ok (.getfield 26, 3) := by decide +kernel
theorem dX11_only_44 : decode cX11_only 44 = .ok (.aload_n 3, 1) := by decide +kernel
theorem dX11_only_45 : decode cX11_only 45 = .ok (.iconst 0, 1) := by decide +kernel
theorem dX11_only_46 : decode cX11_only 46 = .ok (.invokevirtual 331, 3) := by decide +kernel
theorem dX11_only_49 : decode cX11_only 49 = .ok (.aload_n 0, 1) := by decide +kernel
theorem dX11_only_50 : decode cX11_only 50 = .ok (.getfield 26, 3) := by decide +kernel
theorem dX11_only_53 : decode cX11_only 53 = .ok (.aload_n 0, 1) := by decide +kernel
theorem dX11_only_54 : decode cX11_only 54 = .ok (.getfield 72, 3) := by decide +kernel
theorem dX11_only_57 : decode cX11_only 57 = .ok (.getfield 126, 3) := by decide +kernel
theorem dX11_only_60 : decode cX11_only 60 = .ok (.iload_n 2, 1) := by decide +kernel
theorem dX11_only_61 : decode cX11_only 61 = .ok (.aaload, 1) := by decide +kernel
theorem dX11_only_62 : decode cX11_only 62 = .ok (.invokevirtual 362, 3) := by decide +kernel
theorem dX11_only_65 : decode cX11_only 65 = .ok (.aload_n 0, 1) := by decide +kernel
theorem dX11_only_66 : decode cX11_only 66 = .ok (.getfield 26, 3) := by decide +kernel
theorem dX11_only_69 : decode cX11_only 69 = .ok (.aload_n 3, 1) := by decide +kernel
theorem dX11_only_70 : decode cX11_only 70 = .ok (.iconst 0, 1) := by decide +kernel
theorem dX11_only_71 : decode cX11_only 71 = .ok (.invokevirtual 334, 3) := by decide +kernel
theorem dX11_only_74 : decode cX11_only 74 = .ok (.aload_n 0, 1) := by decide +kernel
theorem dX11_only_75 : decode cX11_only 75 = .ok (.getfield 26, 3) := by decide +kernel
theorem dX11_only_78 : decode cX11_only 78 = .ok (.aload_n 0, 1) := by decide +kernel
theorem dX11_only_79 : decode cX11_only 79 = .ok (.getfield 72, 3) := by decide +kernel
theorem dX11_only_82 : decode cX11_only 82 = .ok (.getfield 126, 3) := by decide +kernel
theorem dX11_only_85 : decode cX11_only 85 = .ok (.iload_n 2, 1) := by decide +kernel
theorem dX11_only_86 : decode cX11_only 86 = .ok (.aaload, 1) := by decide +kernel
theorem dX11_only_87 : decode cX11_only 87 = .ok (.invokevirtual 366, 3) := by decide +kernel
theorem dX11_only_90 : decode cX11_only 90 = .ok (.aload_n 0, 1) := by decide +kernel
theorem dX11_only_91 : decode cX11_only 91 = .ok (.getfield 26, 3) := by decide +kernel
theorem dX11_only_94 : decode cX11_only 94 = .ok (.aload_n 3, 1) := by decide +kernel
theorem dX11_only_95 : decode cX11_only 95 = .ok (.invokevirtual 369, 3) := by decide +kernel
theorem dX11_only_98 : decode cX11_only 98 = .ok (.aload_n 0, 1) := by decide +kernel
theorem dX11_only_99 : decode cX11_only 99 = .ok (.getfield 26, 3) := by decide +kernel
theorem dX11_only_102 : decode cX11_only 102 = .ok (.aload_n 3, 1) := by decide +kernel
theorem dX11_only_103 : decode cX11_only 103 = .ok (.iconst 0, 1) := by decide +kernel
theorem dX11_only_104 : decode cX11_only 104 = .ok (.iconst 0, 1) := by decide +kernel
theorem dX11_only_105 : decode cX11_only 105 = .ok (.invokevirtual 341, 3) := by decide +kernel
theorem dX11_only_108 : decode cX11_only 108 = .ok (.aload_n 0, 1) := by decide +kernel
theorem dX11_only_109 : decode cX11_only 109 = .ok (.getfield 26, 3) := by decide +kernel
theorem dX11_only_112 : decode cX11_only 112 = .ok (.aload_n 3, 1) := by decide +kernel
theorem dX11_only_113 : decode cX11_only 113 = .ok (.getfield 186, 3) := by decide +kernel
theorem dX11_only_116 : decode cX11_only 116 = .ok (.putfield 348, 3) := by decide +kernel
theorem dX11_only_119 : decode cX11_only 119 = .ok (.aload_n 0, 1) := by decide +kernel
theorem dX11_only_120 : decode cX11_only 120 = .ok (.invokevirtual 317, 3) := by decide +kernel
theorem dX11_only_123 : decode cX11_only 123 = .ok (.ireturn, 1) := by decide +kernel
theorem dX11_moved_0 : decode cX11_moved 0 = .ok (.aload_n 0, 1) := by decide +kernel
theorem dX11_moved_1 : decode cX11_moved 1 = .ok (.iload_n 1, 1) := by decide +kernel
theorem dX11_moved_2 : decode cX11_moved 2 = .ok (.invokevirtual 152, 3) := by decide +kernel
theorem dX11_moved_5 : decode cX11_moved 5 = .ok (.ifCond .ne 9, 3) := by decide +kernel
theorem dX11_moved_8 : decode cX11_moved 8 = .ok (.aload_n 0, 1) := by decide +kernel
theorem dX11_moved_9 : decode cX11_moved 9 = .ok (.iconst 1, 1) := by decide +kernel
theorem dX11_moved_10 : decode cX11_moved 10 = .ok (.invokevirtual 84, 3) := by decide +kernel
theorem dX11_moved_13 : decode cX11_moved 13 = .ok (.ireturn, 1) := by decide +kernel
theorem dX11_moved_14 : decode cX11_moved 14 = .ok (.iload_n 2, 1) := by decide +kernel
theorem dX11_moved_15 : decode cX11_moved 15 = .ok (.ldc_w 372, 3) := by decide +kernel
theorem dX11_moved_18 : decode cX11_moved 18 = .ok (.if_icmp .le 9, 3) := by decide +kernel
theorem dX11_moved_21 : decode cX11_moved 21 = .ok (.iload_n 2, 1) := by decide +kernel
theorem dX11_moved_22 : decode cX11_moved 22 = .ok (.ldc 144, 2) := by decide +kernel
theorem dX11_moved_24 : decode cX11_moved 24 = .ok (.if_icmp .lt 9, 3) := by decide +kernel
theorem dX11_moved_27 : decode cX11_moved 27 = .ok (.aload_n 0, 1) := by decide +kernel
theorem dX11_moved_28 : decode cX11_moved 28 = .ok (.iconst 2, 1) := by decide +kernel
theorem dX11_moved_29 : decode cX11_moved 29 = .ok (.invokevirtual 84, 3) := by decide +kernel
theorem dX11_moved_32 : decode cX11_moved 32 = .ok (.ireturn, 1) := by decide +kernel
theorem dX11_moved_33 : decode cX11_moved 33 = .ok (.aload_n 0, 1) := by decide +kernel
theorem dX11_moved_34 : decode cX11_moved 34 = .ok (.getfield 19, 3) := by decide +kernel
theorem dX11_moved_37 : decode cX11_moved 37 = .ok (.iload_n 1, 1) := by decide +kernel
theorem dX11_moved_38 : decode cX11_moved 38 = .ok (.aaload, 1) := by decide +kernel
theorem dX11_moved_39 : decode cX11_moved 39 = .ok (.astore_n 3, 1) := by decide +kernel
theorem dX11_moved_40 : decode cX11_moved 40 = .ok (.aload_n 0, 1) := by decide +kernel
theorem dX11_moved_41 : decode cX11_moved 41 = .ok (.getfield 26, 3) := by decide +kernel
theorem dX11_moved_44 : decode cX11_moved 44 = .ok (.aload_n 3, 1) := by decide +kernel
theorem dX11_moved_45 : decode cX11_moved 45 = .ok (.getfield 217, 3) := by decide +kernel
theorem dX11_moved_48 : decode cX11_moved 48 = .ok (.invokevirtual 328, 3) := by decide +kernel
theorem dX11_moved_51 : decode cX11_moved 51 = .ok (.aload_n 0, 1) := by decide +kernel
theorem dX11_moved_52 : decode cX11_moved 52 = .ok (.getfield 26, 3) := by decide +kernel
theorem dX11_moved_55 : decode cX11_moved 55 = .ok (.aload_n 3, 1) := by decide +kernel
theorem dX11_moved_56 : decode cX11_moved 56 = .ok (.iload_n 2, 1) := by decide +kernel
theorem dX11_moved_57 : decode cX11_moved 57 = .ok (.invokevirtual 331, 3) := by decide +kernel
theorem dX11_moved_60 : decode cX11_moved 60 = .ok (.aload_n 0, 1) := by decide +kernel
theorem dX11_moved_61 : decode cX11_moved 61 = .ok (.getfield 26, 3) := by decide +kernel
theorem dX11_moved_64 : decode cX11_moved 64 = .ok (.aload_n 3, 1) := by decide +kernel
theorem dX11_moved_65 : decode cX11_moved 65 = .ok (.iload_n 2, 1) := by decide +kernel
theorem dX11_moved_66 : decode cX11_moved 66 = .ok (.invokevirtual 334, 3) := by decide +kernel
theorem dX11_moved_69 : decode cX11_moved 69 = .ok (.aload_n 0, 1) := by decide +kernel
theorem dX11_moved_70 : decode cX11_moved 70 = .ok (.getfield 26, 3) := by decide +kernel
theorem dX11_moved_73 : decode cX11_moved 73 = .ok (.aload_n 3, 1) := by decide +kernel
theorem dX11_moved_74 : decode cX11_moved 74 = .ok (.invokevirtual 369, 3) := by decide +kernel
theorem dX11_moved_77 : decode cX11_moved 77 = .ok (.aload_n 0, 1) := by decide +kernel
theorem dX11_moved_78 : decode cX11_moved 78 = .ok (.getfield 26, 3) := by decide +kernel
theorem dX11_moved_81 : decode cX11_moved 81 = .ok (.aload_n 3, 1) := by decide +kernel
theorem dX11_moved_82 : decode cX11_moved 82 = .ok (.iconst 0, 1) := by decide +kernel
theorem dX11_moved_83 : decode cX11_moved 83 = .ok (.iconst 0, 1) := by decide +kernel
theorem dX11_moved_84 : decode cX11_moved 84 = .ok (.invokevirtual 341, 3) := by decide +kernel
theorem dX11_moved_87 : decode cX11_moved 87 = .ok (.aload_n 0, 1) := by decide +kernel
theorem dX11_moved_88 : decode cX11_moved 88 = .ok (.getfield 26, 3) := by decide +kernel
theorem dX11_moved_91 : decode cX11_moved 91 = .ok (.aload_n 3, 1) := by decide +kernel
theorem dX11_moved_92 : decode cX11_moved 92 = .ok (.getfield 186, 3) := by decide +kernel
theorem dX11_moved_95 : decode cX11_moved 95 = .ok (.putfield 348, 3) := by decide +kernel
theorem dX11_moved_98 : decode cX11_moved 98 = .ok (.aload_n 0, 1) := by decide +kernel
theorem dX11_moved_99 : decode cX11_moved 99 = .ok (.invokevirtual 317, 3) := by decide +kernel
theorem dX11_moved_102 : decode cX11_moved 102 = .ok (.ireturn, 1) := by decide +kernel
theorem dX11_past_0 : decode cX11_past 0 = .ok (.aload_n 0, 1) := by decide +kernel
theorem dX11_past_1 : decode cX11_past 1 = .ok (.iload_n 1, 1) := by decide +kernel
theorem dX11_past_2 : decode cX11_past 2 = .ok (.invokevirtual 152, 3) := by decide +kernel
theorem dX11_past_5 : decode cX11_past 5 = .ok (.ifCond .ne 9, 3) := by decide +kernel
theorem dX11_past_8 : decode cX11_past 8 = .ok (.aload_n 0, 1) := by decide +kernel
theorem dX11_past_9 : decode cX11_past 9 = .ok (.iconst 1, 1) := by decide +kernel
theorem dX11_past_10 : decode cX11_past 10 = .ok (.invokevirtual 84, 3) := by decide +kernel
theorem dX11_past_13 : decode cX11_past 13 = .ok (.ireturn, 1) := by decide +kernel
theorem dX11_past_14 : decode cX11_past 14 = .ok (.iload_n 2, 1) := by decide +kernel
theorem dX11_past_15 : decode cX11_past 15 = .ok (.ldc 144, 2) := by decide +kernel
theorem dX11_past_17 : decode cX11_past 17 = .ok (.invokestatic 133, 3) := by decide +kernel
theorem dX11_past_20 : decode cX11_past 20 = .ok (.ifCond .ne 9, 3) := by decide +kernel
theorem dX11_past_23 : decode cX11_past 23 = .ok (.aload_n 0, 1) := by decide +kernel
theorem dX11_past_24 : decode cX11_past 24 = .ok (.iconst 2, 1) := by decide +kernel
theorem dX11_past_25 : decode cX11_past 25 = .ok (.invokevirtual 84, 3) := by decide +kernel
theorem dX11_past_28 : decode cX11_past 28 = .ok (.ireturn, 1) := by decide +kernel
theorem dX11_past_29 : decode cX11_past 29 = .ok (.aload_n 0, 1) := by decide +kernel
theorem dX11_past_30 : decode cX11_past 30 = .ok (.getfield 19, 3) := by decide +kernel
theorem dX11_past_33 : decode cX11_past 33 = .ok (.iload_n 1, 1) := by decide +kernel
theorem dX11_past_34 : decode cX11_past 34 = .ok (.aaload, 1) := by decide +kernel
theorem dX11_past_35 : decode cX11_past 35 = .ok (.astore_n 3, 1) := by decide +kernel
theorem dX11_past_36 : decode cX11_past 36 = .ok (.aload_n 0, 1) := by decide +kernel
theorem dX11_past_37 : decode cX11_past 37 = .ok (.getfield 26, 3) := by decide +kernel
theorem dX11_past_40 : decode cX11_past 40 = .ok (.aload_n 3, 1) := by decide +kernel
theorem dX11_past_41 : decode cX11_past 41 = .ok (.getfield 217, 3) := by decide +kernel
theorem dX11_past_44 : decode cX11_past 44 = .ok (.iconst 1, 1) := by decide +kernel
theorem dX11_past_45 : decode cX11_past 45 = .ok (.iadd, 1) := by decide +kernel
theorem dX11_past_46 : decode cX11_past 46 = .ok (.invokevirtual 328, 3) := by decide +kernel
theorem dX11_past_49 : decode cX11_past 49 = .ok (.aload_n 0, 1) := by decide +kernel
theorem dX11_past_50 : decode cX11_past 50 = .ok (.getfield 26, 3) := by decide +kernel
theorem dX11_past_53 : decode cX11_past 53 = .ok (.aload_n 3, 1) := by decide +kernel
theorem dX11_past_54 : decode cX11_past 54 = .ok (.getfield 200, 3) := by decide +kernel
theorem dX11_past_57 : decode cX11_past 57 = .ok (.getfield 209, 3) := by decide +kernel
theorem dX11_past_60 : decode cX11_past 60 = .ok (.aload_n 3, 1) := by decide +kernel
theorem dX11_past_61 : decode cX11_past 61 = .ok (.getfield 200, 3) := by decide +kernel
theorem dX11_past_64 : decode cX11_past 64 = .ok (.iconst 0, 1) := by decide +kernel
theorem dX11_past_65 : decode cX11_past 65 = .ok (.aload_n 3, 1) := by decide +kernel
theorem dX11_past_66 : decode cX11_past 66 = .ok (.iload_n 2, 1) := by decide +kernel
theorem dX11_past_67 : decode cX11_past 67 = .ok (.invokevirtual 241, 3) := by decide +kernel
theorem dX11_past_70 : decode cX11_past 70 = .ok (.invokevirtual 373, 3) := by decide +kernel
theorem dX11_past_73 : decode cX11_past 73 = .ok (.laload, 1) := by decide +kernel
theorem dX11_past_74 : decode cX11_past 74 = .ok (.iconst 1, 1) := by decide +kernel
theorem dX11_past_75 : decode cX11_past 75 = .ok (.invokevirtual 356, 3) := by decide +kernel
theorem dX11_past_78 : decode cX11_past 78 = .ok (.aload_n 0, 1) := by decide +kernel
theorem dX11_past_79 : decode cX11_past 79 = .ok (.getfield 26, 3) := by decide +kernel
theorem dX11_past_82 : decode cX11_past 82 = .ok (.aload_n 3, 1) := by decide +kernel
theorem dX11_past_83 : decode cX11_past 83 = .ok (.iconst 1, 1) := by decide +kernel
theorem dX11_past_84 : decode cX11_past 84 = .ok (.iconst 0, 1) := by decide +kernel
theorem dX11_past_85 : decode cX11_past 85 = .ok (.invokevirtual 353, 3) := by decide +kernel
theorem dX11_past_88 : decode cX11_past 88 = .ok (.aload_n 0, 1) := by decide +kernel
theorem dX11_past_89 : decode cX11_past 89 = .ok (.getfield 26, 3) := by decide +kernel
theorem dX11_past_92 : decode cX11_past 92 = .ok (.aload_n 3, 1) := by decide +kernel
theorem dX11_past_93 : decode cX11_past 93 = .ok (.getfield 186, 3) := by decide +kernel
theorem dX11_past_96 : decode cX11_past 96 = .ok (.iconst 1, 1) := by decide +kernel
theorem dX11_past_97 : decode cX11_past 97 = .ok (.lshl, 1) := by decide +kernel
theorem dX11_past_98 : decode cX11_past 98 = .ok (.putfield 348, 3) := by decide +kernel
theorem dX11_past_101 : decode cX11_past 101 = .ok (.aload_n 0, 1) := by decide +kernel
theorem dX11_past_102 : decode cX11_past 102 = .ok (.invokevirtual 317, 3) := by decide +kernel
theorem dX11_past_105 : decode cX11_past 105 = .ok (.ireturn, 1) := by decide +kernel
theorem dX11_drop_0 : decode cX11_drop 0 = .ok (.aload_n 0, 1) := by decide +kernel
theorem dX11_drop_1 : decode cX11_drop 1 = .ok (.getfield 113, 3) := by decide +kernel
theorem dX11_drop_4 : decode cX11_drop 4 = .ok (.aload_n 0, 1) := by decide +kernel
theorem dX11_drop_5 : decode cX11_drop 5 = .ok (.getfield 376, 3) := by decide +kernel
theorem dX11_drop_8 : decode cX11_drop 8 = .ok (.if_icmp .gt 9, 3) := by decide +kernel
theorem dX11_drop_11 : decode cX11_drop 11 = .ok (.aload_n 0, 1) := by decide +kernel
theorem dX11_drop_12 : decode cX11_drop 12 = .ok (.iconst 1, 1) := by decide +kernel
theorem dX11_drop_13 : decode cX11_drop 13 = .ok (.invokevirtual 84, 3) := by decide +kernel
theorem dX11_drop_16 : decode cX11_drop 16 = .ok (.ireturn, 1) := by decide +kernel
theorem dX11_drop_17 : decode cX11_drop 17 = .ok (.aload_n 0, 1) := by decide +kernel
theorem dX11_drop_18 : decode cX11_drop 18 = .ok (.dup, 1) := by decide +kernel
theorem dX11_drop_19 : decode cX11_drop 19 = .ok (.getfield 113, 3) := by decide +kernel
theorem dX11_drop_22 : decode cX11_drop 22 = .ok (.iconst 1, 1) := by decide +kernel
theorem dX11_drop_23 : decode cX11_drop 23 = .ok (.isub, 1) := by decide +kernel
theorem dX11_drop_24 : decode cX11_drop 24 = .ok (.putfield 113, 3) := by decide +kernel
theorem dX11_drop_27 : decode cX11_drop 27 = .ok (.aload_n 0, 1) := by decide +kernel
theorem dX11_drop_28 : decode cX11_drop 28 = .ok (.aload_n 0, 1) := by decide +kernel
theorem dX11_drop_29 : decode cX11_drop 29 = .ok (.getfield 113, 3) := by decide +kernel
theorem dX11_drop_32 : decode cX11_drop 32 = .ok (.invokevirtual 116, 3) := by decide +kernel
theorem dX11_drop_35 : decode cX11_drop 35 = .ok (.ireturn, 1) := by decide +kernel
theorem dX11_twin_0 : decode cX11_twin 0 = .ok (.iconst (-1), 1) := by decide +kernel
theorem dX11_twin_1 : decode cX11_twin 1 = .ok (.istore_n 2, 1) := by decide +kernel
theorem dX11_twin_2 : decode cX11_twin 2 = .ok (.iconst 0, 1) := by decide +kernel
theorem dX11_twin_3 : decode cX11_twin 3 = .ok (.istore_n 3, 1) := by decide +kernel
theorem dX11_twin_4 : decode cX11_twin 4 = .ok (.iload_n 2, 1) := by decide +kernel
theorem dX11_twin_5 : decode cX11_twin 5 = .ok (.iconst (-1), 1) := by decide +kernel
theorem dX11_twin_6 : decode cX11_twin 6 = .ok (.if_icmp .ne 48, 3) := by decide +kernel
theorem dX11_twin_9 : decode cX11_twin 9 = .ok (.aload_n 0, 1) := by decide +kernel
theorem dX11_twin_10 : decode cX11_twin 10 = .ok (.iload_n 1, 1) := by decide +kernel
theorem dX11_twin_11 : decode cX11_twin 11 = .ok (.invokevirtual 152, 3) := by decide +kernel
theorem dX11_twin_14 : decode cX11_twin 14 = .ok (.ifCond .eq 40, 3) := by decide +kernel
theorem dX11_twin_17 : decode cX11_twin 17 = .ok (.iload_n 3, 1) := by decide +kernel
theorem dX11_twin_18 : decode cX11_twin 18 = .ok (.iload_n 1, 1) := by decide +kernel
theorem dX11_twin_19 : decode cX11_twin 19 = .ok (.if_icmp .ge 35, 3) := by decide +kernel
theorem dX11_twin_22 : decode cX11_twin 22 = .ok (.aload_n 0, 1) := by decide +kernel
theorem dX11_twin_23 : decode cX11_twin 23 = .ok (.getfield 42, 3) := by decide +kernel
theorem dX11_twin_26 : decode cX11_twin 26 = .ok (.aload_n 0, 1) := by decide +kernel
theorem dX11_twin_27 : decode cX11_twin 27 = .ok (.getfield 19, 3) := by decide +kernel
theorem dX11_twin_30 : decode cX11_twin 30 = .ok (.iload_n 3, 1) := by decide +kernel
theorem dX11_twin_31 : decode cX11_twin 31 = .ok (.aaload, 1) := by decide +kernel
theorem dX11_twin_32 : decode cX11_twin 32 = .ok (.aload_n 0, 1) := by decide +kernel
theorem dX11_twin_33 : decode cX11_twin 33 = .ok (.getfield 19, 3) := by decide +kernel
theorem dX11_twin_36 : decode cX11_twin 36 = .ok (.iload_n 1, 1) := by decide +kernel
theorem dX11_twin_37 : decode cX11_twin 37 = .ok (.aaload, 1) := by decide +kernel
theorem dX11_twin_38 : decode cX11_twin 38 = .ok (.bipush 6, 2) := by decide +kernel
theorem dX11_twin_40 : decode cX11_twin 40 = .ok (.invokevirtual 305, 3) := by decide +kernel
theorem dX11_twin_43 : decode cX11_twin 43 = .ok (.ifCond .ge 5, 3) := by decide +kernel
theorem dX11_twin_46 : decode cX11_twin 46 = .ok (.iload_n 3, 1) := by decide +kernel
theorem dX11_twin_47 : decode cX11_twin 47 = .ok (.istore_n 2, 1) := by decide +kernel
theorem dX11_twin_48 : decode cX11_twin 48 = .ok (.iinc 3 1, 3) := by decide +kernel
theorem dX11_twin_51 : decode cX11_twin 51 = .ok (.goto (-47), 3) := by decide +kernel
theorem dX11_twin_54 : decode cX11_twin 54 = .ok (.iload_n 2, 1) := by decide +kernel
theorem dX11_twin_55 : decode cX11_twin 55 = .ok (.iconst (-1), 1) := by decide +kernel
theorem dX11_twin_56 : decode cX11_twin 56 = .ok (.if_icmp .ne 11, 3) := by decide +kernel
theorem dX11_twin_59 : decode cX11_twin 59 = .ok (.new 379, 3) := by decide +kernel
theorem dX11_twin_62 : decode cX11_twin 62 = .ok (.dup, 1) := by decide +kernel
theorem dX11_twin_63 : decode cX11_twin 63 = .ok (.invokespecial 381, 3) := by decide +kernel
theorem dX11_twin_66 : decode cX11_twin 66 = .ok (.athrow, 1) := by decide +kernel
theorem dX11_twin_67 : decode cX11_twin 67 = .ok (.iload_n 2, 1) := by decide +kernel
theorem dX11_twin_68 : decode cX11_twin 68 = .ok (.ireturn, 1) := by decide +kernel
theorem dX11_total_0 : decode cX11_total 0 = .ok (.iload_n 1, 1) := by decide +kernel
theorem dX11_total_1 : decode cX11_total 1 = .ok (.tableswitch 63 0 4 #[35, 43, 48, 53, 58], 35) := by decide +kernel
theorem dX11_total_36 : decode cX11_total 36 = .ok (.aload_n 0, 1) := by decide +kernel
theorem dX11_total_37 : decode cX11_total 37 = .ok (.getfield 72, 3) := by decide +kernel
theorem dX11_total_40 : decode cX11_total 40 = .ok (.getfield 382, 3) := by decide +kernel
theorem dX11_total_43 : decode cX11_total 43 = .ok (.ireturn, 1) := by decide +kernel
theorem dX11_total_44 : decode cX11_total 44 = .ok (.aload_n 0, 1) := by decide +kernel
theorem dX11_total_45 : decode cX11_total 45 = .ok (.getfield 376, 3) := by decide +kernel
theorem dX11_total_48 : decode cX11_total 48 = .ok (.ireturn, 1) := by decide +kernel
theorem dX11_total_49 : decode cX11_total 49 = .ok (.aload_n 0, 1) := by decide +kernel
theorem dX11_total_50 : decode cX11_total 50 = .ok (.getfield 113, 3) := by decide +kernel
theorem dX11_total_53 : decode cX11_total 53 = .ok (.ireturn, 1) := by decide +kernel
theorem dX11_total_54 : decode cX11_total 54 = .ok (.aload_n 0, 1) := by decide +kernel
theorem dX11_total_55 : decode cX11_total 55 = .ok (.getfield 271, 3) := by decide +kernel
theorem dX11_total_58 : decode cX11_total 58 = .ok (.ireturn, 1) := by decide +kernel
theorem dX11_total_59 : decode cX11_total 59 = .ok (.aload_n 0, 1) := by decide +kernel
theorem dX11_total_60 : decode cX11_total 60 = .ok (.getfield 77, 3) := by decide +kernel
theorem dX11_total_63 : decode cX11_total 63 = .ok (.ireturn, 1) := by decide +kernel
theorem dX11_total_64 : decode cX11_total 64 = .ok (.iconst (-1), 1) := by decide +kernel
theorem dX11_total_65 : decode cX11_total 65 = .ok (.ireturn, 1) := by decide +kernel
theorem dX11_letter_0 : decode cX11_letter 0 = .ok (.iload_n 1, 1) := by decide +kernel
theorem dX11_letter_1 : decode cX11_letter 1 = .ok (.aload_n 0, 1) := by decide +kernel
theorem dX11_letter_2 : decode cX11_letter 2 = .ok (.getfield 271, 3) := by decide +kernel
theorem dX11_letter_5 : decode cX11_letter 5 = .ok (.invokestatic 133, 3) := by decide +kernel
theorem dX11_letter_8 : decode cX11_letter 8 = .ok (.ifCond .ne 9, 3) := by decide +kernel
theorem dX11_letter_11 : decode cX11_letter 11 = .ok (.aload_n 0, 1) := by decide +kernel
theorem dX11_letter_12 : decode cX11_letter 12 = .ok (.iconst 1, 1) := by decide +kernel
theorem dX11_letter_13 : decode cX11_letter 13 = .ok (.invokevirtual 84, 3) := by decide +kernel
theorem dX11_letter_16 : decode cX11_letter 16 = .ok (.ireturn, 1) := by decide +kernel
theorem dX11_letter_17 : decode cX11_letter 17 = .ok (.aload_n 0, 1) := by decide +kernel
theorem dX11_letter_18 : decode cX11_letter 18 = .ok (.aload_n 0, 1) := by decide +kernel
theorem dX11_letter_19 : decode cX11_letter 19 = .ok (.getfield 13, 3) := by decide +kernel
theorem dX11_letter_22 : decode cX11_letter 22 = .ok (.iload_n 1, 1) := by decide +kernel
theorem dX11_letter_23 : decode cX11_letter 23 = .ok (.iaload, 1) := by decide +kernel
theorem dX11_letter_24 : decode cX11_letter 24 = .ok (.invokevirtual 116, 3) := by decide +kernel
theorem dX11_letter_27 : decode cX11_letter 27 = .ok (.ireturn, 1) := by decide +kernel
theorem dX11_trouble_0 : decode cX11_trouble 0 = .ok (.aload_n 0, 1) := by decide +kernel
theorem dX11_trouble_1 : decode cX11_trouble 1 = .ok (.getfield 119, 3) := by decide +kernel
theorem dX11_trouble_4 : decode cX11_trouble 4 = .ok (.ireturn, 1) := by decide +kernel
theorem dX11_isIn_0 : decode cX11_isIn 0 = .ok (.iload_n 0, 1) := by decide +kernel
theorem dX11_isIn_1 : decode cX11_isIn 1 = .ok (.ifCond .lt 12, 3) := by decide +kernel
theorem dX11_isIn_4 : decode cX11_isIn 4 = .ok (.iload_n 0, 1) := by decide +kernel
theorem dX11_isIn_5 : decode cX11_isIn 5 = .ok (.iload_n 1, 1) := by decide +kernel
theorem dX11_isIn_6 : decode cX11_isIn 6 = .ok (.if_icmp .ge 7, 3) := by decide +kernel
theorem dX11_isIn_9 : decode cX11_isIn 9 = .ok (.iconst 1, 1) := by decide +kernel
theorem dX11_isIn_10 : decode cX11_isIn 10 = .ok (.goto 4, 3) := by decide +kernel
theorem dX11_isIn_13 : decode cX11_isIn 13 = .ok (.iconst 0, 1) := by decide +kernel
theorem dX11_isIn_14 : decode cX11_isIn 14 = .ok (.ireturn, 1) := by decide +kernel
theorem dX11_isTrue_0 : decode cX11_isTrue 0 = .ok (.iload_n 0, 1) := by decide +kernel
theorem dX11_isTrue_1 : decode cX11_isTrue 1 = .ok (.iload_n 1, 1) := by decide +kernel
theorem dX11_isTrue_2 : decode cX11_isTrue 2 = .ok (.ifCond .eq 7, 3) := by decide +kernel
theorem dX11_isTrue_5 : decode cX11_isTrue 5 = .ok (.iconst 1, 1) := by decide +kernel
theorem dX11_isTrue_6 : decode cX11_isTrue 6 = .ok (.goto 4, 3) := by decide +kernel
theorem dX11_isTrue_9 : decode cX11_isTrue 9 = .ok (.iconst 0, 1) := by decide +kernel
theorem dX11_isTrue_10 : decode cX11_isTrue 10 = .ok (.iload_n 2, 1) := by decide +kernel
theorem dX11_isTrue_11 : decode cX11_isTrue 11 = .ok (.ifCond .eq 7, 3) := by decide +kernel
theorem dX11_isTrue_14 : decode cX11_isTrue 14 = .ok (.iconst 2, 1) := by decide +kernel
theorem dX11_isTrue_15 : decode cX11_isTrue 15 = .ok (.goto 4, 3) := by decide +kernel
theorem dX11_isTrue_18 : decode cX11_isTrue 18 = .ok (.iconst 0, 1) := by decide +kernel
theorem dX11_isTrue_19 : decode cX11_isTrue 19 = .ok (.iadd, 1) := by decide +kernel
theorem dX11_isTrue_20 : decode cX11_isTrue 20 = .ok (.ishr, 1) := by decide +kernel
theorem dX11_isTrue_21 : decode cX11_isTrue 21 = .ok (.iconst 1, 1) := by decide +kernel
theorem dX11_isTrue_22 : decode cX11_isTrue 22 = .ok (.iand, 1) := by decide +kernel
theorem dX11_isTrue_23 : decode cX11_isTrue 23 = .ok (.iconst 1, 1) := by decide +kernel
theorem dX11_isTrue_24 : decode cX11_isTrue 24 = .ok (.if_icmp .ne 7, 3) := by decide +kernel
theorem dX11_isTrue_27 : decode cX11_isTrue 27 = .ok (.iconst 1, 1) := by decide +kernel
theorem dX11_isTrue_28 : decode cX11_isTrue 28 = .ok (.goto 4, 3) := by decide +kernel
theorem dX11_isTrue_31 : decode cX11_isTrue 31 = .ok (.iconst 0, 1) := by decide +kernel
theorem dX11_isTrue_32 : decode cX11_isTrue 32 = .ok (.ireturn, 1) := by decide +kernel
theorem dX11_refused_0 : decode cX11_refused 0 = .ok (.aload_n 0, 1) := by decide +kernel
theorem dX11_refused_1 : decode cX11_refused 1 = .ok (.iload_n 1, 1) := by decide +kernel
theorem dX11_refused_2 : decode cX11_refused 2 = .ok (.putfield 119, 3) := by decide +kernel
theorem dX11_refused_5 : decode cX11_refused 5 = .ok (.iconst (-1), 1) := by decide +kernel
theorem dX11_refused_6 : decode cX11_refused 6 = .ok (.ireturn, 1) := by decide +kernel
theorem dX11_granted_0 : decode cX11_granted 0 = .ok (.aload_n 0, 1) := by decide +kernel
theorem dX11_granted_1 : decode cX11_granted 1 = .ok (.iconst 0, 1) := by decide +kernel
theorem dX11_granted_2 : decode cX11_granted 2 = .ok (.putfield 119, 3) := by decide +kernel
theorem dX11_granted_5 : decode cX11_granted 5 = .ok (.iload_n 1, 1) := by decide +kernel
theorem dX11_granted_6 : decode cX11_granted 6 = .ok (.ireturn, 1) := by decide +kernel
theorem dX11_grantedLong_0 : decode cX11_grantedLong 0 = .ok (.aload_n 0, 1) := by decide +kernel
theorem dX11_grantedLong_1 : decode cX11_grantedLong 1 = .ok (.iconst 0, 1) := by decide +kernel
theorem dX11_grantedLong_2 : decode cX11_grantedLong 2 = .ok (.putfield 119, 3) := by decide +kernel
theorem dX11_grantedLong_5 : decode cX11_grantedLong 5 = .ok (.lload_n 1, 1) := by decide +kernel
theorem dX11_grantedLong_6 : decode cX11_grantedLong 6 = .ok (.lreturn, 1) := by decide +kernel
theorem dX11_isSet_0 : decode cX11_isSet 0 = .ok (.iload_n 1, 1) := by decide +kernel
theorem dX11_isSet_1 : decode cX11_isSet 1 = .ok (.aload_n 0, 1) := by decide +kernel
theorem dX11_isSet_2 : decode cX11_isSet 2 = .ok (.getfield 72, 3) := by decide +kernel
theorem dX11_isSet_5 : decode cX11_isSet 5 = .ok (.getfield 382, 3) := by decide +kernel
theorem dX11_isSet_8 : decode cX11_isSet 8 = .ok (.invokestatic 133, 3) := by decide +kernel
theorem dX11_isSet_11 : decode cX11_isSet 11 = .ok (.ireturn, 1) := by decide +kernel
theorem dX11_isMachine_0 : decode cX11_isMachine 0 = .ok (.iload_n 1, 1) := by decide +kernel
theorem dX11_isMachine_1 : decode cX11_isMachine 1 = .ok (.aload_n 0, 1) := by decide +kernel
theorem dX11_isMachine_2 : decode cX11_isMachine 2 = .ok (.getfield 113, 3) := by decide +kernel
theorem dX11_isMachine_5 : decode cX11_isMachine 5 = .ok (.invokestatic 133, 3) := by decide +kernel
theorem dX11_isMachine_8 : decode cX11_isMachine 8 = .ok (.ireturn, 1) := by decide +kernel
theorem dX11_isClass_0 : decode cX11_isClass 0 = .ok (.aload_n 0, 1) := by decide +kernel
theorem dX11_isClass_1 : decode cX11_isClass 1 = .ok (.iload_n 1, 1) := by decide +kernel
theorem dX11_isClass_2 : decode cX11_isClass 2 = .ok (.invokevirtual 152, 3) := by decide +kernel
theorem dX11_isClass_5 : decode cX11_isClass 5 = .ok (.ifCond .eq 26, 3) := by decide +kernel
theorem dX11_isClass_8 : decode cX11_isClass 8 = .ok (.iload_n 2, 1) := by decide +kernel
theorem dX11_isClass_9 : decode cX11_isClass 9 = .ok (.aload_n 0, 1) := by decide +kernel
theorem dX11_isClass_10 : decode cX11_isClass 10 = .ok (.getfield 19, 3) := by decide +kernel
theorem dX11_isClass_13 : decode cX11_isClass 13 = .ok (.iload_n 1, 1) := by decide +kernel
theorem dX11_isClass_14 : decode cX11_isClass 14 = .ok (.aaload, 1) := by decide +kernel
theorem dX11_isClass_15 : decode cX11_isClass 15 = .ok (.getfield 200, 3) := by decide +kernel
theorem dX11_isClass_18 : decode cX11_isClass 18 = .ok (.getfield 385, 3) := by decide +kernel
theorem dX11_isClass_21 : decode cX11_isClass 21 = .ok (.invokestatic 133, 3) := by decide +kernel
theorem dX11_isClass_24 : decode cX11_isClass 24 = .ok (.ifCond .eq 7, 3) := by decide +kernel
theorem dX11_isClass_27 : decode cX11_isClass 27 = .ok (.iconst 1, 1) := by decide +kernel
theorem dX11_isClass_28 : decode cX11_isClass 28 = .ok (.goto 4, 3) := by decide +kernel
theorem dX11_isClass_31 : decode cX11_isClass 31 = .ok (.iconst 0, 1) := by decide +kernel
theorem dX11_isClass_32 : decode cX11_isClass 32 = .ok (.ireturn, 1) := by decide +kernel
theorem dX11_putFour_0 : decode cX11_putFour 0 = .ok (.bipush 24, 2) := by decide +kernel
theorem dX11_putFour_2 : decode cX11_putFour 2 = .ok (.istore_n 2, 1) := by decide +kernel
theorem dX11_putFour_3 : decode cX11_putFour 3 = .ok (.iload_n 2, 1) := by decide +kernel
theorem dX11_putFour_4 : decode cX11_putFour 4 = .ok (.ifCond .lt 42, 3) := by decide +kernel
theorem dX11_putFour_7 : decode cX11_putFour 7 = .ok (.aload_n 0, 1) := by decide +kernel
theorem dX11_putFour_8 : decode cX11_putFour 8 = .ok (.getfield 77, 3) := by decide +kernel
theorem dX11_putFour_11 : decode cX11_putFour 11 = .ok (.sipush 900, 3) := by decide +kernel
theorem dX11_putFour_14 : decode cX11_putFour 14 = .ok (.if_icmp .ge 32, 3) := by decide +kernel
theorem dX11_putFour_17 : decode cX11_putFour 17 = .ok (.aload_n 0, 1) := by decide +kernel
theorem dX11_putFour_18 : decode cX11_putFour 18 = .ok (.getfield 9, 3) := by decide +kernel
theorem dX11_putFour_21 : decode cX11_putFour 21 = .ok (.aload_n 0, 1) := by decide +kernel
theorem dX11_putFour_22 : decode cX11_putFour 22 = .ok (.getfield 77, 3) := by decide +kernel
theorem dX11_putFour_25 : decode cX11_putFour 25 = .ok (.iload_n 1, 1) := by decide +kernel
theorem dX11_putFour_26 : decode cX11_putFour 26 = .ok (.iload_n 2, 1) := by decide +kernel
theorem dX11_putFour_27 : decode cX11_putFour 27 = .ok (.iushr, 1) := by decide +kernel
theorem dX11_putFour_28 : decode cX11_putFour 28 = .ok (.i2b, 1) := by decide +kernel
theorem dX11_putFour_29 : decode cX11_putFour 29 = .ok (.bastore, 1) := by decide +kernel
theorem dX11_putFour_30 : decode cX11_putFour 30 = .ok (.aload_n 0, 1) := by decide +kernel
theorem dX11_putFour_31 : decode cX11_putFour 31 = .ok (.dup, 1) := by decide +kernel
theorem dX11_putFour_32 : decode cX11_putFour 32 = .ok (.getfield 77, 3) := by decide +kernel
theorem dX11_putFour_35 : decode cX11_putFour 35 = .ok (.iconst 1, 1) := by decide +kernel
theorem dX11_putFour_36 : decode cX11_putFour 36 = .ok (.iadd, 1) := by decide +kernel
theorem dX11_putFour_37 : decode cX11_putFour 37 = .ok (.putfield 77, 3) := by decide +kernel
theorem dX11_putFour_40 : decode cX11_putFour 40 = .ok (.iinc 2 (-8), 3) := by decide +kernel
theorem dX11_putFour_43 : decode cX11_putFour 43 = .ok (.goto (-40), 3) := by decide +kernel
theorem dX11_putFour_46 : decode cX11_putFour 46 = .ok (.return_, 1) := by decide +kernel
theorem dX11_takeBench_0 : decode cX11_takeBench 0 = .ok (.aload_n 0, 1) := by decide +kernel
theorem dX11_takeBench_1 : decode cX11_takeBench 1 = .ok (.getfield 72, 3) := by decide +kernel
theorem dX11_takeBench_4 : decode cX11_takeBench 4 = .ok (.astore_n 1, 1) := by decide +kernel
theorem dX11_takeBench_5 : decode cX11_takeBench 5 = .ok (.aload_n 0, 1) := by decide +kernel
theorem dX11_takeBench_6 : decode cX11_takeBench 6 = .ok (.aload_n 0, 1) := by decide +kernel
theorem dX11_takeBench_7 : decode cX11_takeBench 7 = .ok (.getfield 35, 3) := by decide +kernel
theorem dX11_takeBench_10 : decode cX11_takeBench 10 = .ok (.getfield 388, 3) := by decide +kernel
theorem dX11_takeBench_13 : decode cX11_takeBench 13 = .ok (.putfield 72, 3) := by decide +kernel
theorem dX11_takeBench_16 : decode cX11_takeBench 16 = .ok (.aload_n 0, 1) := by decide +kernel
theorem dX11_takeBench_17 : decode cX11_takeBench 17 = .ok (.getfield 35, 3) := by decide +kernel
theorem dX11_takeBench_20 : decode cX11_takeBench 20 = .ok (.aload_n 1, 1) := by decide +kernel
theorem dX11_takeBench_21 : decode cX11_takeBench 21 = .ok (.putfield 388, 3) := by decide +kernel
theorem dX11_takeBench_24 : decode cX11_takeBench 24 = .ok (.aload_n 0, 1) := by decide +kernel
theorem dX11_takeBench_25 : decode cX11_takeBench 25 = .ok (.aload_n 0, 1) := by decide +kernel
theorem dX11_takeBench_26 : decode cX11_takeBench 26 = .ok (.getfield 35, 3) := by decide +kernel
theorem dX11_takeBench_29 : decode cX11_takeBench 29 = .ok (.getfield 389, 3) := by decide +kernel
theorem dX11_takeBench_32 : decode cX11_takeBench 32 = .ok (.putfield 376, 3) := by decide +kernel
theorem dX11_takeBench_35 : decode cX11_takeBench 35 = .ok (.aload_n 0, 1) := by decide +kernel
theorem dX11_takeBench_36 : decode cX11_takeBench 36 = .ok (.aload_n 0, 1) := by decide +kernel
theorem dX11_takeBench_37 : decode cX11_takeBench 37 = .ok (.getfield 376, 3) := by decide +kernel
theorem dX11_takeBench_40 : decode cX11_takeBench 40 = .ok (.putfield 113, 3) := by decide +kernel
theorem dX11_takeBench_43 : decode cX11_takeBench 43 = .ok (.iconst 0, 1) := by decide +kernel
theorem dX11_takeBench_44 : decode cX11_takeBench 44 = .ok (.istore_n 2, 1) := by decide +kernel
theorem dX11_takeBench_45 : decode cX11_takeBench 45 = .ok (.iload_n 2, 1) := by decide +kernel
theorem dX11_takeBench_46 : decode cX11_takeBench 46 = .ok (.aload_n 0, 1) := by decide +kernel
theorem dX11_takeBench_47 : decode cX11_takeBench 47 = .ok (.getfield 376, 3) := by decide +kernel
theorem dX11_takeBench_50 : decode cX11_takeBench 50 = .ok (.if_icmp .ge 46, 3) := by decide +kernel
theorem dX11_takeBench_53 : decode cX11_takeBench 53 = .ok (.iload_n 2, 1) := by decide +kernel
theorem dX11_takeBench_54 : decode cX11_takeBench 54 = .ok (.iconst 4, 1) := by decide +kernel
theorem dX11_takeBench_55 : decode cX11_takeBench 55 = .ok (.if_icmp .ge 41, 3) := by decide +kernel
theorem dX11_takeBench_58 : decode cX11_takeBench 58 = .ok (.aload_n 0, 1) := by decide +kernel
theorem dX11_takeBench_59 : decode cX11_takeBench 59 = .ok (.getfield 19, 3) := by decide +kernel
theorem dX11_takeBench_62 : decode cX11_takeBench 62 = .ok (.iload_n 2, 1) := by decide +kernel
theorem dX11_takeBench_63 : decode cX11_takeBench 63 = .ok (.aaload, 1) := by decide +kernel
theorem dX11_takeBench_64 : decode cX11_takeBench 64 = .ok (.astore_n 3, 1) := by decide +kernel
theorem dX11_takeBench_65 : decode cX11_takeBench 65 = .ok (.aload_n 0, 1) := by decide +kernel
theorem dX11_takeBench_66 : decode cX11_takeBench 66 = .ok (.getfield 19, 3) := by decide +kernel
theorem dX11_takeBench_69 : decode cX11_takeBench 69 = .ok (.iload_n 2, 1) := by decide +kernel
theorem dX11_takeBench_70 : decode cX11_takeBench 70 = .ok (.aload_n 0, 1) := by decide +kernel
theorem dX11_takeBench_71 : decode cX11_takeBench 71 = .ok (.getfield 35, 3) := by decide +kernel
theorem dX11_takeBench_74 : decode cX11_takeBench 74 = .ok (.getfield 392, 3) := by decide +kernel
theorem dX11_takeBench_77 : decode cX11_takeBench 77 = .ok (.iload_n 2, 1) := by decide +kernel
theorem dX11_takeBench_78 : decode cX11_takeBench 78 = .ok (.aaload, 1) := by decide +kernel
theorem dX11_takeBench_79 : decode cX11_takeBench 79 = .ok (.aastore, 1) := by decide +kernel
theorem dX11_takeBench_80 : decode cX11_takeBench 80 = .ok (.aload_n 0, 1) := by decide +kernel
theorem dX11_takeBench_81 : decode cX11_takeBench 81 = .ok (.getfield 35, 3) := by decide +kernel
theorem dX11_takeBench_84 : decode cX11_takeBench 84 = .ok (.getfield 392, 3) := by decide +kernel
theorem dX11_takeBench_87 : decode cX11_takeBench 87 = .ok (.iload_n 2, 1) := by decide +kernel
theorem dX11_takeBench_88 : decode cX11_takeBench 88 = .ok (.aload_n 3, 1) := by decide +kernel
theorem dX11_takeBench_89 : decode cX11_takeBench 89 = .ok (.aastore, 1) := by decide +kernel
theorem dX11_takeBench_90 : decode cX11_takeBench 90 = .ok (.iinc 2 1, 3) := by decide +kernel
theorem dX11_takeBench_93 : decode cX11_takeBench 93 = .ok (.goto (-48), 3) := by decide +kernel
theorem dX11_takeBench_96 : decode cX11_takeBench 96 = .ok (.return_, 1) := by decide +kernel
theorem dX11_mix_0 : decode cX11_mix 0 = .ok (.aload_n 0, 1) := by decide +kernel
theorem dX11_mix_1 : decode cX11_mix 1 = .ok (.iload_n 1, 1) := by decide +kernel
theorem dX11_mix_2 : decode cX11_mix 2 = .ok (.invokevirtual 122, 3) := by decide +kernel
theorem dX11_mix_5 : decode cX11_mix 5 = .ok (.ifCond .eq 11, 3) := by decide +kernel
theorem dX11_mix_8 : decode cX11_mix 8 = .ok (.aload_n 0, 1) := by decide +kernel
theorem dX11_mix_9 : decode cX11_mix 9 = .ok (.iload_n 2, 1) := by decide +kernel
theorem dX11_mix_10 : decode cX11_mix 10 = .ok (.invokevirtual 122, 3) := by decide +kernel
theorem dX11_mix_13 : decode cX11_mix 13 = .ok (.ifCond .ne 5, 3) := by decide +kernel
theorem dX11_mix_16 : decode cX11_mix 16 = .ok (.iconst 1, 1) := by decide +kernel
theorem dX11_mix_17 : decode cX11_mix 17 = .ok (.ireturn, 1) := by decide +kernel
theorem dX11_mix_18 : decode cX11_mix 18 = .ok (.iload_n 3, 1) := by decide +kernel
theorem dX11_mix_19 : decode cX11_mix 19 = .ok (.bipush 16, 2) := by decide +kernel
theorem dX11_mix_21 : decode cX11_mix 21 = .ok (.invokestatic 133, 3) := by decide +kernel
theorem dX11_mix_24 : decode cX11_mix 24 = .ok (.ifCond .ne 5, 3) := by decide +kernel
theorem dX11_mix_27 : decode cX11_mix 27 = .ok (.iconst 2, 1) := by decide +kernel
theorem dX11_mix_28 : decode cX11_mix 28 = .ok (.ireturn, 1) := by decide +kernel
theorem dX11_mix_29 : decode cX11_mix 29 = .ok (.aload_n 0, 1) := by decide +kernel
theorem dX11_mix_30 : decode cX11_mix 30 = .ok (.getfield 65, 3) := by decide +kernel
theorem dX11_mix_33 : decode cX11_mix 33 = .ok (.aload_n 0, 1) := by decide +kernel
theorem dX11_mix_34 : decode cX11_mix 34 = .ok (.getfield 72, 3) := by decide +kernel
theorem dX11_mix_37 : decode cX11_mix 37 = .ok (.getfield 126, 3) := by decide +kernel
theorem dX11_mix_40 : decode cX11_mix 40 = .ok (.iload_n 1, 1) := by decide +kernel
theorem dX11_mix_41 : decode cX11_mix 41 = .ok (.aaload, 1) := by decide +kernel
theorem dX11_mix_42 : decode cX11_mix 42 = .ok (.aload_n 0, 1) := by decide +kernel
theorem dX11_mix_43 : decode cX11_mix 43 = .ok (.getfield 72, 3) := by decide +kernel
theorem dX11_mix_46 : decode cX11_mix 46 = .ok (.getfield 126, 3) := by decide +kernel
theorem dX11_mix_49 : decode cX11_mix 49 = .ok (.iload_n 2, 1) := by decide +kernel
theorem dX11_mix_50 : decode cX11_mix 50 = .ok (.aaload, 1) := by decide +kernel
theorem dX11_mix_51 : decode cX11_mix 51 = .ok (.iload_n 3, 1) := by decide +kernel
theorem dX11_mix_52 : decode cX11_mix 52 = .ok (.invokevirtual 393, 3) := by decide +kernel
theorem dX11_mix_55 : decode cX11_mix 55 = .ok (.iconst 0, 1) := by decide +kernel
theorem dX11_mix_56 : decode cX11_mix 56 = .ok (.ireturn, 1) := by decide +kernel
theorem dX11_whyNoPair_0 : decode cX11_whyNoPair 0 = .ok (.aload_n 0, 1) := by decide +kernel
theorem dX11_whyNoPair_1 : decode cX11_whyNoPair 1 = .ok (.iload_n 1, 1) := by decide +kernel
theorem dX11_whyNoPair_2 : decode cX11_whyNoPair 2 = .ok (.invokevirtual 152, 3) := by decide +kernel
theorem dX11_whyNoPair_5 : decode cX11_whyNoPair 5 = .ok (.ifCond .eq 11, 3) := by decide +kernel
theorem dX11_whyNoPair_8 : decode cX11_whyNoPair 8 = .ok (.aload_n 0, 1) := by decide +kernel
theorem dX11_whyNoPair_9 : decode cX11_whyNoPair 9 = .ok (.iload_n 2, 1) := by decide +kernel
theorem dX11_whyNoPair_10 : decode cX11_whyNoPair 10 = .ok (.invokevirtual 152, 3) := by decide +kernel
theorem dX11_whyNoPair_13 : decode cX11_whyNoPair 13 = .ok (.ifCond .ne 5, 3) := by decide +kernel
theorem dX11_whyNoPair_16 : decode cX11_whyNoPair 16 = .ok (.iconst 1, 1) := by decide +kernel
theorem dX11_whyNoPair_17 : decode cX11_whyNoPair 17 = .ok (.ireturn, 1) := by decide +kernel
theorem dX11_whyNoPair_18 : decode cX11_whyNoPair 18 = .ok (.iload_n 3, 1) := by decide +kernel
theorem dX11_whyNoPair_19 : decode cX11_whyNoPair 19 = .ok (.bipush 16, 2) := by decide +kernel
theorem dX11_whyNoPair_21 : decode cX11_whyNoPair 21 = .ok (.invokestatic 133, 3) := by decide +kernel
theorem dX11_whyNoPair_24 : decode cX11_whyNoPair 24 = .ok (.ifCond .eq 7, 3) := by decide +kernel
theorem dX11_whyNoPair_27 : decode cX11_whyNoPair 27 = .ok (.iconst 0, 1) := by decide +kernel
theorem dX11_whyNoPair_28 : decode cX11_whyNoPair 28 = .ok (.goto 4, 3) := by decide +kernel
theorem dX11_whyNoPair_31 : decode cX11_whyNoPair 31 = .ok (.iconst 2, 1) := by decide +kernel
theorem dX11_whyNoPair_32 : decode cX11_whyNoPair 32 = .ok (.ireturn, 1) := by decide +kernel
theorem dX11_sheafOfWord_0 : decode cX11_sheafOfWord 0 = .ok (.iconst 0, 1) := by decide +kernel
theorem dX11_sheafOfWord_1 : decode cX11_sheafOfWord 1 = .ok (.istore_n 2, 1) := by decide +kernel
theorem dX11_sheafOfWord_2 : decode cX11_sheafOfWord 2 = .ok (.iconst 0, 1) := by decide +kernel
theorem dX11_sheafOfWord_3 : decode cX11_sheafOfWord 3 = .ok (.istore_n 3, 1) := by decide +kernel
theorem dX11_sheafOfWord_4 : decode cX11_sheafOfWord 4 = .ok (.iload_n 3, 1) := by decide +kernel
theorem dX11_sheafOfWord_5 : decode cX11_sheafOfWord 5 = .ok (.aload_n 0, 1) := by decide +kernel
theorem dX11_sheafOfWord_6 : decode cX11_sheafOfWord 6 = .ok (.getfield 271, 3) := by decide +kernel
theorem dX11_sheafOfWord_9 : decode cX11_sheafOfWord 9 = .ok (.if_icmp .ge 34, 3) := by decide +kernel
theorem dX11_sheafOfWord_12 : decode cX11_sheafOfWord 12 = .ok (.iload_n 3, 1) := by decide +kernel
theorem dX11_sheafOfWord_13 : decode cX11_sheafOfWord 13 = .ok (.bipush 16, 2) := by decide +kernel
theorem dX11_sheafOfWord_15 : decode cX11_sheafOfWord 15 = .ok (.if_icmp .ge 28, 3) := by decide +kernel
theorem dX11_sheafOfWord_18 : decode cX11_sheafOfWord 18 = .ok (.aload_n 1, 1) := by decide +kernel
theorem dX11_sheafOfWord_19 : decode cX11_sheafOfWord 19 = .ok (.getfield 200, 3) := by decide +kernel
theorem dX11_sheafOfWord_22 : decode cX11_sheafOfWord 22 = .ok (.iload_n 2, 1) := by decide +kernel
theorem dX11_sheafOfWord_23 : decode cX11_sheafOfWord 23 = .ok (.aload_n 1, 1) := by decide +kernel
theorem dX11_sheafOfWord_24 : decode cX11_sheafOfWord 24 = .ok (.aload_n 0, 1) := by decide +kernel
theorem dX11_sheafOfWord_25 : decode cX11_sheafOfWord 25 = .ok (.getfield 13, 3) := by decide +kernel
theorem dX11_sheafOfWord_28 : decode cX11_sheafOfWord 28 = .ok (.iload_n 3, 1) := by decide +kernel
theorem dX11_sheafOfWord_29 : decode cX11_sheafOfWord 29 = .ok (.iaload, 1) := by decide +kernel
theorem dX11_sheafOfWord_30 : decode cX11_sheafOfWord 30 = .ok (.invokevirtual 241, 3) := by decide +kernel
theorem dX11_sheafOfWord_33 : decode cX11_sheafOfWord 33 = .ok (.invokevirtual 373, 3) := by decide +kernel
theorem dX11_sheafOfWord_36 : decode cX11_sheafOfWord 36 = .ok (.istore_n 2, 1) := by decide +kernel
theorem dX11_sheafOfWord_37 : decode cX11_sheafOfWord 37 = .ok (.iinc 3 1, 3) := by decide +kernel
theorem dX11_sheafOfWord_40 : decode cX11_sheafOfWord 40 = .ok (.goto (-36), 3) := by decide +kernel
theorem dX11_sheafOfWord_43 : decode cX11_sheafOfWord 43 = .ok (.iload_n 2, 1) := by decide +kernel
theorem dX11_sheafOfWord_44 : decode cX11_sheafOfWord 44 = .ok (.ireturn, 1) := by decide +kernel
theorem dX11_keepDraft_0 : decode cX11_keepDraft 0 = .ok (.aload_n 0, 1) := by decide +kernel
theorem dX11_keepDraft_1 : decode cX11_keepDraft 1 = .ok (.getfield 113, 3) := by decide +kernel
theorem dX11_keepDraft_4 : decode cX11_keepDraft 4 = .ok (.bipush 10, 2) := by decide +kernel
theorem dX11_keepDraft_6 : decode cX11_keepDraft 6 = .ok (.if_icmp .ge 22, 3) := by decide +kernel
theorem dX11_keepDraft_9 : decode cX11_keepDraft 9 = .ok (.aload_n 0, 1) := by decide +kernel
theorem dX11_keepDraft_10 : decode cX11_keepDraft 10 = .ok (.getfield 19, 3) := by decide +kernel
theorem dX11_keepDraft_13 : decode cX11_keepDraft 13 = .ok (.aload_n 0, 1) := by decide +kernel
theorem dX11_keepDraft_14 : decode cX11_keepDraft 14 = .ok (.getfield 113, 3) := by decide +kernel
theorem dX11_keepDraft_17 : decode cX11_keepDraft 17 = .ok (.aaload, 1) := by decide +kernel
theorem dX11_keepDraft_18 : decode cX11_keepDraft 18 = .ok (.aload_n 0, 1) := by decide +kernel
theorem dX11_keepDraft_19 : decode cX11_keepDraft 19 = .ok (.getfield 26, 3) := by decide +kernel
theorem dX11_keepDraft_22 : decode cX11_keepDraft 22 = .ok (.invokevirtual 397, 3) := by decide +kernel
theorem dX11_keepDraft_25 : decode cX11_keepDraft 25 = .ok (.ifCond .ne 9, 3) := by decide +kernel
theorem dX11_keepDraft_28 : decode cX11_keepDraft 28 = .ok (.aload_n 0, 1) := by decide +kernel
theorem dX11_keepDraft_29 : decode cX11_keepDraft 29 = .ok (.iconst 3, 1) := by decide +kernel
theorem dX11_keepDraft_30 : decode cX11_keepDraft 30 = .ok (.invokevirtual 84, 3) := by decide +kernel
theorem dX11_keepDraft_33 : decode cX11_keepDraft 33 = .ok (.ireturn, 1) := by decide +kernel
theorem dX11_keepDraft_34 : decode cX11_keepDraft 34 = .ok (.aload_n 0, 1) := by decide +kernel
theorem dX11_keepDraft_35 : decode cX11_keepDraft 35 = .ok (.dup, 1) := by decide +kernel
theorem dX11_keepDraft_36 : decode cX11_keepDraft 36 = .ok (.getfield 113, 3) := by decide +kernel
theorem dX11_keepDraft_39 : decode cX11_keepDraft 39 = .ok (.iconst 1, 1) := by decide +kernel
theorem dX11_keepDraft_40 : decode cX11_keepDraft 40 = .ok (.iadd, 1) := by decide +kernel
theorem dX11_keepDraft_41 : decode cX11_keepDraft 41 = .ok (.putfield 113, 3) := by decide +kernel
theorem dX11_keepDraft_44 : decode cX11_keepDraft 44 = .ok (.aload_n 0, 1) := by decide +kernel
theorem dX11_keepDraft_45 : decode cX11_keepDraft 45 = .ok (.aload_n 0, 1) := by decide +kernel
theorem dX11_keepDraft_46 : decode cX11_keepDraft 46 = .ok (.getfield 113, 3) := by decide +kernel
theorem dX11_keepDraft_49 : decode cX11_keepDraft 49 = .ok (.iconst 1, 1) := by decide +kernel
theorem dX11_keepDraft_50 : decode cX11_keepDraft 50 = .ok (.isub, 1) := by decide +kernel
theorem dX11_keepDraft_51 : decode cX11_keepDraft 51 = .ok (.invokevirtual 116, 3) := by decide +kernel
theorem dX11_keepDraft_54 : decode cX11_keepDraft 54 = .ok (.ireturn, 1) := by decide +kernel
