theorem dX8_isSheet_6 : decode cX8_isSheet 6 = .ok (.ireturn, 1) := by decide +kernel
theorem dX8_isLane_0 : decode cX8_isLane 0 = .ok (.iload_n 0, 1) := by decide +kernel
theorem dX8_isLane_1 : decode cX8_isLane 1 = .ok (.iconst 0, 1) := by decide +kernel
theorem dX8_isLane_2 : decode cX8_isLane 2 = .ok (.iconst 2, 1) := by decide +kernel
theorem dX8_isLane_3 : decode cX8_isLane 3 = .ok (.invokestatic 70, 3) := by decide +kernel
theorem dX8_isLane_6 : decode cX8_isLane 6 = .ok (.ireturn, 1) := by decide +kernel
theorem dX8_span_0 : decode cX8_span 0 = .ok (.ldc2_w 249, 3) := by decide +kernel
theorem dX8_span_3 : decode cX8_span 3 = .ok (.iload_n 0, 1) := by decide +kernel
theorem dX8_span_4 : decode cX8_span 4 = .ok (.lshl, 1) := by decide +kernel
theorem dX8_span_5 : decode cX8_span 5 = .ok (.ldc2_w 249, 3) := by decide +kernel
theorem dX8_span_8 : decode cX8_span 8 = .ok (.bipush 59, 2) := by decide +kernel
theorem dX8_span_10 : decode cX8_span 10 = .ok (.iload_n 1, 1) := by decide +kernel
theorem dX8_span_11 : decode cX8_span 11 = .ok (.isub, 1) := by decide +kernel
theorem dX8_span_12 : decode cX8_span 12 = .ok (.lushr, 1) := by decide +kernel
theorem dX8_span_13 : decode cX8_span 13 = .ok (.land, 1) := by decide +kernel
theorem dX8_span_14 : decode cX8_span 14 = .ok (.lreturn, 1) := by decide +kernel
theorem dX8_repeated_0 : decode cX8_repeated 0 = .ok (.iload_n 2, 1) := by decide +kernel
theorem dX8_repeated_1 : decode cX8_repeated 1 = .ok (.istore_n 3, 1) := by decide +kernel
theorem dX8_repeated_2 : decode cX8_repeated 2 = .ok (.iload_n 3, 1) := by decide +kernel
theorem dX8_repeated_3 : decode cX8_repeated 3 = .ok (.ifCond .le 22, 3) := by decide +kernel
theorem dX8_repeated_6 : decode cX8_repeated 6 = .ok (.iload_n 3, 1) := by decide +kernel
theorem dX8_repeated_7 : decode cX8_repeated 7 = .ok (.bipush 60, 2) := by decide +kernel
theorem dX8_repeated_9 : decode cX8_repeated 9 = .ok (.if_icmp .ge 16, 3) := by decide +kernel
theorem dX8_repeated_12 : decode cX8_repeated 12 = .ok (.lload_n 0, 1) := by decide +kernel
theorem dX8_repeated_13 : decode cX8_repeated 13 = .ok (.lload_n 0, 1) := by decide +kernel
theorem dX8_repeated_14 : decode cX8_repeated 14 = .ok (.iload_n 3, 1) := by decide +kernel
theorem dX8_repeated_15 : decode cX8_repeated 15 = .ok (.lshl, 1) := by decide +kernel
theorem dX8_repeated_16 : decode cX8_repeated 16 = .ok (.lor, 1) := by decide +kernel
theorem dX8_repeated_17 : decode cX8_repeated 17 = .ok (.lstore_n 0, 1) := by decide +kernel
theorem dX8_repeated_18 : decode cX8_repeated 18 = .ok (.iload_n 3, 1) := by decide +kernel
theorem dX8_repeated_19 : decode cX8_repeated 19 = .ok (.iconst 2, 1) := by decide +kernel
theorem dX8_repeated_20 : decode cX8_repeated 20 = .ok (.imul, 1) := by decide +kernel
theorem dX8_repeated_21 : decode cX8_repeated 21 = .ok (.istore_n 3, 1) := by decide +kernel
theorem dX8_repeated_22 : decode cX8_repeated 22 = .ok (.goto (-20), 3) := by decide +kernel
theorem dX8_repeated_25 : decode cX8_repeated 25 = .ok (.lload_n 0, 1) := by decide +kernel
theorem dX8_repeated_26 : decode cX8_repeated 26 = .ok (.ldc2_w 249, 3) := by decide +kernel
theorem dX8_repeated_29 : decode cX8_repeated 29 = .ok (.land, 1) := by decide +kernel
theorem dX8_repeated_30 : decode cX8_repeated 30 = .ok (.lreturn, 1) := by decide +kernel
theorem dX8_firstMinute_0 : decode cX8_firstMinute 0 = .ok (.iconst 0, 1) := by decide +kernel
theorem dX8_firstMinute_1 : decode cX8_firstMinute 1 = .ok (.istore_n 2, 1) := by decide +kernel
theorem dX8_firstMinute_2 : decode cX8_firstMinute 2 = .ok (.iload_n 2, 1) := by decide +kernel
theorem dX8_firstMinute_3 : decode cX8_firstMinute 3 = .ok (.bipush 60, 2) := by decide +kernel
theorem dX8_firstMinute_5 : decode cX8_firstMinute 5 = .ok (.if_icmp .ge 21, 3) := by decide +kernel
theorem dX8_firstMinute_8 : decode cX8_firstMinute 8 = .ok (.lload_n 0, 1) := by decide +kernel
theorem dX8_firstMinute_9 : decode cX8_firstMinute 9 = .ok (.iload_n 2, 1) := by decide +kernel
theorem dX8_firstMinute_10 : decode cX8_firstMinute 10 = .ok (.lshr, 1) := by decide +kernel
theorem dX8_firstMinute_11 : decode cX8_firstMinute 11 = .ok (.lconst 1, 1) := by decide +kernel
theorem dX8_firstMinute_12 : decode cX8_firstMinute 12 = .ok (.land, 1) := by decide +kernel
theorem dX8_firstMinute_13 : decode cX8_firstMinute 13 = .ok (.lconst 1, 1) := by decide +kernel
theorem dX8_firstMinute_14 : decode cX8_firstMinute 14 = .ok (.lcmp, 1) := by decide +kernel
theorem dX8_firstMinute_15 : decode cX8_firstMinute 15 = .ok (.ifCond .ne 5, 3) := by decide +kernel
theorem dX8_firstMinute_18 : decode cX8_firstMinute 18 = .ok (.iload_n 2, 1) := by decide +kernel
theorem dX8_firstMinute_19 : decode cX8_firstMinute 19 = .ok (.ireturn, 1) := by decide +kernel
theorem dX8_firstMinute_20 : decode cX8_firstMinute 20 = .ok (.iinc 2 1, 3) := by decide +kernel
theorem dX8_firstMinute_23 : decode cX8_firstMinute 23 = .ok (.goto (-21), 3) := by decide +kernel
theorem dX8_firstMinute_26 : decode cX8_firstMinute 26 = .ok (.bipush (-4), 2) := by decide +kernel
theorem dX8_firstMinute_28 : decode cX8_firstMinute 28 = .ok (.ireturn, 1) := by decide +kernel
theorem dX8_lastMinute_0 : decode cX8_lastMinute 0 = .ok (.bipush 59, 2) := by decide +kernel
theorem dX8_lastMinute_2 : decode cX8_lastMinute 2 = .ok (.istore_n 2, 1) := by decide +kernel
theorem dX8_lastMinute_3 : decode cX8_lastMinute 3 = .ok (.iload_n 2, 1) := by decide +kernel
theorem dX8_lastMinute_4 : decode cX8_lastMinute 4 = .ok (.ifCond .lt 21, 3) := by decide +kernel
theorem dX8_lastMinute_7 : decode cX8_lastMinute 7 = .ok (.lload_n 0, 1) := by decide +kernel
theorem dX8_lastMinute_8 : decode cX8_lastMinute 8 = .ok (.iload_n 2, 1) := by decide +kernel
theorem dX8_lastMinute_9 : decode cX8_lastMinute 9 = .ok (.lshr, 1) := by decide +kernel
theorem dX8_lastMinute_10 : decode cX8_lastMinute 10 = .ok (.lconst 1, 1) := by decide +kernel
theorem dX8_lastMinute_11 : decode cX8_lastMinute 11 = .ok (.land, 1) := by decide +kernel
theorem dX8_lastMinute_12 : decode cX8_lastMinute 12 = .ok (.lconst 1, 1) := by decide +kernel
theorem dX8_lastMinute_13 : decode cX8_lastMinute 13 = .ok (.lcmp, 1) := by decide +kernel
theorem dX8_lastMinute_14 : decode cX8_lastMinute 14 = .ok (.ifCond .ne 5, 3) := by decide +kernel
theorem dX8_lastMinute_17 : decode cX8_lastMinute 17 = .ok (.iload_n 2, 1) := by decide +kernel
theorem dX8_lastMinute_18 : decode cX8_lastMinute 18 = .ok (.ireturn, 1) := by decide +kernel
theorem dX8_lastMinute_19 : decode cX8_lastMinute 19 = .ok (.iinc 2 (-1), 3) := by decide +kernel
theorem dX8_lastMinute_22 : decode cX8_lastMinute 22 = .ok (.goto (-19), 3) := by decide +kernel
theorem dX8_lastMinute_25 : decode cX8_lastMinute 25 = .ok (.bipush (-4), 2) := by decide +kernel
theorem dX8_lastMinute_27 : decode cX8_lastMinute 27 = .ok (.ireturn, 1) := by decide +kernel
theorem dX8_partOfFraction_0 : decode cX8_partOfFraction 0 = .ok (.lload_n 0, 1) := by decide +kernel
theorem dX8_partOfFraction_1 : decode cX8_partOfFraction 1 = .ok (.lload_n 2, 1) := by decide +kernel
theorem dX8_partOfFraction_2 : decode cX8_partOfFraction 2 = .ok (.invokestatic 358, 3) := by decide +kernel
theorem dX8_partOfFraction_5 : decode cX8_partOfFraction 5 = .ok (.lstore 5, 2) := by decide +kernel
theorem dX8_partOfFraction_7 : decode cX8_partOfFraction 7 = .ok (.iload 4, 2) := by decide +kernel
theorem dX8_partOfFraction_9 : decode cX8_partOfFraction 9 = .ok (.ifCond .ne 7, 3) := by decide +kernel
theorem dX8_partOfFraction_12 : decode cX8_partOfFraction 12 = .ok (.lload_n 0, 1) := by decide +kernel
theorem dX8_partOfFraction_13 : decode cX8_partOfFraction 13 = .ok (.goto 4, 3) := by decide +kernel
theorem dX8_partOfFraction_16 : decode cX8_partOfFraction 16 = .ok (.lload_n 2, 1) := by decide +kernel
theorem dX8_partOfFraction_17 : decode cX8_partOfFraction 17 = .ok (.lstore 7, 2) := by decide +kernel
theorem dX8_partOfFraction_19 : decode cX8_partOfFraction 19 = .ok (.lload 5, 2) := by decide +kernel
theorem dX8_partOfFraction_21 : decode cX8_partOfFraction 21 = .ok (.lconst 0, 1) := by decide +kernel
theorem dX8_partOfFraction_22 : decode cX8_partOfFraction 22 = .ok (.lcmp, 1) := by decide +kernel
theorem dX8_partOfFraction_23 : decode cX8_partOfFraction 23 = .ok (.ifCond .ne 8, 3) := by decide +kernel
theorem dX8_partOfFraction_26 : decode cX8_partOfFraction 26 = .ok (.lload 7, 2) := by decide +kernel
theorem dX8_partOfFraction_28 : decode cX8_partOfFraction 28 = .ok (.goto 8, 3) := by decide +kernel
theorem dX8_partOfFraction_31 : decode cX8_partOfFraction 31 = .ok (.lload 7, 2) := by decide +kernel
theorem dX8_partOfFraction_33 : decode cX8_partOfFraction 33 = .ok (.lload 5, 2) := by decide +kernel
theorem dX8_partOfFraction_35 : decode cX8_partOfFraction 35 = .ok (.ldiv, 1) := by decide +kernel
theorem dX8_partOfFraction_36 : decode cX8_partOfFraction 36 = .ok (.lreturn, 1) := by decide +kernel
theorem dX8_greatestDivisor_0 : decode cX8_greatestDivisor 0 = .ok (.iconst 0, 1) := by decide +kernel
theorem dX8_greatestDivisor_1 : decode cX8_greatestDivisor 1 = .ok (.istore 4, 2) := by decide +kernel
theorem dX8_greatestDivisor_3 : decode cX8_greatestDivisor 3 = .ok (.iload 4, 2) := by decide +kernel
theorem dX8_greatestDivisor_5 : decode cX8_greatestDivisor 5 = .ok (.sipush 200, 3) := by decide +kernel
theorem dX8_greatestDivisor_8 : decode cX8_greatestDivisor 8 = .ok (.if_icmp .ge 25, 3) := by decide +kernel
theorem dX8_greatestDivisor_11 : decode cX8_greatestDivisor 11 = .ok (.lload_n 2, 1) := by decide +kernel
theorem dX8_greatestDivisor_12 : decode cX8_greatestDivisor 12 = .ok (.lconst 0, 1) := by decide +kernel
theorem dX8_greatestDivisor_13 : decode cX8_greatestDivisor 13 = .ok (.lcmp, 1) := by decide +kernel
theorem dX8_greatestDivisor_14 : decode cX8_greatestDivisor 14 = .ok (.ifCond .eq 19, 3) := by decide +kernel
theorem dX8_greatestDivisor_17 : decode cX8_greatestDivisor 17 = .ok (.lload_n 0, 1) := by decide +kernel
theorem dX8_greatestDivisor_18 : decode cX8_greatestDivisor 18 = .ok (.lload_n 2, 1) := by decide +kernel
theorem dX8_greatestDivisor_19 : decode cX8_greatestDivisor 19 = .ok (.lrem, 1) := by decide +kernel
theorem dX8_greatestDivisor_20 : decode cX8_greatestDivisor 20 = .ok (.lstore 5, 2) := by decide +kernel
theorem dX8_greatestDivisor_22 : decode cX8_greatestDivisor 22 = .ok (.lload_n 2, 1) := by decide +kernel
theorem dX8_greatestDivisor_23 : decode cX8_greatestDivisor 23 = .ok (.lstore_n 0, 1) := by decide +kernel
theorem dX8_greatestDivisor_24 : decode cX8_greatestDivisor 24 = .ok (.lload 5, 2) := by decide +kernel
theorem dX8_greatestDivisor_26 : decode cX8_greatestDivisor 26 = .ok (.lstore_n 2, 1) := by decide +kernel
theorem dX8_greatestDivisor_27 : decode cX8_greatestDivisor 27 = .ok (.iinc 4 1, 3) := by decide +kernel
theorem dX8_greatestDivisor_30 : decode cX8_greatestDivisor 30 = .ok (.goto (-27), 3) := by decide +kernel
theorem dX8_greatestDivisor_33 : decode cX8_greatestDivisor 33 = .ok (.lload_n 0, 1) := by decide +kernel
theorem dX8_greatestDivisor_34 : decode cX8_greatestDivisor 34 = .ok (.lreturn, 1) := by decide +kernel
theorem dX9_init_0 : decode cX9_init 0 = .ok (.aload_n 0, 1) := by decide +kernel
theorem dX9_init_1 : decode cX9_init 1 = .ok (.invokespecial 1, 3) := by decide +kernel
theorem dX9_init_4 : decode cX9_init 4 = .ok (.aload_n 0, 1) := by decide +kernel
theorem dX9_init_5 : decode cX9_init 5 = .ok (.sipush 305, 3) := by decide +kernel
theorem dX9_init_8 : decode cX9_init 8 = .ok (.newarray .int, 2) := by decide +kernel
theorem dX9_init_10 : decode cX9_init 10 = .ok (.putfield 7, 3) := by decide +kernel
theorem dX9_init_13 : decode cX9_init 13 = .ok (.aload_n 0, 1) := by decide +kernel
theorem dX9_init_14 : decode cX9_init 14 = .ok (.bipush 61, 2) := by decide +kernel
theorem dX9_init_16 : decode cX9_init 16 = .ok (.newarray .int, 2) := by decide +kernel
theorem dX9_init_18 : decode cX9_init 18 = .ok (.putfield 13, 3) := by decide +kernel
theorem dX9_init_21 : decode cX9_init 21 = .ok (.aload_n 0, 1) := by decide +kernel
theorem dX9_init_22 : decode cX9_init 22 = .ok (.sipush 160, 3) := by decide +kernel
theorem dX9_init_25 : decode cX9_init 25 = .ok (.newarray .int, 2) := by decide +kernel
theorem dX9_init_27 : decode cX9_init 27 = .ok (.putfield 16, 3) := by decide +kernel
theorem dX9_init_30 : decode cX9_init 30 = .ok (.aload_n 0, 1) := by decide +kernel
theorem dX9_init_31 : decode cX9_init 31 = .ok (.bipush 8, 2) := by decide +kernel
theorem dX9_init_33 : decode cX9_init 33 = .ok (.newarray .int, 2) := by decide +kernel
theorem dX9_init_35 : decode cX9_init 35 = .ok (.dup, 1) := by decide +kernel
theorem dX9_init_36 : decode cX9_init 36 = .ok (.iconst 0, 1) := by decide +kernel
theorem dX9_init_37 : decode cX9_init 37 = .ok (.iconst 0, 1) := by decide +kernel
theorem dX9_init_38 : decode cX9_init 38 = .ok (.iastore, 1) := by decide +kernel
theorem dX9_init_39 : decode cX9_init 39 = .ok (.dup, 1) := by decide +kernel
theorem dX9_init_40 : decode cX9_init 40 = .ok (.iconst 1, 1) := by decide +kernel
theorem dX9_init_41 : decode cX9_init 41 = .ok (.iconst 5, 1) := by decide +kernel
theorem dX9_init_42 : decode cX9_init 42 = .ok (.iastore, 1) := by decide +kernel
theorem dX9_init_43 : decode cX9_init 43 = .ok (.dup, 1) := by decide +kernel
theorem dX9_init_44 : decode cX9_init 44 = .ok (.iconst 2, 1) := by decide +kernel
theorem dX9_init_45 : decode cX9_init 45 = .ok (.bipush 9, 2) := by decide +kernel
theorem dX9_init_47 : decode cX9_init 47 = .ok (.iastore, 1) := by decide +kernel
theorem dX9_init_48 : decode cX9_init 48 = .ok (.dup, 1) := by decide +kernel
theorem dX9_init_49 : decode cX9_init 49 = .ok (.iconst 3, 1) := by decide +kernel
theorem dX9_init_50 : decode cX9_init 50 = .ok (.bipush 14, 2) := by decide +kernel
theorem dX9_init_52 : decode cX9_init 52 = .ok (.iastore, 1) := by decide +kernel
theorem dX9_init_53 : decode cX9_init 53 = .ok (.dup, 1) := by decide +kernel
theorem dX9_init_54 : decode cX9_init 54 = .ok (.iconst 4, 1) := by decide +kernel
theorem dX9_init_55 : decode cX9_init 55 = .ok (.bipush 17, 2) := by decide +kernel
theorem dX9_init_57 : decode cX9_init 57 = .ok (.iastore, 1) := by decide +kernel
theorem dX9_init_58 : decode cX9_init 58 = .ok (.dup, 1) := by decide +kernel
theorem dX9_init_59 : decode cX9_init 59 = .ok (.iconst 5, 1) := by decide +kernel
theorem dX9_init_60 : decode cX9_init 60 = .ok (.bipush 23, 2) := by decide +kernel
theorem dX9_init_62 : decode cX9_init 62 = .ok (.iastore, 1) := by decide +kernel
theorem dX9_init_63 : decode cX9_init 63 = .ok (.dup, 1) := by decide +kernel
theorem dX9_init_64 : decode cX9_init 64 = .ok (.bipush 6, 2) := by decide +kernel
theorem dX9_init_66 : decode cX9_init 66 = .ok (.bipush 29, 2) := by decide +kernel
theorem dX9_init_68 : decode cX9_init 68 = .ok (.iastore, 1) := by decide +kernel
theorem dX9_init_69 : decode cX9_init 69 = .ok (.dup, 1) := by decide +kernel
theorem dX9_init_70 : decode cX9_init 70 = .ok (.bipush 7, 2) := by decide +kernel
theorem dX9_init_72 : decode cX9_init 72 = .ok (.bipush 33, 2) := by decide +kernel
theorem dX9_init_74 : decode cX9_init 74 = .ok (.iastore, 1) := by decide +kernel
theorem dX9_init_75 : decode cX9_init 75 = .ok (.putfield 19, 3) := by decide +kernel
theorem dX9_init_78 : decode cX9_init 78 = .ok (.aload_n 0, 1) := by decide +kernel
theorem dX9_init_79 : decode cX9_init 79 = .ok (.bipush 33, 2) := by decide +kernel
theorem dX9_init_81 : decode cX9_init 81 = .ok (.newarray .int, 2) := by decide +kernel
theorem dX9_init_83 : decode cX9_init 83 = .ok (.dup, 1) := by decide +kernel
theorem dX9_init_84 : decode cX9_init 84 = .ok (.iconst 0, 1) := by decide +kernel
theorem dX9_init_85 : decode cX9_init 85 = .ok (.bipush 112, 2) := by decide +kernel
theorem dX9_init_87 : decode cX9_init 87 = .ok (.iastore, 1) := by decide +kernel
theorem dX9_init_88 : decode cX9_init 88 = .ok (.dup, 1) := by decide +kernel
theorem dX9_init_89 : decode cX9_init 89 = .ok (.iconst 1, 1) := by decide +kernel
theorem dX9_init_90 : decode cX9_init 90 = .ok (.bipush 108, 2) := by decide +kernel
theorem dX9_init_92 : decode cX9_init 92 = .ok (.iastore, 1) := by decide +kernel
theorem dX9_init_93 : decode cX9_init 93 = .ok (.dup, 1) := by decide +kernel
theorem dX9_init_94 : decode cX9_init 94 = .ok (.iconst 2, 1) := by decide +kernel
theorem dX9_init_95 : decode cX9_init 95 = .ok (.bipush 97, 2) := by decide +kernel
theorem dX9_init_97 : decode cX9_init 97 = .ok (.iastore, 1) := by decide +kernel
theorem dX9_init_98 : decode cX9_init 98 = .ok (.dup, 1) := by decide +kernel
theorem dX9_init_99 : decode cX9_init 99 = .ok (.iconst 3, 1) := by decide +kernel
theorem dX9_init_100 : decode cX9_init 100 = .ok (.bipush 105, 2) := by decide +kernel
theorem dX9_init_102 : decode cX9_init 102 = .ok (.iastore, 1) := by decide +kernel
theorem dX9_init_103 : decode cX9_init 103 = .ok (.dup, 1) := by decide +kernel
theorem dX9_init_104 : decode cX9_init 104 = .ok (.iconst 4, 1) := by decide +kernel
theorem dX9_init_105 : decode cX9_init 105 = .ok (.bipush 110, 2) := by decide +kernel
theorem dX9_init_107 : decode cX9_init 107 = .ok (.iastore, 1) := by decide +kernel
theorem dX9_init_108 : decode cX9_init 108 = .ok (.dup, 1) := by decide +kernel
theorem dX9_init_109 : decode cX9_init 109 = .ok (.iconst 5, 1) := by decide +kernel
theorem dX9_init_110 : decode cX9_init 110 = .ok (.bipush 116, 2) := by decide +kernel
theorem dX9_init_112 : decode cX9_init 112 = .ok (.iastore, 1) := by decide +kernel
theorem dX9_init_113 : decode cX9_init 113 = .ok (.dup, 1) := by decide +kernel
theorem dX9_init_114 : decode cX9_init 114 = .ok (.bipush 6, 2) := by decide +kernel
theorem dX9_init_116 : decode cX9_init 116 = .ok (.bipush 104, 2) := by decide +kernel
theorem dX9_init_118 : decode cX9_init 118 = .ok (.iastore, 1) := by decide +kernel
theorem dX9_init_119 : decode cX9_init 119 = .ok (.dup, 1) := by decide +kernel
theorem dX9_init_120 : decode cX9_init 120 = .ok (.bipush 7, 2) := by decide +kernel
theorem dX9_init_122 : decode cX9_init 122 = .ok (.bipush 105, 2) := by decide +kernel
theorem dX9_init_124 : decode cX9_init 124 = .ok (.iastore, 1) := by decide +kernel
theorem dX9_init_125 : decode cX9_init 125 = .ok (.dup, 1) := by decide +kernel
theorem dX9_init_126 : decode cX9_init 126 = .ok (.bipush 8, 2) := by decide +kernel
theorem dX9_init_128 : decode cX9_init 128 = .ok (.bipush 110, 2) := by decide +kernel
theorem dX9_init_130 : decode cX9_init 130 = .ok (.iastore, 1) := by decide +kernel
theorem dX9_init_131 : decode cX9_init 131 = .ok (.dup, 1) := by decide +kernel
theorem dX9_init_132 : decode cX9_init 132 = .ok (.bipush 9, 2) := by decide +kernel
theorem dX9_init_134 : decode cX9_init 134 = .ok (.bipush 115, 2) := by decide +kernel
theorem dX9_init_136 : decode cX9_init 136 = .ok (.iastore, 1) := by decide +kernel
theorem dX9_init_137 : decode cX9_init 137 = .ok (.dup, 1) := by decide +kernel
theorem dX9_init_138 : decode cX9_init 138 = .ok (.bipush 10, 2) := by decide +kernel
theorem dX9_init_140 : decode cX9_init 140 = .ok (.bipush 116, 2) := by decide +kernel
theorem dX9_init_142 : decode cX9_init 142 = .ok (.iastore, 1) := by decide +kernel
theorem dX9_init_143 : decode cX9_init 143 = .ok (.dup, 1) := by decide +kernel
theorem dX9_init_144 : decode cX9_init 144 = .ok (.bipush 11, 2) := by decide +kernel
theorem dX9_init_146 : decode cX9_init 146 = .ok (.bipush 111, 2) := by decide +kernel
theorem dX9_init_148 : decode cX9_init 148 = .ok (.iastore, 1) := by decide +kernel
theorem dX9_init_149 : decode cX9_init 149 = .ok (.dup, 1) := by decide +kernel
theorem dX9_init_150 : decode cX9_init 150 = .ok (.bipush 12, 2) := by decide +kernel
theorem dX9_init_152 : decode cX9_init 152 = .ok (.bipush 117, 2) := by decide +kernel
theorem dX9_init_154 : decode cX9_init 154 = .ok (.iastore, 1) := by decide +kernel
theorem dX9_init_155 : decode cX9_init 155 = .ok (.dup, 1) := by decide +kernel
theorem dX9_init_156 : decode cX9_init 156 = .ok (.bipush 13, 2) := by decide +kernel
theorem dX9_init_158 : decode cX9_init 158 = .ok (.bipush 116, 2) := by decide +kernel
theorem dX9_init_160 : decode cX9_init 160 = .ok (.iastore, 1) := by decide +kernel
theorem dX9_init_161 : decode cX9_init 161 = .ok (.dup, 1) := by decide +kernel
theorem dX9_init_162 : decode cX9_init 162 = .ok (.bipush 14, 2) := by decide +kernel
theorem dX9_init_164 : decode cX9_init 164 = .ok (.bipush 111, 2) := by decide +kernel
theorem dX9_init_166 : decode cX9_init 166 = .ok (.iastore, 1) := by decide +kernel
theorem dX9_init_167 : decode cX9_init 167 = .ok (.dup, 1) := by decide +kernel
theorem dX9_init_168 : decode cX9_init 168 = .ok (.bipush 15, 2) := by decide +kernel
theorem dX9_init_170 : decode cX9_init 170 = .ok (.bipush 108, 2) := by decide +kernel
theorem dX9_init_172 : decode cX9_init 172 = .ok (.iastore, 1) := by decide +kernel
theorem dX9_init_173 : decode cX9_init 173 = .ok (.dup, 1) := by decide +kernel
theorem dX9_init_174 : decode cX9_init 174 = .ok (.bipush 16, 2) := by decide +kernel
theorem dX9_init_176 : decode cX9_init 176 = .ok (.bipush 100, 2) := by decide +kernel
theorem dX9_init_178 : decode cX9_init 178 = .ok (.iastore, 1) := by decide +kernel
theorem dX9_init_179 : decode cX9_init 179 = .ok (.dup, 1) := by decide +kernel
theorem dX9_init_180 : decode cX9_init 180 = .ok (.bipush 17, 2) := by decide +kernel
theorem dX9_init_182 : decode cX9_init 182 = .ok (.bipush 115, 2) := by decide +kernel
theorem dX9_init_184 : decode cX9_init 184 = .ok (.iastore, 1) := by decide +kernel
theorem dX9_init_185 : decode cX9_init 185 = .ok (.dup, 1) := by decide +kernel
theorem dX9_init_186 : decode cX9_init 186 = .ok (.bipush 18, 2) := by decide +kernel
theorem dX9_init_188 : decode cX9_init 188 = .ok (.bipush 116, 2) := by decide +kernel
theorem dX9_init_190 : decode cX9_init 190 = .ok (.iastore, 1) := by decide +kernel
theorem dX9_init_191 : decode cX9_init 191 = .ok (.dup, 1) := by decide +kernel
theorem dX9_init_192 : decode cX9_init 192 = .ok (.bipush 19, 2) := by decide +kernel
theorem dX9_init_194 : decode cX9_init 194 = .ok (.bipush 114, 2) := by decide +kernel
theorem dX9_init_196 : decode cX9_init 196 = .ok (.iastore, 1) := by decide +kernel
theorem dX9_init_197 : decode cX9_init 197 = .ok (.dup, 1) := by decide +kernel
theorem dX9_init_198 : decode cX9_init 198 = .ok (.bipush 20, 2) := by decide +kernel
theorem dX9_init_200 : decode cX9_init 200 = .ok (.bipush 101, 2) := by decide +kernel
theorem dX9_init_202 : decode cX9_init 202 = .ok (.iastore, 1) := by decide +kernel
theorem dX9_init_203 : decode cX9_init 203 = .ok (.dup, 1) := by decide +kernel
theorem dX9_init_204 : decode cX9_init 204 = .ok (.bipush 21, 2) := by decide +kernel
theorem dX9_init_206 : decode cX9_init 206 = .ok (.bipush 101, 2) := by decide +kernel
theorem dX9_init_208 : decode cX9_init 208 = .ok (.iastore, 1) := by decide +kernel
theorem dX9_init_209 : decode cX9_init 209 = .ok (.dup, 1) := by decide +kernel
theorem dX9_init_210 : decode cX9_init 210 = .ok (.bipush 22, 2) := by decide +kernel
theorem dX9_init_212 : decode cX9_init 212 = .ok (.bipush 116, 2) := by decide +kernel
theorem dX9_init_214 : decode cX9_init 214 = .ok (.iastore, 1) := by decide +kernel
theorem dX9_init_215 : decode cX9_init 215 = .ok (.dup, 1) := by decide +kernel
theorem dX9_init_216 : decode cX9_init 216 = .ok (.bipush 23, 2) := by decide +kernel
theorem dX9_init_218 : decode cX9_init 218 = .ok (.bipush 114, 2) := by decide +kernel
theorem dX9_init_220 : decode cX9_init 220 = .ok (.iastore, 1) := by decide +kernel
theorem dX9_init_221 : decode cX9_init 221 = .ok (.dup, 1) := by decide +kernel
theorem dX9_init_222 : decode cX9_init 222 = .ok (.bipush 24, 2) := by decide +kernel
theorem dX9_init_224 : decode cX9_init 224 = .ok (.bipush 101, 2) := by decide +kernel
theorem dX9_init_226 : decode cX9_init 226 = .ok (.iastore, 1) := by decide +kernel
theorem dX9_init_227 : decode cX9_init 227 = .ok (.dup, 1) := by decide +kernel
theorem dX9_init_228 : decode cX9_init 228 = .ok (.bipush 25, 2) := by decide +kernel
theorem dX9_init_230 : decode cX9_init 230 = .ok (.bipush 97, 2) := by decide +kernel
theorem dX9_init_232 : decode cX9_init 232 = .ok (.iastore, 1) := by decide +kernel
theorem dX9_init_233 : decode cX9_init 233 = .ok (.dup, 1) := by decide +kernel
theorem dX9_init_234 : decode cX9_init 234 = .ok (.bipush 26, 2) := by decide +kernel
theorem dX9_init_236 : decode cX9_init 236 = .ok (.bipush 100, 2) := by decide +kernel
theorem dX9_init_238 : decode cX9_init 238 = .ok (.iastore, 1) := by decide +kernel
theorem dX9_init_239 : decode cX9_init 239 = .ok (.dup, 1) := by decide +kernel
theorem dX9_init_240 : decode cX9_init 240 = .ok (.bipush 27, 2) := by decide +kernel
theorem dX9_init_242 : decode cX9_init 242 = .ok (.bipush 101, 2) := by decide +kernel
theorem dX9_init_244 : decode cX9_init 244 = .ok (.iastore, 1) := by decide +kernel
theorem dX9_init_245 : decode cX9_init 245 = .ok (.dup, 1) := by decide +kernel
theorem dX9_init_246 : decode cX9_init 246 = .ok (.bipush 28, 2) := by decide +kernel
theorem dX9_init_248 : decode cX9_init 248 = .ok (.bipush 114, 2) := by decide +kernel
theorem dX9_init_250 : decode cX9_init 250 = .ok (.iastore, 1) := by decide +kernel
theorem dX9_init_251 : decode cX9_init 251 = .ok (.dup, 1) := by decide +kernel
theorem dX9_init_252 : decode cX9_init 252 = .ok (.bipush 29, 2) := by decide +kernel
theorem dX9_init_254 : decode cX9_init 254 = .ok (.bipush 114, 2) := by decide +kernel
theorem dX9_init_256 : decode cX9_init 256 = .ok (.iastore, 1) := by decide +kernel
theorem dX9_init_257 : decode cX9_init 257 = .ok (.dup, 1) := by decide +kernel
theorem dX9_init_258 : decode cX9_init 258 = .ok (.bipush 30, 2) := by decide +kernel
theorem dX9_init_260 : decode cX9_init 260 = .ok (.bipush 97, 2) := by decide +kernel
theorem dX9_init_262 : decode cX9_init 262 = .ok (.iastore, 1) := by decide +kernel
theorem dX9_init_263 : decode cX9_init 263 = .ok (.dup, 1) := by decide +kernel
theorem dX9_init_264 : decode cX9_init 264 = .ok (.bipush 31, 2) := by decide +kernel
theorem dX9_init_266 : decode cX9_init 266 = .ok (.bipush 105, 2) := by decide +kernel
theorem dX9_init_268 : decode cX9_init 268 = .ok (.iastore, 1) := by decide +kernel
theorem dX9_init_269 : decode cX9_init 269 = .ok (.dup, 1) := by decide +kernel
theorem dX9_init_270 : decode cX9_init 270 = .ok (.bipush 32, 2) := by decide +kernel
theorem dX9_init_272 : decode cX9_init 272 = .ok (.bipush 110, 2) := by decide +kernel
theorem dX9_init_274 : decode cX9_init 274 = .ok (.iastore, 1) := by decide +kernel
theorem dX9_init_275 : decode cX9_init 275 = .ok (.putfield 22, 3) := by decide +kernel
theorem dX9_init_278 : decode cX9_init 278 = .ok (.aload_n 0, 1) := by decide +kernel
theorem dX9_init_279 : decode cX9_init 279 = .ok (.bipush 40, 2) := by decide +kernel
theorem dX9_init_281 : decode cX9_init 281 = .ok (.newarray .int, 2) := by decide +kernel
theorem dX9_init_283 : decode cX9_init 283 = .ok (.putfield 25, 3) := by decide +kernel
theorem dX9_init_286 : decode cX9_init 286 = .ok (.aload_n 0, 1) := by decide +kernel
theorem dX9_init_287 : decode cX9_init 287 = .ok (.bipush 40, 2) := by decide +kernel
theorem dX9_init_289 : decode cX9_init 289 = .ok (.newarray .int, 2) := by decide +kernel
theorem dX9_init_291 : decode cX9_init 291 = .ok (.putfield 28, 3) := by decide +kernel
theorem dX9_init_294 : decode cX9_init 294 = .ok (.aload_n 0, 1) := by decide +kernel
theorem dX9_init_295 : decode cX9_init 295 = .ok (.iconst 4, 1) := by decide +kernel
theorem dX9_init_296 : decode cX9_init 296 = .ok (.newarray .int, 2) := by decide +kernel
theorem dX9_init_298 : decode cX9_init 298 = .ok (.putfield 31, 3) := by decide +kernel
theorem dX9_init_301 : decode cX9_init 301 = .ok (.aload_n 0, 1) := by decide +kernel
theorem dX9_init_302 : decode cX9_init 302 = .ok (.bipush 24, 2) := by decide +kernel
theorem dX9_init_304 : decode cX9_init 304 = .ok (.newarray .int, 2) := by decide +kernel
theorem dX9_init_306 : decode cX9_init 306 = .ok (.putfield 34, 3) := by decide +kernel
theorem dX9_init_309 : decode cX9_init 309 = .ok (.aload_n 0, 1) := by decide +kernel
theorem dX9_init_310 : decode cX9_init 310 = .ok (.bipush 16, 2) := by decide +kernel
theorem dX9_init_312 : decode cX9_init 312 = .ok (.newarray .int, 2) := by decide +kernel
theorem dX9_init_314 : decode cX9_init 314 = .ok (.putfield 37, 3) := by decide +kernel
theorem dX9_init_317 : decode cX9_init 317 = .ok (.aload_n 0, 1) := by decide +kernel
theorem dX9_init_318 : decode cX9_init 318 = .ok (.iconst 2, 1) := by decide +kernel
theorem dX9_init_319 : decode cX9_init 319 = .ok (.newarray .boolean, 2) := by decide +kernel
theorem dX9_init_321 : decode cX9_init 321 = .ok (.putfield 40, 3) := by decide +kernel
theorem dX9_init_324 : decode cX9_init 324 = .ok (.aload_n 0, 1) := by decide +kernel
theorem dX9_init_325 : decode cX9_init 325 = .ok (.iconst 4, 1) := by decide +kernel
theorem dX9_init_326 : decode cX9_init 326 = .ok (.newarray .int, 2) := by decide +kernel
theorem dX9_init_328 : decode cX9_init 328 = .ok (.dup, 1) := by decide +kernel
theorem dX9_init_329 : decode cX9_init 329 = .ok (.iconst 0, 1) := by decide +kernel
theorem dX9_init_330 : decode cX9_init 330 = .ok (.bipush (-4), 2) := by decide +kernel
theorem dX9_init_332 : decode cX9_init 332 = .ok (.iastore, 1) := by decide +kernel
theorem dX9_init_333 : decode cX9_init 333 = .ok (.dup, 1) := by decide +kernel
theorem dX9_init_334 : decode cX9_init 334 = .ok (.iconst 1, 1) := by decide +kernel
theorem dX9_init_335 : decode cX9_init 335 = .ok (.bipush (-4), 2) := by decide +kernel
theorem dX9_init_337 : decode cX9_init 337 = .ok (.iastore, 1) := by decide +kernel
theorem dX9_init_338 : decode cX9_init 338 = .ok (.dup, 1) := by decide +kernel
theorem dX9_init_339 : decode cX9_init 339 = .ok (.iconst 2, 1) := by decide +kernel
theorem dX9_init_340 : decode cX9_init 340 = .ok (.bipush (-4), 2) := by decide +kernel
theorem dX9_init_342 : decode cX9_init 342 = .ok (.iastore, 1) := by decide +kernel
theorem dX9_init_343 : decode cX9_init 343 = .ok (.dup, 1) := by decide +kernel
theorem dX9_init_344 : decode cX9_init 344 = .ok (.iconst 3, 1) := by decide +kernel
theorem dX9_init_345 : decode cX9_init 345 = .ok (.bipush (-4), 2) := by decide +kernel
theorem dX9_init_347 : decode cX9_init 347 = .ok (.iastore, 1) := by decide +kernel
theorem dX9_init_348 : decode cX9_init 348 = .ok (.putfield 44, 3) := by decide +kernel
theorem dX9_init_351 : decode cX9_init 351 = .ok (.aload_n 0, 1) := by decide +kernel
theorem dX9_init_352 : decode cX9_init 352 = .ok (.iconst 4, 1) := by decide +kernel
theorem dX9_init_353 : decode cX9_init 353 = .ok (.newarray .int, 2) := by decide +kernel
theorem dX9_init_355 : decode cX9_init 355 = .ok (.putfield 47, 3) := by decide +kernel
theorem dX9_init_358 : decode cX9_init 358 = .ok (.aload_n 0, 1) := by decide +kernel
theorem dX9_init_359 : decode cX9_init 359 = .ok (.sipush 160, 3) := by decide +kernel
theorem dX9_init_362 : decode cX9_init 362 = .ok (.newarray .int, 2) := by decide +kernel
theorem dX9_init_364 : decode cX9_init 364 = .ok (.putfield 50, 3) := by decide +kernel
theorem dX9_init_367 : decode cX9_init 367 = .ok (.return_, 1) := by decide +kernel
theorem dX9_in_0 : decode cX9_in 0 = .ok (.lload_n 0, 1) := by decide +kernel
theorem dX9_in_1 : decode cX9_in 1 = .ok (.lload_n 2, 1) := by decide +kernel
theorem dX9_in_2 : decode cX9_in 2 = .ok (.lcmp, 1) := by decide +kernel
theorem dX9_in_3 : decode cX9_in 3 = .ok (.ifCond .lt 14, 3) := by decide +kernel
theorem dX9_in_6 : decode cX9_in 6 = .ok (.lload_n 0, 1) := by decide +kernel
theorem dX9_in_7 : decode cX9_in 7 = .ok (.lload 4, 2) := by decide +kernel
theorem dX9_in_9 : decode cX9_in 9 = .ok (.lcmp, 1) := by decide +kernel
theorem dX9_in_10 : decode cX9_in 10 = .ok (.ifCond .gt 7, 3) := by decide +kernel
theorem dX9_in_13 : decode cX9_in 13 = .ok (.iconst 1, 1) := by decide +kernel
theorem dX9_in_14 : decode cX9_in 14 = .ok (.goto 4, 3) := by decide +kernel
theorem dX9_in_17 : decode cX9_in 17 = .ok (.iconst 0, 1) := by decide +kernel
theorem dX9_in_18 : decode cX9_in 18 = .ok (.ireturn, 1) := by decide +kernel
theorem dX9_feed_0 : decode cX9_feed 0 = .ok (.iload_n 1, 1) := by decide +kernel
theorem dX9_feed_1 : decode cX9_feed 1 = .ok (.i2l, 1) := by decide +kernel
theorem dX9_feed_2 : decode cX9_feed 2 = .ok (.lconst 0, 1) := by decide +kernel
theorem dX9_feed_3 : decode cX9_feed 3 = .ok (.ldc2_w 53, 3) := by decide +kernel
theorem dX9_feed_6 : decode cX9_feed 6 = .ok (.invokestatic 55, 3) := by decide +kernel
theorem dX9_feed_9 : decode cX9_feed 9 = .ok (.ifCond .ne 5, 3) := by decide +kernel
theorem dX9_feed_12 : decode cX9_feed 12 = .ok (.iconst (-1), 1) := by decide +kernel
theorem dX9_feed_13 : decode cX9_feed 13 = .ok (.ireturn, 1) := by decide +kernel
theorem dX9_feed_14 : decode cX9_feed 14 = .ok (.aload_n 0, 1) := by decide +kernel
theorem dX9_feed_15 : decode cX9_feed 15 = .ok (.getfield 59, 3) := by decide +kernel
theorem dX9_feed_18 : decode cX9_feed 18 = .ok (.sipush 160, 3) := by decide +kernel
theorem dX9_feed_21 : decode cX9_feed 21 = .ok (.if_icmp .ne 6, 3) := by decide +kernel
theorem dX9_feed_24 : decode cX9_feed 24 = .ok (.bipush (-3), 2) := by decide +kernel
theorem dX9_feed_26 : decode cX9_feed 26 = .ok (.ireturn, 1) := by decide +kernel
theorem dX9_feed_27 : decode cX9_feed 27 = .ok (.aload_n 0, 1) := by decide +kernel
theorem dX9_feed_28 : decode cX9_feed 28 = .ok (.getfield 16, 3) := by decide +kernel
theorem dX9_feed_31 : decode cX9_feed 31 = .ok (.aload_n 0, 1) := by decide +kernel
theorem dX9_feed_32 : decode cX9_feed 32 = .ok (.getfield 59, 3) := by decide +kernel
theorem dX9_feed_35 : decode cX9_feed 35 = .ok (.iload_n 1, 1) := by decide +kernel
theorem dX9_feed_36 : decode cX9_feed 36 = .ok (.iastore, 1) := by decide +kernel
theorem dX9_feed_37 : decode cX9_feed 37 = .ok (.aload_n 0, 1) := by decide +kernel
theorem dX9_feed_38 : decode cX9_feed 38 = .ok (.dup, 1) := by decide +kernel
theorem dX9_feed_39 : decode cX9_feed 39 = .ok (.getfield 59, 3) := by decide +kernel
theorem dX9_feed_42 : decode cX9_feed 42 = .ok (.iconst 1, 1) := by decide +kernel
theorem dX9_feed_43 : decode cX9_feed 43 = .ok (.iadd, 1) := by decide +kernel
theorem dX9_feed_44 : decode cX9_feed 44 = .ok (.putfield 59, 3) := by decide +kernel
theorem dX9_feed_47 : decode cX9_feed 47 = .ok (.aload_n 0, 1) := by decide +kernel
theorem dX9_feed_48 : decode cX9_feed 48 = .ok (.getfield 59, 3) := by decide +kernel
theorem dX9_feed_51 : decode cX9_feed 51 = .ok (.ireturn, 1) := by decide +kernel
theorem dX9_end_0 : decode cX9_end 0 = .ok (.iload_n 1, 1) := by decide +kernel
theorem dX9_end_1 : decode cX9_end 1 = .ok (.i2l, 1) := by decide +kernel
theorem dX9_end_2 : decode cX9_end 2 = .ok (.lconst 0, 1) := by decide +kernel
theorem dX9_end_3 : decode cX9_end 3 = .ok (.aload_n 0, 1) := by decide +kernel
theorem dX9_end_4 : decode cX9_end 4 = .ok (.getfield 59, 3) := by decide +kernel
theorem dX9_end_7 : decode cX9_end 7 = .ok (.i2l, 1) := by decide +kernel
theorem dX9_end_8 : decode cX9_end 8 = .ok (.invokestatic 55, 3) := by decide +kernel
theorem dX9_end_11 : decode cX9_end 11 = .ok (.ifCond .ne 5, 3) := by decide +kernel
theorem dX9_end_14 : decode cX9_end 14 = .ok (.iconst (-1), 1) := by decide +kernel
theorem dX9_end_15 : decode cX9_end 15 = .ok (.ireturn, 1) := by decide +kernel
theorem dX9_end_16 : decode cX9_end 16 = .ok (.aload_n 0, 1) := by decide +kernel
theorem dX9_end_17 : decode cX9_end 17 = .ok (.getfield 59, 3) := by decide +kernel
theorem dX9_end_20 : decode cX9_end 20 = .ok (.istore_n 2, 1) := by decide +kernel
theorem dX9_end_21 : decode cX9_end 21 = .ok (.aload_n 0, 1) := by decide +kernel
theorem dX9_end_22 : decode cX9_end 22 = .ok (.iload_n 1, 1) := by decide +kernel
theorem dX9_end_23 : decode cX9_end 23 = .ok (.putfield 59, 3) := by decide +kernel
theorem dX9_end_26 : decode cX9_end 26 = .ok (.iload_n 2, 1) := by decide +kernel
theorem dX9_end_27 : decode cX9_end 27 = .ok (.ireturn, 1) := by decide +kernel
theorem dX9_byteAt_0 : decode cX9_byteAt 0 = .ok (.iload_n 1, 1) := by decide +kernel
theorem dX9_byteAt_1 : decode cX9_byteAt 1 = .ok (.aload_n 0, 1) := by decide +kernel
theorem dX9_byteAt_2 : decode cX9_byteAt 2 = .ok (.getfield 59, 3) := by decide +kernel
theorem dX9_byteAt_5 : decode cX9_byteAt 5 = .ok (.if_icmp .ge 12, 3) := by decide +kernel
theorem dX9_byteAt_8 : decode cX9_byteAt 8 = .ok (.aload_n 0, 1) := by decide +kernel
theorem dX9_byteAt_9 : decode cX9_byteAt 9 = .ok (.getfield 16, 3) := by decide +kernel
theorem dX9_byteAt_12 : decode cX9_byteAt 12 = .ok (.iload_n 1, 1) := by decide +kernel
theorem dX9_byteAt_13 : decode cX9_byteAt 13 = .ok (.iaload, 1) := by decide +kernel
theorem dX9_byteAt_14 : decode cX9_byteAt 14 = .ok (.goto 5, 3) := by decide +kernel
theorem dX9_byteAt_17 : decode cX9_byteAt 17 = .ok (.bipush (-4), 2) := by decide +kernel
theorem dX9_byteAt_19 : decode cX9_byteAt 19 = .ok (.ireturn, 1) := by decide +kernel
theorem dX9_fails_0 : decode cX9_fails 0 = .ok (.aload_n 0, 1) := by decide +kernel
theorem dX9_fails_1 : decode cX9_fails 1 = .ok (.getfield 63, 3) := by decide +kernel
theorem dX9_fails_4 : decode cX9_fails 4 = .ok (.ifCond .ne 16, 3) := by decide +kernel
theorem dX9_fails_7 : decode cX9_fails 7 = .ok (.aload_n 0, 1) := by decide +kernel
theorem dX9_fails_8 : decode cX9_fails 8 = .ok (.iload_n 1, 1) := by decide +kernel
theorem dX9_fails_9 : decode cX9_fails 9 = .ok (.putfield 63, 3) := by decide +kernel
theorem dX9_fails_12 : decode cX9_fails 12 = .ok (.aload_n 0, 1) := by decide +kernel
theorem dX9_fails_13 : decode cX9_fails 13 = .ok (.aload_n 0, 1) := by decide +kernel
theorem dX9_fails_14 : decode cX9_fails 14 = .ok (.getfield 66, 3) := by decide +kernel
theorem dX9_fails_17 : decode cX9_fails 17 = .ok (.putfield 69, 3) := by decide +kernel
theorem dX9_fails_20 : decode cX9_fails 20 = .ok (.return_, 1) := by decide +kernel
theorem dX9_nameHere_0 : decode cX9_nameHere 0 = .ok (.iconst 0, 1) := by decide +kernel
theorem dX9_nameHere_1 : decode cX9_nameHere 1 = .ok (.istore_n 1, 1) := by decide +kernel
theorem dX9_nameHere_2 : decode cX9_nameHere 2 = .ok (.iload_n 1, 1) := by decide +kernel
theorem dX9_nameHere_3 : decode cX9_nameHere 3 = .ok (.bipush 7, 2) := by decide +kernel
theorem dX9_nameHere_5 : decode cX9_nameHere 5 = .ok (.if_icmp .ge 113, 3) := by decide +kernel
theorem dX9_nameHere_8 : decode cX9_nameHere 8 = .ok (.aload_n 0, 1) := by decide +kernel
theorem dX9_nameHere_9 : decode cX9_nameHere 9 = .ok (.getfield 72, 3) := by decide +kernel
theorem dX9_nameHere_12 : decode cX9_nameHere 12 = .ok (.iconst 1, 1) := by decide +kernel
theorem dX9_nameHere_13 : decode cX9_nameHere 13 = .ok (.if_icmp .ne 105, 3) := by decide +kernel
theorem dX9_nameHere_16 : decode cX9_nameHere 16 = .ok (.aload_n 0, 1) := by decide +kernel
theorem dX9_nameHere_17 : decode cX9_nameHere 17 = .ok (.getfield 75, 3) := by decide +kernel
theorem dX9_nameHere_20 : decode cX9_nameHere 20 = .ok (.aload_n 0, 1) := by decide +kernel
theorem dX9_nameHere_21 : decode cX9_nameHere 21 = .ok (.getfield 66, 3) := by decide +kernel
theorem dX9_nameHere_24 : decode cX9_nameHere 24 = .ok (.isub, 1) := by decide +kernel
theorem dX9_nameHere_25 : decode cX9_nameHere 25 = .ok (.aload_n 0, 1) := by decide +kernel
theorem dX9_nameHere_26 : decode cX9_nameHere 26 = .ok (.getfield 19, 3) := by decide +kernel
theorem dX9_nameHere_29 : decode cX9_nameHere 29 = .ok (.iload_n 1, 1) := by decide +kernel
theorem dX9_nameHere_30 : decode cX9_nameHere 30 = .ok (.iconst 1, 1) := by decide +kernel
theorem dX9_nameHere_31 : decode cX9_nameHere 31 = .ok (.iadd, 1) := by decide +kernel
theorem dX9_nameHere_32 : decode cX9_nameHere 32 = .ok (.iaload, 1) := by decide +kernel
theorem dX9_nameHere_33 : decode cX9_nameHere 33 = .ok (.aload_n 0, 1) := by decide +kernel
theorem dX9_nameHere_34 : decode cX9_nameHere 34 = .ok (.getfield 19, 3) := by decide +kernel
theorem dX9_nameHere_37 : decode cX9_nameHere 37 = .ok (.iload_n 1, 1) := by decide +kernel
theorem dX9_nameHere_38 : decode cX9_nameHere 38 = .ok (.iaload, 1) := by decide +kernel
theorem dX9_nameHere_39 : decode cX9_nameHere 39 = .ok (.isub, 1) := by decide +kernel
theorem dX9_nameHere_40 : decode cX9_nameHere 40 = .ok (.if_icmp .ne 7, 3) := by decide +kernel
theorem dX9_nameHere_43 : decode cX9_nameHere 43 = .ok (.iconst 1, 1) := by decide +kernel
theorem dX9_nameHere_44 : decode cX9_nameHere 44 = .ok (.goto 4, 3) := by decide +kernel
theorem dX9_nameHere_47 : decode cX9_nameHere 47 = .ok (.iconst 0, 1) := by decide +kernel
theorem dX9_nameHere_48 : decode cX9_nameHere 48 = .ok (.istore_n 2, 1) := by decide +kernel
theorem dX9_nameHere_49 : decode cX9_nameHere 49 = .ok (.iconst 0, 1) := by decide +kernel
theorem dX9_nameHere_50 : decode cX9_nameHere 50 = .ok (.istore_n 3, 1) := by decide +kernel
theorem dX9_nameHere_51 : decode cX9_nameHere 51 = .ok (.iload_n 2, 1) := by decide +kernel
theorem dX9_nameHere_52 : decode cX9_nameHere 52 = .ok (.ifCond .eq 54, 3) := by decide +kernel
theorem dX9_nameHere_55 : decode cX9_nameHere 55 = .ok (.iload_n 3, 1) := by decide +kernel
theorem dX9_nameHere_56 : decode cX9_nameHere 56 = .ok (.aload_n 0, 1) := by decide +kernel
theorem dX9_nameHere_57 : decode cX9_nameHere 57 = .ok (.getfield 75, 3) := by decide +kernel
theorem dX9_nameHere_60 : decode cX9_nameHere 60 = .ok (.aload_n 0, 1) := by decide +kernel
theorem dX9_nameHere_61 : decode cX9_nameHere 61 = .ok (.getfield 66, 3) := by decide +kernel
theorem dX9_nameHere_64 : decode cX9_nameHere 64 = .ok (.isub, 1) := by decide +kernel
theorem dX9_nameHere_65 : decode cX9_nameHere 65 = .ok (.if_icmp .ge 41, 3) := by decide +kernel
theorem dX9_nameHere_68 : decode cX9_nameHere 68 = .ok (.aload_n 0, 1) := by decide +kernel
theorem dX9_nameHere_69 : decode cX9_nameHere 69 = .ok (.aload_n 0, 1) := by decide +kernel
theorem dX9_nameHere_70 : decode cX9_nameHere 70 = .ok (.getfield 66, 3) := by decide +kernel
theorem dX9_nameHere_73 : decode cX9_nameHere 73 = .ok (.iload_n 3, 1) := by decide +kernel
theorem dX9_nameHere_74 : decode cX9_nameHere 74 = .ok (.iadd, 1) := by decide +kernel
theorem dX9_nameHere_75 : decode cX9_nameHere 75 = .ok (.invokevirtual 78, 3) := by decide +kernel
theorem dX9_nameHere_78 : decode cX9_nameHere 78 = .ok (.aload_n 0, 1) := by decide +kernel
theorem dX9_nameHere_79 : decode cX9_nameHere 79 = .ok (.getfield 22, 3) := by decide +kernel
theorem dX9_nameHere_82 : decode cX9_nameHere 82 = .ok (.aload_n 0, 1) := by decide +kernel
theorem dX9_nameHere_83 : decode cX9_nameHere 83 = .ok (.getfield 19, 3) := by decide +kernel
theorem dX9_nameHere_86 : decode cX9_nameHere 86 = .ok (.iload_n 1, 1) := by decide +kernel
theorem dX9_nameHere_87 : decode cX9_nameHere 87 = .ok (.iaload, 1) := by decide +kernel
theorem dX9_nameHere_88 : decode cX9_nameHere 88 = .ok (.iload_n 3, 1) := by decide +kernel
theorem dX9_nameHere_89 : decode cX9_nameHere 89 = .ok (.iadd, 1) := by decide +kernel
theorem dX9_nameHere_90 : decode cX9_nameHere 90 = .ok (.iaload, 1) := by decide +kernel
theorem dX9_nameHere_91 : decode cX9_nameHere 91 = .ok (.if_icmp .ne 7, 3) := by decide +kernel
theorem dX9_nameHere_94 : decode cX9_nameHere 94 = .ok (.iconst 1, 1) := by decide +kernel
theorem dX9_nameHere_95 : decode cX9_nameHere 95 = .ok (.goto 4, 3) := by decide +kernel
theorem dX9_nameHere_98 : decode cX9_nameHere 98 = .ok (.iconst 0, 1) := by decide +kernel
theorem dX9_nameHere_99 : decode cX9_nameHere 99 = .ok (.istore_n 2, 1) := by decide +kernel
theorem dX9_nameHere_100 : decode cX9_nameHere 100 = .ok (.iinc 3 1, 3) := by decide +kernel
theorem dX9_nameHere_103 : decode cX9_nameHere 103 = .ok (.goto (-52), 3) := by decide +kernel
theorem dX9_nameHere_106 : decode cX9_nameHere 106 = .ok (.iload_n 2, 1) := by decide +kernel
theorem dX9_nameHere_107 : decode cX9_nameHere 107 = .ok (.ifCond .eq 5, 3) := by decide +kernel
theorem dX9_nameHere_110 : decode cX9_nameHere 110 = .ok (.iload_n 1, 1) := by decide +kernel
theorem dX9_nameHere_111 : decode cX9_nameHere 111 = .ok (.ireturn, 1) := by decide +kernel
theorem dX9_nameHere_112 : decode cX9_nameHere 112 = .ok (.iinc 1 1, 3) := by decide +kernel
theorem dX9_nameHere_115 : decode cX9_nameHere 115 = .ok (.goto (-113), 3) := by decide +kernel
theorem dX9_nameHere_118 : decode cX9_nameHere 118 = .ok (.bipush (-4), 2) := by decide +kernel
theorem dX9_nameHere_120 : decode cX9_nameHere 120 = .ok (.ireturn, 1) := by decide +kernel
theorem dX9_step_0 : decode cX9_step 0 = .ok (.aload_n 0, 1) := by decide +kernel
theorem dX9_step_1 : decode cX9_step 1 = .ok (.getfield 63, 3) := by decide +kernel
theorem dX9_step_4 : decode cX9_step 4 = .ok (.ifCond .le 4, 3) := by decide +kernel
theorem dX9_step_7 : decode cX9_step 7 = .ok (.return_, 1) := by decide +kernel
theorem dX9_step_8 : decode cX9_step 8 = .ok (.aload_n 0, 1) := by decide +kernel
theorem dX9_step_9 : decode cX9_step 9 = .ok (.aload_n 0, 1) := by decide +kernel
theorem dX9_step_10 : decode cX9_step 10 = .ok (.getfield 75, 3) := by decide +kernel
theorem dX9_step_13 : decode cX9_step 13 = .ok (.invokevirtual 78, 3) := by decide +kernel
theorem dX9_step_16 : decode cX9_step 16 = .ok (.bipush 32, 2) := by decide +kernel
theorem dX9_step_18 : decode cX9_step 18 = .ok (.if_icmp .ne 16, 3) := by decide +kernel
theorem dX9_step_21 : decode cX9_step 21 = .ok (.aload_n 0, 1) := by decide +kernel
theorem dX9_step_22 : decode cX9_step 22 = .ok (.dup, 1) := by decide +kernel
theorem dX9_step_23 : decode cX9_step 23 = .ok (.getfield 75, 3) := by decide +kernel
theorem dX9_step_26 : decode cX9_step 26 = .ok (.iconst 1, 1) := by decide +kernel
theorem dX9_step_27 : decode cX9_step 27 = .ok (.iadd, 1) := by decide +kernel
theorem dX9_step_28 : decode cX9_step 28 = .ok (.putfield 75, 3) := by decide +kernel
theorem dX9_step_31 : decode cX9_step 31 = .ok (.goto (-23), 3) := by decide +kernel
theorem dX9_step_34 : decode cX9_step 34 = .ok (.aload_n 0, 1) := by decide +kernel
theorem dX9_step_35 : decode cX9_step 35 = .ok (.aload_n 0, 1) := by decide +kernel
theorem dX9_step_36 : decode cX9_step 36 = .ok (.getfield 75, 3) := by decide +kernel
theorem dX9_step_39 : decode cX9_step 39 = .ok (.putfield 66, 3) := by decide +kernel
theorem dX9_step_42 : decode cX9_step 42 = .ok (.aload_n 0, 1) := by decide +kernel
theorem dX9_step_43 : decode cX9_step 43 = .ok (.aload_n 0, 1) := by decide +kernel
theorem dX9_step_44 : decode cX9_step 44 = .ok (.getfield 75, 3) := by decide +kernel
theorem dX9_step_47 : decode cX9_step 47 = .ok (.invokevirtual 78, 3) := by decide +kernel
theorem dX9_step_50 : decode cX9_step 50 = .ok (.istore_n 1, 1) := by decide +kernel
theorem dX9_step_51 : decode cX9_step 51 = .ok (.aload_n 0, 1) := by decide +kernel
theorem dX9_step_52 : decode cX9_step 52 = .ok (.iconst 0, 1) := by decide +kernel
theorem dX9_step_53 : decode cX9_step 53 = .ok (.putfield 82, 3) := by decide +kernel
theorem dX9_step_56 : decode cX9_step 56 = .ok (.iload_n 1, 1) := by decide +kernel
theorem dX9_step_57 : decode cX9_step 57 = .ok (.bipush (-4), 2) := by decide +kernel
theorem dX9_step_59 : decode cX9_step 59 = .ok (.if_icmp .ne 11, 3) := by decide +kernel
theorem dX9_step_62 : decode cX9_step 62 = .ok (.aload_n 0, 1) := by decide +kernel
theorem dX9_step_63 : decode cX9_step 63 = .ok (.iconst 0, 1) := by decide +kernel
theorem dX9_step_64 : decode cX9_step 64 = .ok (.putfield 72, 3) := by decide +kernel
theorem dX9_step_67 : decode cX9_step 67 = .ok (.goto 202, 3) := by decide +kernel
theorem dX9_step_70 : decode cX9_step 70 = .ok (.iload_n 1, 1) := by decide +kernel
theorem dX9_step_71 : decode cX9_step 71 = .ok (.i2l, 1) := by decide +kernel
theorem dX9_step_72 : decode cX9_step 72 = .ok (.ldc2_w 85, 3) := by decide +kernel
theorem dX9_step_75 : decode cX9_step 75 = .ok (.ldc2_w 87, 3) := by decide +kernel
theorem dX9_step_78 : decode cX9_step 78 = .ok (.invokestatic 55, 3) := by decide +kernel
theorem dX9_step_81 : decode cX9_step 81 = .ok (.ifCond .eq 45, 3) := by decide +kernel
theorem dX9_step_84 : decode cX9_step 84 = .ok (.aload_n 0, 1) := by decide +kernel
theorem dX9_step_85 : decode cX9_step 85 = .ok (.aload_n 0, 1) := by decide +kernel
theorem dX9_step_86 : decode cX9_step 86 = .ok (.getfield 75, 3) := by decide +kernel
theorem dX9_step_89 : decode cX9_step 89 = .ok (.invokevirtual 78, 3) := by decide +kernel
theorem dX9_step_92 : decode cX9_step 92 = .ok (.i2l, 1) := by decide +kernel
theorem dX9_step_93 : decode cX9_step 93 = .ok (.ldc2_w 85, 3) := by decide +kernel
theorem dX9_step_96 : decode cX9_step 96 = .ok (.ldc2_w 87, 3) := by decide +kernel
theorem dX9_step_99 : decode cX9_step 99 = .ok (.invokestatic 55, 3) := by decide +kernel
theorem dX9_step_102 : decode cX9_step 102 = .ok (.ifCond .eq 16, 3) := by decide +kernel
theorem dX9_step_105 : decode cX9_step 105 = .ok (.aload_n 0, 1) := by decide +kernel
theorem dX9_step_106 : decode cX9_step 106 = .ok (.dup, 1) := by decide +kernel
theorem dX9_step_107 : decode cX9_step 107 = .ok (.getfield 75, 3) := by decide +kernel
theorem dX9_step_110 : decode cX9_step 110 = .ok (.iconst 1, 1) := by decide +kernel
theorem dX9_step_111 : decode cX9_step 111 = .ok (.iadd, 1) := by decide +kernel
theorem dX9_step_112 : decode cX9_step 112 = .ok (.putfield 75, 3) := by decide +kernel
theorem dX9_step_115 : decode cX9_step 115 = .ok (.goto (-31), 3) := by decide +kernel
theorem dX9_step_118 : decode cX9_step 118 = .ok (.aload_n 0, 1) := by decide +kernel
theorem dX9_step_119 : decode cX9_step 119 = .ok (.iconst 1, 1) := by decide +kernel
theorem dX9_step_120 : decode cX9_step 120 = .ok (.putfield 72, 3) := by decide +kernel
theorem dX9_step_123 : decode cX9_step 123 = .ok (.goto 146, 3) := by decide +kernel
theorem dX9_step_126 : decode cX9_step 126 = .ok (.iload_n 1, 1) := by decide +kernel
theorem dX9_step_127 : decode cX9_step 127 = .ok (.i2l, 1) := by decide +kernel
theorem dX9_step_128 : decode cX9_step 128 = .ok (.ldc2_w 89, 3) := by decide +kernel
theorem dX9_step_131 : decode cX9_step 131 = .ok (.ldc2_w 91, 3) := by decide +kernel
theorem dX9_step_134 : decode cX9_step 134 = .ok (.invokestatic 55, 3) := by decide +kernel
theorem dX9_step_137 : decode cX9_step 137 = .ok (.ifCond .eq 106, 3) := by decide +kernel
theorem dX9_step_140 : decode cX9_step 140 = .ok (.aload_n 0, 1) := by decide +kernel
theorem dX9_step_141 : decode cX9_step 141 = .ok (.aload_n 0, 1) := by decide +kernel
theorem dX9_step_142 : decode cX9_step 142 = .ok (.getfield 75, 3) := by decide +kernel
theorem dX9_step_145 : decode cX9_step 145 = .ok (.invokevirtual 78, 3) := by decide +kernel
theorem dX9_step_148 : decode cX9_step 148 = .ok (.i2l, 1) := by decide +kernel
theorem dX9_step_149 : decode cX9_step 149 = .ok (.ldc2_w 89, 3) := by decide +kernel
theorem dX9_step_152 : decode cX9_step 152 = .ok (.ldc2_w 91, 3) := by decide +kernel
theorem dX9_step_155 : decode cX9_step 155 = .ok (.invokestatic 55, 3) := by decide +kernel
theorem dX9_step_158 : decode cX9_step 158 = .ok (.ifCond .eq 59, 3) := by decide +kernel
theorem dX9_step_161 : decode cX9_step 161 = .ok (.aload_n 0, 1) := by decide +kernel
theorem dX9_step_162 : decode cX9_step 162 = .ok (.aload_n 0, 1) := by decide +kernel
theorem dX9_step_163 : decode cX9_step 163 = .ok (.getfield 75, 3) := by decide +kernel
theorem dX9_step_166 : decode cX9_step 166 = .ok (.aload_n 0, 1) := by decide +kernel
theorem dX9_step_167 : decode cX9_step 167 = .ok (.getfield 66, 3) := by decide +kernel
theorem dX9_step_170 : decode cX9_step 170 = .ok (.isub, 1) := by decide +kernel
theorem dX9_step_171 : decode cX9_step 171 = .ok (.iconst 2, 1) := by decide +kernel
theorem dX9_step_172 : decode cX9_step 172 = .ok (.if_icmp .ge 25, 3) := by decide +kernel
theorem dX9_step_175 : decode cX9_step 175 = .ok (.bipush 10, 2) := by decide +kernel
theorem dX9_step_177 : decode cX9_step 177 = .ok (.aload_n 0, 1) := by decide +kernel
theorem dX9_step_178 : decode cX9_step 178 = .ok (.getfield 82, 3) := by decide +kernel
theorem dX9_step_181 : decode cX9_step 181 = .ok (.imul, 1) := by decide +kernel
theorem dX9_step_182 : decode cX9_step 182 = .ok (.aload_n 0, 1) := by decide +kernel
theorem dX9_step_183 : decode cX9_step 183 = .ok (.aload_n 0, 1) := by decide +kernel
theorem dX9_step_184 : decode cX9_step 184 = .ok (.getfield 75, 3) := by decide +kernel
theorem dX9_step_187 : decode cX9_step 187 = .ok (.invokevirtual 78, 3) := by decide +kernel
theorem dX9_step_190 : decode cX9_step 190 = .ok (.iadd, 1) := by decide +kernel
theorem dX9_step_191 : decode cX9_step 191 = .ok (.bipush 48, 2) := by decide +kernel
theorem dX9_step_193 : decode cX9_step 193 = .ok (.isub, 1) := by decide +kernel
theorem dX9_step_194 : decode cX9_step 194 = .ok (.goto 7, 3) := by decide +kernel
theorem dX9_step_197 : decode cX9_step 197 = .ok (.aload_n 0, 1) := by decide +kernel
theorem dX9_step_198 : decode cX9_step 198 = .ok (.getfield 82, 3) := by decide +kernel
theorem dX9_step_201 : decode cX9_step 201 = .ok (.putfield 82, 3) := by decide +kernel
theorem dX9_step_204 : decode cX9_step 204 = .ok (.aload_n 0, 1) := by decide +kernel
theorem dX9_step_205 : decode cX9_step 205 = .ok (.dup, 1) := by decide +kernel
theorem dX9_step_206 : decode cX9_step 206 = .ok (.getfield 75, 3) := by decide +kernel
theorem dX9_step_209 : decode cX9_step 209 = .ok (.iconst 1, 1) := by decide +kernel
theorem dX9_step_210 : decode cX9_step 210 = .ok (.iadd, 1) := by decide +kernel
theorem dX9_step_211 : decode cX9_step 211 = .ok (.putfield 75, 3) := by decide +kernel
theorem dX9_step_214 : decode cX9_step 214 = .ok (.goto (-74), 3) := by decide +kernel
theorem dX9_step_217 : decode cX9_step 217 = .ok (.aload_n 0, 1) := by decide +kernel
theorem dX9_step_218 : decode cX9_step 218 = .ok (.iconst 2, 1) := by decide +kernel
theorem dX9_step_219 : decode cX9_step 219 = .ok (.putfield 72, 3) := by decide +kernel
theorem dX9_step_222 : decode cX9_step 222 = .ok (.aload_n 0, 1) := by decide +kernel
theorem dX9_step_223 : decode cX9_step 223 = .ok (.getfield 75, 3) := by decide +kernel
theorem dX9_step_226 : decode cX9_step 226 = .ok (.aload_n 0, 1) := by decide +kernel
theorem dX9_step_227 : decode cX9_step 227 = .ok (.getfield 66, 3) := by decide +kernel
theorem dX9_step_230 : decode cX9_step 230 = .ok (.isub, 1) := by decide +kernel
theorem dX9_step_231 : decode cX9_step 231 = .ok (.iconst 2, 1) := by decide +kernel
theorem dX9_step_232 : decode cX9_step 232 = .ok (.if_icmp .le 37, 3) := by decide +kernel
theorem dX9_step_235 : decode cX9_step 235 = .ok (.aload_n 0, 1) := by decide +kernel
theorem dX9_step_236 : decode cX9_step 236 = .ok (.iconst 1, 1) := by decide +kernel
theorem dX9_step_237 : decode cX9_step 237 = .ok (.invokevirtual 93, 3) := by decide +kernel
theorem dX9_step_240 : decode cX9_step 240 = .ok (.goto 29, 3) := by decide +kernel
theorem dX9_step_243 : decode cX9_step 243 = .ok (.aload_n 0, 1) := by decide +kernel
theorem dX9_step_244 : decode cX9_step 244 = .ok (.iconst 3, 1) := by decide +kernel
theorem dX9_step_245 : decode cX9_step 245 = .ok (.putfield 72, 3) := by decide +kernel
theorem dX9_step_248 : decode cX9_step 248 = .ok (.aload_n 0, 1) := by decide +kernel
theorem dX9_step_249 : decode cX9_step 249 = .ok (.dup, 1) := by decide +kernel
theorem dX9_step_250 : decode cX9_step 250 = .ok (.getfield 75, 3) := by decide +kernel
theorem dX9_step_253 : decode cX9_step 253 = .ok (.iconst 1, 1) := by decide +kernel
theorem dX9_step_254 : decode cX9_step 254 = .ok (.iadd, 1) := by decide +kernel
theorem dX9_step_255 : decode cX9_step 255 = .ok (.putfield 75, 3) := by decide +kernel
theorem dX9_step_258 : decode cX9_step 258 = .ok (.iload_n 1, 1) := by decide +kernel
theorem dX9_step_259 : decode cX9_step 259 = .ok (.bipush 59, 2) := by decide +kernel
theorem dX9_step_261 : decode cX9_step 261 = .ok (.if_icmp .eq 8, 3) := by decide +kernel
theorem dX9_step_264 : decode cX9_step 264 = .ok (.aload_n 0, 1) := by decide +kernel
theorem dX9_step_265 : decode cX9_step 265 = .ok (.iconst 1, 1) := by decide +kernel
theorem dX9_step_266 : decode cX9_step 266 = .ok (.invokevirtual 93, 3) := by decide +kernel
theorem dX9_step_269 : decode cX9_step 269 = .ok (.return_, 1) := by decide +kernel
theorem dX9_number_0 : decode cX9_number 0 = .ok (.aload_n 0, 1) := by decide +kernel
theorem dX9_number_1 : decode cX9_number 1 = .ok (.getfield 63, 3) := by decide +kernel
theorem dX9_number_4 : decode cX9_number 4 = .ok (.ifCond .ne 16, 3) := by decide +kernel
theorem dX9_number_7 : decode cX9_number 7 = .ok (.aload_n 0, 1) := by decide +kernel
theorem dX9_number_8 : decode cX9_number 8 = .ok (.getfield 72, 3) := by decide +kernel
theorem dX9_number_11 : decode cX9_number 11 = .ok (.iconst 2, 1) := by decide +kernel
theorem dX9_number_12 : decode cX9_number 12 = .ok (.if_icmp .eq 8, 3) := by decide +kernel
theorem dX9_number_15 : decode cX9_number 15 = .ok (.aload_n 0, 1) := by decide +kernel
theorem dX9_number_16 : decode cX9_number 16 = .ok (.iconst 2, 1) := by decide +kernel
theorem dX9_number_17 : decode cX9_number 17 = .ok (.invokevirtual 93, 3) := by decide +kernel
theorem dX9_number_20 : decode cX9_number 20 = .ok (.aload_n 0, 1) := by decide +kernel
theorem dX9_number_21 : decode cX9_number 21 = .ok (.getfield 63, 3) := by decide +kernel
theorem dX9_number_24 : decode cX9_number 24 = .ok (.ifCond .ne 23, 3) := by decide +kernel
theorem dX9_number_27 : decode cX9_number 27 = .ok (.aload_n 0, 1) := by decide +kernel
theorem dX9_number_28 : decode cX9_number 28 = .ok (.getfield 82, 3) := by decide +kernel
theorem dX9_number_31 : decode cX9_number 31 = .ok (.i2l, 1) := by decide +kernel
theorem dX9_number_32 : decode cX9_number 32 = .ok (.iload_n 1, 1) := by decide +kernel
theorem dX9_number_33 : decode cX9_number 33 = .ok (.i2l, 1) := by decide +kernel
theorem dX9_number_34 : decode cX9_number 34 = .ok (.iload_n 2, 1) := by decide +kernel
theorem dX9_number_35 : decode cX9_number 35 = .ok (.i2l, 1) := by decide +kernel
theorem dX9_number_36 : decode cX9_number 36 = .ok (.invokestatic 55, 3) := by decide +kernel
theorem dX9_number_39 : decode cX9_number 39 = .ok (.ifCond .ne 8, 3) := by decide +kernel
theorem dX9_number_42 : decode cX9_number 42 = .ok (.aload_n 0, 1) := by decide +kernel
theorem dX9_number_43 : decode cX9_number 43 = .ok (.iconst 3, 1) := by decide +kernel
theorem dX9_number_44 : decode cX9_number 44 = .ok (.invokevirtual 93, 3) := by decide +kernel
theorem dX9_number_47 : decode cX9_number 47 = .ok (.aload_n 0, 1) := by decide +kernel
theorem dX9_number_48 : decode cX9_number 48 = .ok (.getfield 63, 3) := by decide +kernel
theorem dX9_number_51 : decode cX9_number 51 = .ok (.ifCond .ne 10, 3) := by decide +kernel
theorem dX9_number_54 : decode cX9_number 54 = .ok (.aload_n 0, 1) := by decide +kernel
theorem dX9_number_55 : decode cX9_number 55 = .ok (.getfield 82, 3) := by decide +kernel
theorem dX9_number_58 : decode cX9_number 58 = .ok (.goto 4, 3) := by decide +kernel
theorem dX9_number_61 : decode cX9_number 61 = .ok (.iload_n 1, 1) := by decide +kernel
theorem dX9_number_62 : decode cX9_number 62 = .ok (.istore_n 3, 1) := by decide +kernel
theorem dX9_number_63 : decode cX9_number 63 = .ok (.aload_n 0, 1) := by decide +kernel
theorem dX9_number_64 : decode cX9_number 64 = .ok (.invokevirtual 97, 3) := by decide +kernel
theorem dX9_number_67 : decode cX9_number 67 = .ok (.iload_n 3, 1) := by decide +kernel
theorem dX9_number_68 : decode cX9_number 68 = .ok (.ireturn, 1) := by decide +kernel
theorem dX9_readMan_0 : decode cX9_readMan 0 = .ok (.aload_n 0, 1) := by decide +kernel
theorem dX9_readMan_1 : decode cX9_readMan 1 = .ok (.getfield 100, 3) := by decide +kernel
theorem dX9_readMan_4 : decode cX9_readMan 4 = .ok (.istore_n 2, 1) := by decide +kernel
theorem dX9_readMan_5 : decode cX9_readMan 5 = .ok (.aload_n 0, 1) := by decide +kernel
theorem dX9_readMan_6 : decode cX9_readMan 6 = .ok (.getfield 13, 3) := by decide +kernel
theorem dX9_readMan_9 : decode cX9_readMan 9 = .ok (.iload_n 2, 1) := by decide +kernel
theorem dX9_readMan_10 : decode cX9_readMan 10 = .ok (.iload_n 1, 1) := by decide +kernel
theorem dX9_readMan_11 : decode cX9_readMan 11 = .ok (.iastore, 1) := by decide +kernel
theorem dX9_readMan_12 : decode cX9_readMan 12 = .ok (.aload_n 0, 1) := by decide +kernel
theorem dX9_readMan_13 : decode cX9_readMan 13 = .ok (.getfield 13, 3) := by decide +kernel
theorem dX9_readMan_16 : decode cX9_readMan 16 = .ok (.iconst 4, 1) := by decide +kernel
theorem dX9_readMan_17 : decode cX9_readMan 17 = .ok (.iload_n 2, 1) := by decide +kernel
theorem dX9_readMan_18 : decode cX9_readMan 18 = .ok (.iadd, 1) := by decide +kernel
theorem dX9_readMan_19 : decode cX9_readMan 19 = .ok (.aload_n 0, 1) := by decide +kernel
theorem dX9_readMan_20 : decode cX9_readMan 20 = .ok (.iconst 0, 1) := by decide +kernel
theorem dX9_readMan_21 : decode cX9_readMan 21 = .ok (.bipush 9, 2) := by decide +kernel
theorem dX9_readMan_23 : decode cX9_readMan 23 = .ok (.invokevirtual 103, 3) := by decide +kernel
theorem dX9_readMan_26 : decode cX9_readMan 26 = .ok (.iastore, 1) := by decide +kernel
theorem dX9_readMan_27 : decode cX9_readMan 27 = .ok (.aload_n 0, 1) := by decide +kernel
theorem dX9_readMan_28 : decode cX9_readMan 28 = .ok (.getfield 13, 3) := by decide +kernel
theorem dX9_readMan_31 : decode cX9_readMan 31 = .ok (.bipush 12, 2) := by decide +kernel
theorem dX9_readMan_33 : decode cX9_readMan 33 = .ok (.iconst 4, 1) := by decide +kernel
theorem dX9_readMan_34 : decode cX9_readMan 34 = .ok (.iload_n 2, 1) := by decide +kernel
theorem dX9_readMan_35 : decode cX9_readMan 35 = .ok (.imul, 1) := by decide +kernel
theorem dX9_readMan_36 : decode cX9_readMan 36 = .ok (.iadd, 1) := by decide +kernel
theorem dX9_readMan_37 : decode cX9_readMan 37 = .ok (.aload_n 0, 1) := by decide +kernel
theorem dX9_readMan_38 : decode cX9_readMan 38 = .ok (.iconst 0, 1) := by decide +kernel
theorem dX9_readMan_39 : decode cX9_readMan 39 = .ok (.bipush 7, 2) := by decide +kernel
theorem dX9_readMan_41 : decode cX9_readMan 41 = .ok (.invokevirtual 103, 3) := by decide +kernel
theorem dX9_readMan_44 : decode cX9_readMan 44 = .ok (.iastore, 1) := by decide +kernel
theorem dX9_readMan_45 : decode cX9_readMan 45 = .ok (.iconst 1, 1) := by decide +kernel
theorem dX9_readMan_46 : decode cX9_readMan 46 = .ok (.istore_n 3, 1) := by decide +kernel
theorem dX9_readMan_47 : decode cX9_readMan 47 = .ok (.aload_n 0, 1) := by decide +kernel
theorem dX9_readMan_48 : decode cX9_readMan 48 = .ok (.getfield 63, 3) := by decide +kernel
theorem dX9_readMan_51 : decode cX9_readMan 51 = .ok (.ifCond .ne 50, 3) := by decide +kernel
theorem dX9_readMan_54 : decode cX9_readMan 54 = .ok (.aload_n 0, 1) := by decide +kernel
theorem dX9_readMan_55 : decode cX9_readMan 55 = .ok (.getfield 72, 3) := by decide +kernel
theorem dX9_readMan_58 : decode cX9_readMan 58 = .ok (.iconst 2, 1) := by decide +kernel
theorem dX9_readMan_59 : decode cX9_readMan 59 = .ok (.if_icmp .ne 42, 3) := by decide +kernel
theorem dX9_readMan_62 : decode cX9_readMan 62 = .ok (.iload_n 3, 1) := by decide +kernel
theorem dX9_readMan_63 : decode cX9_readMan 63 = .ok (.iconst 4, 1) := by decide +kernel
theorem dX9_readMan_64 : decode cX9_readMan 64 = .ok (.if_icmp .ne 11, 3) := by decide +kernel
theorem dX9_readMan_67 : decode cX9_readMan 67 = .ok (.aload_n 0, 1) := by decide +kernel
theorem dX9_readMan_68 : decode cX9_readMan 68 = .ok (.iconst 5, 1) := by decide +kernel
theorem dX9_readMan_69 : decode cX9_readMan 69 = .ok (.invokevirtual 93, 3) := by decide +kernel
theorem dX9_readMan_72 : decode cX9_readMan 72 = .ok (.goto (-25), 3) := by decide +kernel
theorem dX9_readMan_75 : decode cX9_readMan 75 = .ok (.aload_n 0, 1) := by decide +kernel
theorem dX9_readMan_76 : decode cX9_readMan 76 = .ok (.getfield 13, 3) := by decide +kernel
theorem dX9_readMan_79 : decode cX9_readMan 79 = .ok (.bipush 12, 2) := by decide +kernel
theorem dX9_readMan_81 : decode cX9_readMan 81 = .ok (.iconst 4, 1) := by decide +kernel
theorem dX9_readMan_82 : decode cX9_readMan 82 = .ok (.iload_n 2, 1) := by decide +kernel
theorem dX9_readMan_83 : decode cX9_readMan 83 = .ok (.imul, 1) := by decide +kernel
theorem dX9_readMan_84 : decode cX9_readMan 84 = .ok (.iadd, 1) := by decide +kernel
theorem dX9_readMan_85 : decode cX9_readMan 85 = .ok (.iload_n 3, 1) := by decide +kernel
theorem dX9_readMan_86 : decode cX9_readMan 86 = .ok (.iadd, 1) := by decide +kernel
theorem dX9_readMan_87 : decode cX9_readMan 87 = .ok (.aload_n 0, 1) := by decide +kernel
theorem dX9_readMan_88 : decode cX9_readMan 88 = .ok (.iconst 0, 1) := by decide +kernel
theorem dX9_readMan_89 : decode cX9_readMan 89 = .ok (.bipush 7, 2) := by decide +kernel
theorem dX9_readMan_91 : decode cX9_readMan 91 = .ok (.invokevirtual 103, 3) := by decide +kernel
theorem dX9_readMan_94 : decode cX9_readMan 94 = .ok (.iastore, 1) := by decide +kernel
theorem dX9_readMan_95 : decode cX9_readMan 95 = .ok (.iinc 3 1, 3) := by decide +kernel
theorem dX9_readMan_98 : decode cX9_readMan 98 = .ok (.goto (-51), 3) := by decide +kernel
theorem dX9_readMan_101 : decode cX9_readMan 101 = .ok (.aload_n 0, 1) := by decide +kernel
theorem dX9_readMan_102 : decode cX9_readMan 102 = .ok (.getfield 13, 3) := by decide +kernel
theorem dX9_readMan_105 : decode cX9_readMan 105 = .ok (.bipush 8, 2) := by decide +kernel
theorem dX9_readMan_107 : decode cX9_readMan 107 = .ok (.iload_n 2, 1) := by decide +kernel
theorem dX9_readMan_108 : decode cX9_readMan 108 = .ok (.iadd, 1) := by decide +kernel
theorem dX9_readMan_109 : decode cX9_readMan 109 = .ok (.iload_n 3, 1) := by decide +kernel
theorem dX9_readMan_110 : decode cX9_readMan 110 = .ok (.iastore, 1) := by decide +kernel
theorem dX9_readMan_111 : decode cX9_readMan 111 = .ok (.aload_n 0, 1) := by decide +kernel
theorem dX9_readMan_112 : decode cX9_readMan 112 = .ok (.dup, 1) := by decide +kernel
theorem dX9_readMan_113 : decode cX9_readMan 113 = .ok (.getfield 100, 3) := by decide +kernel
theorem dX9_readMan_116 : decode cX9_readMan 116 = .ok (.iconst 1, 1) := by decide +kernel
theorem dX9_readMan_117 : decode cX9_readMan 117 = .ok (.iadd, 1) := by decide +kernel
theorem dX9_readMan_118 : decode cX9_readMan 118 = .ok (.putfield 100, 3) := by decide +kernel
theorem dX9_readMan_121 : decode cX9_readMan 121 = .ok (.return_, 1) := by decide +kernel
theorem dX9_readStreet_0 : decode cX9_readStreet 0 = .ok (.aload_n 0, 1) := by decide +kernel
theorem dX9_readStreet_1 : decode cX9_readStreet 1 = .ok (.getfield 13, 3) := by decide +kernel
theorem dX9_readStreet_4 : decode cX9_readStreet 4 = .ok (.bipush 42, 2) := by decide +kernel
theorem dX9_readStreet_6 : decode cX9_readStreet 6 = .ok (.iaload, 1) := by decide +kernel
theorem dX9_readStreet_7 : decode cX9_readStreet 7 = .ok (.istore_n 1, 1) := by decide +kernel
theorem dX9_readStreet_8 : decode cX9_readStreet 8 = .ok (.aload_n 0, 1) := by decide +kernel
theorem dX9_readStreet_9 : decode cX9_readStreet 9 = .ok (.iconst 0, 1) := by decide +kernel
theorem dX9_readStreet_10 : decode cX9_readStreet 10 = .ok (.bipush 7, 2) := by decide +kernel
theorem dX9_readStreet_12 : decode cX9_readStreet 12 = .ok (.invokevirtual 103, 3) := by decide +kernel
theorem dX9_readStreet_15 : decode cX9_readStreet 15 = .ok (.istore_n 2, 1) := by decide +kernel
theorem dX9_readStreet_16 : decode cX9_readStreet 16 = .ok (.aload_n 0, 1) := by decide +kernel
theorem dX9_readStreet_17 : decode cX9_readStreet 17 = .ok (.getfield 63, 3) := by decide +kernel
theorem dX9_readStreet_20 : decode cX9_readStreet 20 = .ok (.ifCond .ne 24, 3) := by decide +kernel
theorem dX9_readStreet_23 : decode cX9_readStreet 23 = .ok (.aload_n 0, 1) := by decide +kernel
theorem dX9_readStreet_24 : decode cX9_readStreet 24 = .ok (.getfield 72, 3) := by decide +kernel
theorem dX9_readStreet_27 : decode cX9_readStreet 27 = .ok (.iconst 2, 1) := by decide +kernel
theorem dX9_readStreet_28 : decode cX9_readStreet 28 = .ok (.if_icmp .ne 16, 3) := by decide +kernel
theorem dX9_readStreet_31 : decode cX9_readStreet 31 = .ok (.aload_n 0, 1) := by decide +kernel
theorem dX9_readStreet_32 : decode cX9_readStreet 32 = .ok (.getfield 82, 3) := by decide +kernel
theorem dX9_readStreet_35 : decode cX9_readStreet 35 = .ok (.iload_n 2, 1) := by decide +kernel
theorem dX9_readStreet_36 : decode cX9_readStreet 36 = .ok (.if_icmp .ne 8, 3) := by decide +kernel
theorem dX9_readStreet_39 : decode cX9_readStreet 39 = .ok (.aload_n 0, 1) := by decide +kernel
theorem dX9_readStreet_40 : decode cX9_readStreet 40 = .ok (.iconst 3, 1) := by decide +kernel
theorem dX9_readStreet_41 : decode cX9_readStreet 41 = .ok (.invokevirtual 93, 3) := by decide +kernel
theorem dX9_readStreet_44 : decode cX9_readStreet 44 = .ok (.aload_n 0, 1) := by decide +kernel
theorem dX9_readStreet_45 : decode cX9_readStreet 45 = .ok (.getfield 13, 3) := by decide +kernel
theorem dX9_readStreet_48 : decode cX9_readStreet 48 = .ok (.bipush 43, 2) := by decide +kernel
theorem dX9_readStreet_50 : decode cX9_readStreet 50 = .ok (.iload_n 1, 1) := by decide +kernel
theorem dX9_readStreet_51 : decode cX9_readStreet 51 = .ok (.iadd, 1) := by decide +kernel
theorem dX9_readStreet_52 : decode cX9_readStreet 52 = .ok (.iload_n 2, 1) := by decide +kernel
theorem dX9_readStreet_53 : decode cX9_readStreet 53 = .ok (.iastore, 1) := by decide +kernel
theorem dX9_readStreet_54 : decode cX9_readStreet 54 = .ok (.aload_n 0, 1) := by decide +kernel
theorem dX9_readStreet_55 : decode cX9_readStreet 55 = .ok (.getfield 13, 3) := by decide +kernel
theorem dX9_readStreet_58 : decode cX9_readStreet 58 = .ok (.bipush 52, 2) := by decide +kernel
theorem dX9_readStreet_60 : decode cX9_readStreet 60 = .ok (.iload_n 1, 1) := by decide +kernel
theorem dX9_readStreet_61 : decode cX9_readStreet 61 = .ok (.iadd, 1) := by decide +kernel
theorem dX9_readStreet_62 : decode cX9_readStreet 62 = .ok (.aload_n 0, 1) := by decide +kernel
theorem dX9_readStreet_63 : decode cX9_readStreet 63 = .ok (.iconst 0, 1) := by decide +kernel
theorem dX9_readStreet_64 : decode cX9_readStreet 64 = .ok (.bipush 7, 2) := by decide +kernel
theorem dX9_readStreet_66 : decode cX9_readStreet 66 = .ok (.invokevirtual 103, 3) := by decide +kernel
theorem dX9_readStreet_69 : decode cX9_readStreet 69 = .ok (.iastore, 1) := by decide +kernel
theorem dX9_readStreet_70 : decode cX9_readStreet 70 = .ok (.aload_n 0, 1) := by decide +kernel
theorem dX9_readStreet_71 : decode cX9_readStreet 71 = .ok (.getfield 13, 3) := by decide +kernel
theorem dX9_readStreet_74 : decode cX9_readStreet 74 = .ok (.bipush 42, 2) := by decide +kernel
theorem dX9_readStreet_76 : decode cX9_readStreet 76 = .ok (.dup2, 1) := by decide +kernel
theorem dX9_readStreet_77 : decode cX9_readStreet 77 = .ok (.iaload, 1) := by decide +kernel
theorem dX9_readStreet_78 : decode cX9_readStreet 78 = .ok (.iconst 1, 1) := by decide +kernel
theorem dX9_readStreet_79 : decode cX9_readStreet 79 = .ok (.iadd, 1) := by decide +kernel
theorem dX9_readStreet_80 : decode cX9_readStreet 80 = .ok (.iastore, 1) := by decide +kernel
theorem dX9_readStreet_81 : decode cX9_readStreet 81 = .ok (.return_, 1) := by decide +kernel
theorem dX9_readReader_0 : decode cX9_readReader 0 = .ok (.aload_n 0, 1) := by decide +kernel
theorem dX9_readReader_1 : decode cX9_readReader 1 = .ok (.getfield 107, 3) := by decide +kernel
theorem dX9_readReader_4 : decode cX9_readReader 4 = .ok (.istore_n 1, 1) := by decide +kernel
theorem dX9_readReader_5 : decode cX9_readReader 5 = .ok (.aload_n 0, 1) := by decide +kernel
theorem dX9_readReader_6 : decode cX9_readReader 6 = .ok (.getfield 13, 3) := by decide +kernel
theorem dX9_readReader_9 : decode cX9_readReader 9 = .ok (.bipush 28, 2) := by decide +kernel
theorem dX9_readReader_11 : decode cX9_readReader 11 = .ok (.iload_n 1, 1) := by decide +kernel
theorem dX9_readReader_12 : decode cX9_readReader 12 = .ok (.iadd, 1) := by decide +kernel
theorem dX9_readReader_13 : decode cX9_readReader 13 = .ok (.aload_n 0, 1) := by decide +kernel
theorem dX9_readReader_14 : decode cX9_readReader 14 = .ok (.iconst 0, 1) := by decide +kernel
theorem dX9_readReader_15 : decode cX9_readReader 15 = .ok (.bipush 7, 2) := by decide +kernel
theorem dX9_readReader_17 : decode cX9_readReader 17 = .ok (.invokevirtual 103, 3) := by decide +kernel
theorem dX9_readReader_20 : decode cX9_readReader 20 = .ok (.iastore, 1) := by decide +kernel
theorem dX9_readReader_21 : decode cX9_readReader 21 = .ok (.aload_n 0, 1) := by decide +kernel
theorem dX9_readReader_22 : decode cX9_readReader 22 = .ok (.getfield 13, 3) := by decide +kernel
theorem dX9_readReader_25 : decode cX9_readReader 25 = .ok (.bipush 32, 2) := by decide +kernel
theorem dX9_readReader_27 : decode cX9_readReader 27 = .ok (.iload_n 1, 1) := by decide +kernel
theorem dX9_readReader_28 : decode cX9_readReader 28 = .ok (.iadd, 1) := by decide +kernel
theorem dX9_readReader_29 : decode cX9_readReader 29 = .ok (.aload_n 0, 1) := by decide +kernel
theorem dX9_readReader_30 : decode cX9_readReader 30 = .ok (.iconst 0, 1) := by decide +kernel
theorem dX9_readReader_31 : decode cX9_readReader 31 = .ok (.bipush 59, 2) := by decide +kernel
theorem dX9_readReader_33 : decode cX9_readReader 33 = .ok (.invokevirtual 103, 3) := by decide +kernel
theorem dX9_readReader_36 : decode cX9_readReader 36 = .ok (.iastore, 1) := by decide +kernel
theorem dX9_readReader_37 : decode cX9_readReader 37 = .ok (.aload_n 0, 1) := by decide +kernel
theorem dX9_readReader_38 : decode cX9_readReader 38 = .ok (.getfield 13, 3) := by decide +kernel
theorem dX9_readReader_41 : decode cX9_readReader 41 = .ok (.bipush 36, 2) := by decide +kernel
theorem dX9_readReader_43 : decode cX9_readReader 43 = .ok (.iload_n 1, 1) := by decide +kernel
theorem dX9_readReader_44 : decode cX9_readReader 44 = .ok (.iadd, 1) := by decide +kernel
theorem dX9_readReader_45 : decode cX9_readReader 45 = .ok (.aload_n 0, 1) := by decide +kernel
theorem dX9_readReader_46 : decode cX9_readReader 46 = .ok (.aload_n 0, 1) := by decide +kernel
theorem dX9_readReader_47 : decode cX9_readReader 47 = .ok (.getfield 13, 3) := by decide +kernel
theorem dX9_readReader_50 : decode cX9_readReader 50 = .ok (.bipush 32, 2) := by decide +kernel
theorem dX9_readReader_52 : decode cX9_readReader 52 = .ok (.iload_n 1, 1) := by decide +kernel
theorem dX9_readReader_53 : decode cX9_readReader 53 = .ok (.iadd, 1) := by decide +kernel
theorem dX9_readReader_54 : decode cX9_readReader 54 = .ok (.iaload, 1) := by decide +kernel
theorem dX9_readReader_55 : decode cX9_readReader 55 = .ok (.bipush 59, 2) := by decide +kernel
theorem dX9_readReader_57 : decode cX9_readReader 57 = .ok (.invokevirtual 103, 3) := by decide +kernel
theorem dX9_readReader_60 : decode cX9_readReader 60 = .ok (.iastore, 1) := by decide +kernel
theorem dX9_readReader_61 : decode cX9_readReader 61 = .ok (.aload_n 0, 1) := by decide +kernel
theorem dX9_readReader_62 : decode cX9_readReader 62 = .ok (.dup, 1) := by decide +kernel
theorem dX9_readReader_63 : decode cX9_readReader 63 = .ok (.getfield 107, 3) := by decide +kernel
theorem dX9_readReader_66 : decode cX9_readReader 66 = .ok (.iconst 1, 1) := by decide +kernel
theorem dX9_readReader_67 : decode cX9_readReader 67 = .ok (.iadd, 1) := by decide +kernel
theorem dX9_readReader_68 : decode cX9_readReader 68 = .ok (.putfield 107, 3) := by decide +kernel
theorem dX9_readReader_71 : decode cX9_readReader 71 = .ok (.return_, 1) := by decide +kernel
theorem dX9_readMore_0 : decode cX9_readMore 0 = .ok (.iload_n 1, 1) := by decide +kernel
theorem dX9_readMore_1 : decode cX9_readMore 1 = .ok (.iconst 3, 1) := by decide +kernel
theorem dX9_readMore_2 : decode cX9_readMore 2 = .ok (.if_icmp .gt 11, 3) := by decide +kernel
theorem dX9_readMore_5 : decode cX9_readMore 5 = .ok (.aload_n 0, 1) := by decide +kernel
theorem dX9_readMore_6 : decode cX9_readMore 6 = .ok (.iload_n 1, 1) := by decide +kernel
theorem dX9_readMore_7 : decode cX9_readMore 7 = .ok (.invokevirtual 110, 3) := by decide +kernel
theorem dX9_readMore_10 : decode cX9_readMore 10 = .ok (.goto 55, 3) := by decide +kernel
theorem dX9_readMore_13 : decode cX9_readMore 13 = .ok (.iload_n 1, 1) := by decide +kernel
theorem dX9_readMore_14 : decode cX9_readMore 14 = .ok (.iconst 4, 1) := by decide +kernel
theorem dX9_readMore_15 : decode cX9_readMore 15 = .ok (.if_icmp .ne 10, 3) := by decide +kernel
theorem dX9_readMore_18 : decode cX9_readMore 18 = .ok (.aload_n 0, 1) := by decide +kernel
theorem dX9_readMore_19 : decode cX9_readMore 19 = .ok (.invokevirtual 113, 3) := by decide +kernel
theorem dX9_readMore_22 : decode cX9_readMore 22 = .ok (.goto 43, 3) := by decide +kernel
theorem dX9_readMore_25 : decode cX9_readMore 25 = .ok (.iload_n 1, 1) := by decide +kernel
theorem dX9_readMore_26 : decode cX9_readMore 26 = .ok (.iconst 5, 1) := by decide +kernel
theorem dX9_readMore_27 : decode cX9_readMore 27 = .ok (.if_icmp .ne 10, 3) := by decide +kernel
theorem dX9_readMore_30 : decode cX9_readMore 30 = .ok (.aload_n 0, 1) := by decide +kernel
theorem dX9_readMore_31 : decode cX9_readMore 31 = .ok (.invokevirtual 116, 3) := by decide +kernel
theorem dX9_readMore_34 : decode cX9_readMore 34 = .ok (.goto 31, 3) := by decide +kernel
theorem dX9_readMore_37 : decode cX9_readMore 37 = .ok (.aload_n 0, 1) := by decide +kernel
theorem dX9_readMore_38 : decode cX9_readMore 38 = .ok (.getfield 13, 3) := by decide +kernel
theorem dX9_readMore_41 : decode cX9_readMore 41 = .ok (.bipush 40, 2) := by decide +kernel
theorem dX9_readMore_43 : decode cX9_readMore 43 = .ok (.aload_n 0, 1) := by decide +kernel
theorem dX9_readMore_44 : decode cX9_readMore 44 = .ok (.iconst 0, 1) := by decide +kernel
theorem dX9_readMore_45 : decode cX9_readMore 45 = .ok (.bipush 59, 2) := by decide +kernel
theorem dX9_readMore_47 : decode cX9_readMore 47 = .ok (.invokevirtual 103, 3) := by decide +kernel
theorem dX9_readMore_50 : decode cX9_readMore 50 = .ok (.iastore, 1) := by decide +kernel
theorem dX9_readMore_51 : decode cX9_readMore 51 = .ok (.aload_n 0, 1) := by decide +kernel
theorem dX9_readMore_52 : decode cX9_readMore 52 = .ok (.getfield 13, 3) := by decide +kernel
theorem dX9_readMore_55 : decode cX9_readMore 55 = .ok (.bipush 41, 2) := by decide +kernel
theorem dX9_readMore_57 : decode cX9_readMore 57 = .ok (.aload_n 0, 1) := by decide +kernel
theorem dX9_readMore_58 : decode cX9_readMore 58 = .ok (.iconst 0, 1) := by decide +kernel
theorem dX9_readMore_59 : decode cX9_readMore 59 = .ok (.bipush 59, 2) := by decide +kernel
theorem dX9_readMore_61 : decode cX9_readMore 61 = .ok (.invokevirtual 103, 3) := by decide +kernel
theorem dX9_readMore_64 : decode cX9_readMore 64 = .ok (.iastore, 1) := by decide +kernel
theorem dX9_readMore_65 : decode cX9_readMore 65 = .ok (.return_, 1) := by decide +kernel
theorem dX9_isFull_0 : decode cX9_isFull 0 = .ok (.iload_n 1, 1) := by decide +kernel
theorem dX9_isFull_1 : decode cX9_isFull 1 = .ok (.iconst 3, 1) := by decide +kernel
theorem dX9_isFull_2 : decode cX9_isFull 2 = .ok (.if_icmp .gt 11, 3) := by decide +kernel
theorem dX9_isFull_5 : decode cX9_isFull 5 = .ok (.aload_n 0, 1) := by decide +kernel
theorem dX9_isFull_6 : decode cX9_isFull 6 = .ok (.getfield 100, 3) := by decide +kernel
theorem dX9_isFull_9 : decode cX9_isFull 9 = .ok (.iconst 4, 1) := by decide +kernel
theorem dX9_isFull_10 : decode cX9_isFull 10 = .ok (.if_icmp .eq 33, 3) := by decide +kernel
theorem dX9_isFull_13 : decode cX9_isFull 13 = .ok (.iload_n 1, 1) := by decide +kernel
theorem dX9_isFull_14 : decode cX9_isFull 14 = .ok (.iconst 5, 1) := by decide +kernel
theorem dX9_isFull_15 : decode cX9_isFull 15 = .ok (.if_icmp .ne 11, 3) := by decide +kernel
theorem dX9_isFull_18 : decode cX9_isFull 18 = .ok (.aload_n 0, 1) := by decide +kernel
theorem dX9_isFull_19 : decode cX9_isFull 19 = .ok (.getfield 107, 3) := by decide +kernel
theorem dX9_isFull_22 : decode cX9_isFull 22 = .ok (.iconst 4, 1) := by decide +kernel
theorem dX9_isFull_23 : decode cX9_isFull 23 = .ok (.if_icmp .eq 20, 3) := by decide +kernel
theorem dX9_isFull_26 : decode cX9_isFull 26 = .ok (.iload_n 1, 1) := by decide +kernel
theorem dX9_isFull_27 : decode cX9_isFull 27 = .ok (.iconst 4, 1) := by decide +kernel
theorem dX9_isFull_28 : decode cX9_isFull 28 = .ok (.if_icmp .ne 19, 3) := by decide +kernel
theorem dX9_isFull_31 : decode cX9_isFull 31 = .ok (.aload_n 0, 1) := by decide +kernel
theorem dX9_isFull_32 : decode cX9_isFull 32 = .ok (.getfield 13, 3) := by decide +kernel
theorem dX9_isFull_35 : decode cX9_isFull 35 = .ok (.bipush 42, 2) := by decide +kernel
theorem dX9_isFull_37 : decode cX9_isFull 37 = .ok (.iaload, 1) := by decide +kernel
theorem dX9_isFull_38 : decode cX9_isFull 38 = .ok (.bipush 9, 2) := by decide +kernel
theorem dX9_isFull_40 : decode cX9_isFull 40 = .ok (.if_icmp .ne 7, 3) := by decide +kernel
theorem dX9_isFull_43 : decode cX9_isFull 43 = .ok (.iconst 1, 1) := by decide +kernel
theorem dX9_isFull_44 : decode cX9_isFull 44 = .ok (.goto 4, 3) := by decide +kernel
theorem dX9_isFull_47 : decode cX9_isFull 47 = .ok (.iconst 0, 1) := by decide +kernel
theorem dX9_isFull_48 : decode cX9_isFull 48 = .ok (.ireturn, 1) := by decide +kernel
theorem dX9_readLine_0 : decode cX9_readLine 0 = .ok (.aload_n 0, 1) := by decide +kernel
theorem dX9_readLine_1 : decode cX9_readLine 1 = .ok (.invokevirtual 119, 3) := by decide +kernel
theorem dX9_readLine_4 : decode cX9_readLine 4 = .ok (.istore_n 1, 1) := by decide +kernel
theorem dX9_readLine_5 : decode cX9_readLine 5 = .ok (.iload_n 1, 1) := by decide +kernel
theorem dX9_readLine_6 : decode cX9_readLine 6 = .ok (.i2l, 1) := by decide +kernel
theorem dX9_readLine_7 : decode cX9_readLine 7 = .ok (.lconst 0, 1) := by decide +kernel
theorem dX9_readLine_8 : decode cX9_readLine 8 = .ok (.ldc2_w 123, 3) := by decide +kernel
theorem dX9_readLine_11 : decode cX9_readLine 11 = .ok (.invokestatic 55, 3) := by decide +kernel
theorem dX9_readLine_14 : decode cX9_readLine 14 = .ok (.ifCond .ne 9, 3) := by decide +kernel
theorem dX9_readLine_17 : decode cX9_readLine 17 = .ok (.aload_n 0, 1) := by decide +kernel
theorem dX9_readLine_18 : decode cX9_readLine 18 = .ok (.iconst 2, 1) := by decide +kernel
theorem dX9_readLine_19 : decode cX9_readLine 19 = .ok (.invokevirtual 93, 3) := by decide +kernel
theorem dX9_readLine_22 : decode cX9_readLine 22 = .ok (.return_, 1) := by decide +kernel
theorem dX9_readLine_23 : decode cX9_readLine 23 = .ok (.aload_n 0, 1) := by decide +kernel
theorem dX9_readLine_24 : decode cX9_readLine 24 = .ok (.iload_n 1, 1) := by decide +kernel
theorem dX9_readLine_25 : decode cX9_readLine 25 = .ok (.invokevirtual 125, 3) := by decide +kernel
theorem dX9_readLine_28 : decode cX9_readLine 28 = .ok (.ifCond .eq 8, 3) := by decide +kernel
theorem dX9_readLine_31 : decode cX9_readLine 31 = .ok (.aload_n 0, 1) := by decide +kernel
theorem dX9_readLine_32 : decode cX9_readLine 32 = .ok (.iconst 5, 1) := by decide +kernel
theorem dX9_readLine_33 : decode cX9_readLine 33 = .ok (.invokevirtual 93, 3) := by decide +kernel
theorem dX9_readLine_36 : decode cX9_readLine 36 = .ok (.iload_n 1, 1) := by decide +kernel
theorem dX9_readLine_37 : decode cX9_readLine 37 = .ok (.bipush 6, 2) := by decide +kernel
theorem dX9_readLine_39 : decode cX9_readLine 39 = .ok (.if_icmp .ne 15, 3) := by decide +kernel
theorem dX9_readLine_42 : decode cX9_readLine 42 = .ok (.aload_n 0, 1) := by decide +kernel
theorem dX9_readLine_43 : decode cX9_readLine 43 = .ok (.getfield 129, 3) := by decide +kernel
theorem dX9_readLine_46 : decode cX9_readLine 46 = .ok (.ifCond .eq 8, 3) := by decide +kernel
theorem dX9_readLine_49 : decode cX9_readLine 49 = .ok (.aload_n 0, 1) := by decide +kernel
theorem dX9_readLine_50 : decode cX9_readLine 50 = .ok (.iconst 4, 1) := by decide +kernel
theorem dX9_readLine_51 : decode cX9_readLine 51 = .ok (.invokevirtual 93, 3) := by decide +kernel
theorem dX9_readLine_54 : decode cX9_readLine 54 = .ok (.aload_n 0, 1) := by decide +kernel
theorem dX9_readLine_55 : decode cX9_readLine 55 = .ok (.aload_n 0, 1) := by decide +kernel
theorem dX9_readLine_56 : decode cX9_readLine 56 = .ok (.getfield 129, 3) := by decide +kernel
theorem dX9_readLine_59 : decode cX9_readLine 59 = .ok (.ifCond .ne 9, 3) := by decide +kernel
theorem dX9_readLine_62 : decode cX9_readLine 62 = .ok (.iload_n 1, 1) := by decide +kernel
theorem dX9_readLine_63 : decode cX9_readLine 63 = .ok (.bipush 6, 2) := by decide +kernel
theorem dX9_readLine_65 : decode cX9_readLine 65 = .ok (.if_icmp .ne 7, 3) := by decide +kernel
theorem dX9_readLine_68 : decode cX9_readLine 68 = .ok (.iconst 1, 1) := by decide +kernel
theorem dX9_readLine_69 : decode cX9_readLine 69 = .ok (.goto 4, 3) := by decide +kernel
theorem dX9_readLine_72 : decode cX9_readLine 72 = .ok (.iconst 0, 1) := by decide +kernel
theorem dX9_readLine_73 : decode cX9_readLine 73 = .ok (.putfield 129, 3) := by decide +kernel
theorem dX9_readLine_76 : decode cX9_readLine 76 = .ok (.aload_n 0, 1) := by decide +kernel
theorem dX9_readLine_77 : decode cX9_readLine 77 = .ok (.invokevirtual 97, 3) := by decide +kernel
theorem dX9_readLine_80 : decode cX9_readLine 80 = .ok (.aload_n 0, 1) := by decide +kernel
theorem dX9_readLine_81 : decode cX9_readLine 81 = .ok (.getfield 63, 3) := by decide +kernel
theorem dX9_readLine_84 : decode cX9_readLine 84 = .ok (.ifCond .le 4, 3) := by decide +kernel
theorem dX9_readLine_87 : decode cX9_readLine 87 = .ok (.return_, 1) := by decide +kernel
theorem dX9_readLine_88 : decode cX9_readLine 88 = .ok (.aload_n 0, 1) := by decide +kernel
theorem dX9_readLine_89 : decode cX9_readLine 89 = .ok (.iload_n 1, 1) := by decide +kernel
theorem dX9_readLine_90 : decode cX9_readLine 90 = .ok (.invokevirtual 133, 3) := by decide +kernel
theorem dX9_readLine_93 : decode cX9_readLine 93 = .ok (.aload_n 0, 1) := by decide +kernel
theorem dX9_readLine_94 : decode cX9_readLine 94 = .ok (.getfield 63, 3) := by decide +kernel
theorem dX9_readLine_97 : decode cX9_readLine 97 = .ok (.ifCond .ne 16, 3) := by decide +kernel
theorem dX9_readLine_100 : decode cX9_readLine 100 = .ok (.aload_n 0, 1) := by decide +kernel
theorem dX9_readLine_101 : decode cX9_readLine 101 = .ok (.getfield 72, 3) := by decide +kernel
theorem dX9_readLine_104 : decode cX9_readLine 104 = .ok (.iconst 3, 1) := by decide +kernel
theorem dX9_readLine_105 : decode cX9_readLine 105 = .ok (.if_icmp .eq 8, 3) := by decide +kernel
theorem dX9_readLine_108 : decode cX9_readLine 108 = .ok (.aload_n 0, 1) := by decide +kernel
theorem dX9_readLine_109 : decode cX9_readLine 109 = .ok (.iconst 2, 1) := by decide +kernel
theorem dX9_readLine_110 : decode cX9_readLine 110 = .ok (.invokevirtual 93, 3) := by decide +kernel
theorem dX9_readLine_113 : decode cX9_readLine 113 = .ok (.aload_n 0, 1) := by decide +kernel
theorem dX9_readLine_114 : decode cX9_readLine 114 = .ok (.invokevirtual 97, 3) := by decide +kernel
theorem dX9_readLine_117 : decode cX9_readLine 117 = .ok (.return_, 1) := by decide +kernel
theorem dX9_areWalks_0 : decode cX9_areWalks 0 = .ok (.iconst 0, 1) := by decide +kernel
theorem dX9_areWalks_1 : decode cX9_areWalks 1 = .ok (.istore_n 1, 1) := by decide +kernel
theorem dX9_areWalks_2 : decode cX9_areWalks 2 = .ok (.iload_n 1, 1) := by decide +kernel
theorem dX9_areWalks_3 : decode cX9_areWalks 3 = .ok (.bipush 61, 2) := by decide +kernel
theorem dX9_areWalks_5 : decode cX9_areWalks 5 = .ok (.if_icmp .ge 25, 3) := by decide +kernel
theorem dX9_areWalks_8 : decode cX9_areWalks 8 = .ok (.aload_n 0, 1) := by decide +kernel
theorem dX9_areWalks_9 : decode cX9_areWalks 9 = .ok (.getfield 7, 3) := by decide +kernel
theorem dX9_areWalks_12 : decode cX9_areWalks 12 = .ok (.sipush 244, 3) := by decide +kernel
theorem dX9_areWalks_15 : decode cX9_areWalks 15 = .ok (.iload_n 1, 1) := by decide +kernel
theorem dX9_areWalks_16 : decode cX9_areWalks 16 = .ok (.iadd, 1) := by decide +kernel
theorem dX9_areWalks_17 : decode cX9_areWalks 17 = .ok (.aload_n 0, 1) := by decide +kernel
theorem dX9_areWalks_18 : decode cX9_areWalks 18 = .ok (.getfield 13, 3) := by decide +kernel
theorem dX9_areWalks_21 : decode cX9_areWalks 21 = .ok (.iload_n 1, 1) := by decide +kernel
theorem dX9_areWalks_22 : decode cX9_areWalks 22 = .ok (.iaload, 1) := by decide +kernel
theorem dX9_areWalks_23 : decode cX9_areWalks 23 = .ok (.iastore, 1) := by decide +kernel
theorem dX9_areWalks_24 : decode cX9_areWalks 24 = .ok (.iinc 1 1, 3) := by decide +kernel
theorem dX9_areWalks_27 : decode cX9_areWalks 27 = .ok (.goto (-25), 3) := by decide +kernel
theorem dX9_areWalks_30 : decode cX9_areWalks 30 = .ok (.iconst 1, 1) := by decide +kernel
theorem dX9_areWalks_31 : decode cX9_areWalks 31 = .ok (.istore_n 1, 1) := by decide +kernel
theorem dX9_areWalks_32 : decode cX9_areWalks 32 = .ok (.iconst 0, 1) := by decide +kernel
theorem dX9_areWalks_33 : decode cX9_areWalks 33 = .ok (.istore_n 2, 1) := by decide +kernel
theorem dX9_areWalks_34 : decode cX9_areWalks 34 = .ok (.iload_n 2, 1) := by decide +kernel
theorem dX9_areWalks_35 : decode cX9_areWalks 35 = .ok (.aload_n 0, 1) := by decide +kernel
theorem dX9_areWalks_36 : decode cX9_areWalks 36 = .ok (.getfield 100, 3) := by decide +kernel
theorem dX9_areWalks_39 : decode cX9_areWalks 39 = .ok (.if_icmp .ge 30, 3) := by decide +kernel
theorem dX9_areWalks_42 : decode cX9_areWalks 42 = .ok (.iload_n 1, 1) := by decide +kernel
theorem dX9_areWalks_43 : decode cX9_areWalks 43 = .ok (.ifCond .eq 18, 3) := by decide +kernel
theorem dX9_areWalks_46 : decode cX9_areWalks 46 = .ok (.aload_n 0, 1) := by decide +kernel
theorem dX9_areWalks_47 : decode cX9_areWalks 47 = .ok (.sipush 244, 3) := by decide +kernel
theorem dX9_areWalks_50 : decode cX9_areWalks 50 = .ok (.iload_n 2, 1) := by decide +kernel
theorem dX9_areWalks_51 : decode cX9_areWalks 51 = .ok (.invokevirtual 136, 3) := by decide +kernel
theorem dX9_areWalks_54 : decode cX9_areWalks 54 = .ok (.ifCond .eq 7, 3) := by decide +kernel
theorem dX9_areWalks_57 : decode cX9_areWalks 57 = .ok (.iconst 1, 1) := by decide +kernel
theorem dX9_areWalks_58 : decode cX9_areWalks 58 = .ok (.goto 4, 3) := by decide +kernel
theorem dX9_areWalks_61 : decode cX9_areWalks 61 = .ok (.iconst 0, 1) := by decide +kernel
theorem dX9_areWalks_62 : decode cX9_areWalks 62 = .ok (.istore_n 1, 1) := by decide +kernel
theorem dX9_areWalks_63 : decode cX9_areWalks 63 = .ok (.iinc 2 1, 3) := by decide +kernel
theorem dX9_areWalks_66 : decode cX9_areWalks 66 = .ok (.goto (-32), 3) := by decide +kernel
theorem dX9_areWalks_69 : decode cX9_areWalks 69 = .ok (.iload_n 1, 1) := by decide +kernel
theorem dX9_areWalks_70 : decode cX9_areWalks 70 = .ok (.ireturn, 1) := by decide +kernel
theorem dX9_text_0 : decode cX9_text 0 = .ok (.aload_n 0, 1) := by decide +kernel
theorem dX9_text_1 : decode cX9_text 1 = .ok (.iconst 0, 1) := by decide +kernel
theorem dX9_text_2 : decode cX9_text 2 = .ok (.putfield 63, 3) := by decide +kernel
theorem dX9_text_5 : decode cX9_text 5 = .ok (.aload_n 0, 1) := by decide +kernel
theorem dX9_text_6 : decode cX9_text 6 = .ok (.iconst 0, 1) := by decide +kernel
theorem dX9_text_7 : decode cX9_text 7 = .ok (.putfield 75, 3) := by decide +kernel
theorem dX9_text_10 : decode cX9_text 10 = .ok (.aload_n 0, 1) := by decide +kernel
theorem dX9_text_11 : decode cX9_text 11 = .ok (.iconst 0, 1) := by decide +kernel
theorem dX9_text_12 : decode cX9_text 12 = .ok (.putfield 100, 3) := by decide +kernel
theorem dX9_text_15 : decode cX9_text 15 = .ok (.aload_n 0, 1) := by decide +kernel
theorem dX9_text_16 : decode cX9_text 16 = .ok (.iconst 0, 1) := by decide +kernel
theorem dX9_text_17 : decode cX9_text 17 = .ok (.putfield 107, 3) := by decide +kernel
theorem dX9_text_20 : decode cX9_text 20 = .ok (.aload_n 0, 1) := by decide +kernel
theorem dX9_text_21 : decode cX9_text 21 = .ok (.iconst 0, 1) := by decide +kernel
theorem dX9_text_22 : decode cX9_text 22 = .ok (.putfield 129, 3) := by decide +kernel
theorem dX9_text_25 : decode cX9_text 25 = .ok (.iconst 0, 1) := by decide +kernel
theorem dX9_text_26 : decode cX9_text 26 = .ok (.istore_n 1, 1) := by decide +kernel
theorem dX9_text_27 : decode cX9_text 27 = .ok (.iconst 0, 1) := by decide +kernel
theorem dX9_text_28 : decode cX9_text 28 = .ok (.istore_n 2, 1) := by decide +kernel
theorem dX9_text_29 : decode cX9_text 29 = .ok (.iload_n 2, 1) := by decide +kernel
theorem dX9_text_30 : decode cX9_text 30 = .ok (.bipush 61, 2) := by decide +kernel
theorem dX9_text_32 : decode cX9_text 32 = .ok (.if_icmp .ge 16, 3) := by decide +kernel
theorem dX9_text_35 : decode cX9_text 35 = .ok (.aload_n 0, 1) := by decide +kernel
theorem dX9_text_36 : decode cX9_text 36 = .ok (.getfield 13, 3) := by decide +kernel
theorem dX9_text_39 : decode cX9_text 39 = .ok (.iload_n 2, 1) := by decide +kernel
theorem dX9_text_40 : decode cX9_text 40 = .ok (.iconst 0, 1) := by decide +kernel
theorem dX9_text_41 : decode cX9_text 41 = .ok (.iastore, 1) := by decide +kernel
theorem dX9_text_42 : decode cX9_text 42 = .ok (.iinc 2 1, 3) := by decide +kernel
theorem dX9_text_45 : decode cX9_text 45 = .ok (.goto (-16), 3) := by decide +kernel
theorem dX9_text_48 : decode cX9_text 48 = .ok (.aload_n 0, 1) := by decide +kernel
theorem dX9_text_49 : decode cX9_text 49 = .ok (.invokevirtual 97, 3) := by decide +kernel
theorem dX9_text_52 : decode cX9_text 52 = .ok (.aload_n 0, 1) := by decide +kernel
theorem dX9_text_53 : decode cX9_text 53 = .ok (.getfield 63, 3) := by decide +kernel
theorem dX9_text_56 : decode cX9_text 56 = .ok (.ifCond .ne 20, 3) := by decide +kernel
theorem dX9_text_59 : decode cX9_text 59 = .ok (.aload_n 0, 1) := by decide +kernel
theorem dX9_text_60 : decode cX9_text 60 = .ok (.getfield 72, 3) := by decide +kernel
theorem dX9_text_63 : decode cX9_text 63 = .ok (.ifCond .eq 13, 3) := by decide +kernel
theorem dX9_text_66 : decode cX9_text 66 = .ok (.aload_n 0, 1) := by decide +kernel
theorem dX9_text_67 : decode cX9_text 67 = .ok (.invokevirtual 140, 3) := by decide +kernel
theorem dX9_text_70 : decode cX9_text 70 = .ok (.iinc 1 1, 3) := by decide +kernel
theorem dX9_text_73 : decode cX9_text 73 = .ok (.goto (-21), 3) := by decide +kernel
theorem dX9_text_76 : decode cX9_text 76 = .ok (.aload_n 0, 1) := by decide +kernel
theorem dX9_text_77 : decode cX9_text 77 = .ok (.getfield 63, 3) := by decide +kernel
theorem dX9_text_80 : decode cX9_text 80 = .ok (.ifCond .ne 16, 3) := by decide +kernel
theorem dX9_text_83 : decode cX9_text 83 = .ok (.aload_n 0, 1) := by decide +kernel
theorem dX9_text_84 : decode cX9_text 84 = .ok (.invokevirtual 143, 3) := by decide +kernel
theorem dX9_text_87 : decode cX9_text 87 = .ok (.ifCond .ne 9, 3) := by decide +kernel
theorem dX9_text_90 : decode cX9_text 90 = .ok (.aload_n 0, 1) := by decide +kernel
theorem dX9_text_91 : decode cX9_text 91 = .ok (.bipush 6, 2) := by decide +kernel
theorem dX9_text_93 : decode cX9_text 93 = .ok (.invokevirtual 93, 3) := by decide +kernel
theorem dX9_text_96 : decode cX9_text 96 = .ok (.aload_n 0, 1) := by decide +kernel
theorem dX9_text_97 : decode cX9_text 97 = .ok (.iconst 0, 1) := by decide +kernel
theorem dX9_text_98 : decode cX9_text 98 = .ok (.putfield 59, 3) := by decide +kernel
theorem dX9_text_101 : decode cX9_text 101 = .ok (.aload_n 0, 1) := by decide +kernel
theorem dX9_text_102 : decode cX9_text 102 = .ok (.aload_n 0, 1) := by decide +kernel
theorem dX9_text_103 : decode cX9_text 103 = .ok (.getfield 63, 3) := by decide +kernel
theorem dX9_text_106 : decode cX9_text 106 = .ok (.putfield 147, 3) := by decide +kernel
theorem dX9_text_109 : decode cX9_text 109 = .ok (.aload_n 0, 1) := by decide +kernel
theorem dX9_text_110 : decode cX9_text 110 = .ok (.getfield 63, 3) := by decide +kernel
theorem dX9_text_113 : decode cX9_text 113 = .ok (.ifCond .le 11, 3) := by decide +kernel
theorem dX9_text_116 : decode cX9_text 116 = .ok (.bipush (-10), 2) := by decide +kernel
theorem dX9_text_118 : decode cX9_text 118 = .ok (.aload_n 0, 1) := by decide +kernel
theorem dX9_text_119 : decode cX9_text 119 = .ok (.getfield 69, 3) := by decide +kernel
theorem dX9_text_122 : decode cX9_text 122 = .ok (.isub, 1) := by decide +kernel
theorem dX9_text_123 : decode cX9_text 123 = .ok (.ireturn, 1) := by decide +kernel
theorem dX9_text_124 : decode cX9_text 124 = .ok (.iconst 0, 1) := by decide +kernel
theorem dX9_text_125 : decode cX9_text 125 = .ok (.istore_n 2, 1) := by decide +kernel
theorem dX9_text_126 : decode cX9_text 126 = .ok (.iload_n 2, 1) := by decide +kernel
theorem dX9_text_127 : decode cX9_text 127 = .ok (.bipush 61, 2) := by decide +kernel
theorem dX9_text_129 : decode cX9_text 129 = .ok (.if_icmp .ge 21, 3) := by decide +kernel
theorem dX9_text_132 : decode cX9_text 132 = .ok (.aload_n 0, 1) := by decide +kernel
theorem dX9_text_133 : decode cX9_text 133 = .ok (.getfield 7, 3) := by decide +kernel
theorem dX9_text_136 : decode cX9_text 136 = .ok (.iload_n 2, 1) := by decide +kernel
theorem dX9_text_137 : decode cX9_text 137 = .ok (.aload_n 0, 1) := by decide +kernel
theorem dX9_text_138 : decode cX9_text 138 = .ok (.getfield 13, 3) := by decide +kernel
theorem dX9_text_141 : decode cX9_text 141 = .ok (.iload_n 2, 1) := by decide +kernel
theorem dX9_text_142 : decode cX9_text 142 = .ok (.iaload, 1) := by decide +kernel
theorem dX9_text_143 : decode cX9_text 143 = .ok (.iastore, 1) := by decide +kernel
theorem dX9_text_144 : decode cX9_text 144 = .ok (.iinc 2 1, 3) := by decide +kernel
theorem dX9_text_147 : decode cX9_text 147 = .ok (.goto (-21), 3) := by decide +kernel
theorem dX9_text_150 : decode cX9_text 150 = .ok (.aload_n 0, 1) := by decide +kernel
theorem dX9_text_151 : decode cX9_text 151 = .ok (.aload_n 0, 1) := by decide +kernel
theorem dX9_text_152 : decode cX9_text 152 = .ok (.getfield 100, 3) := by decide +kernel
theorem dX9_text_155 : decode cX9_text 155 = .ok (.putfield 150, 3) := by decide +kernel
theorem dX9_text_158 : decode cX9_text 158 = .ok (.aload_n 0, 1) := by decide +kernel
theorem dX9_text_159 : decode cX9_text 159 = .ok (.aload_n 0, 1) := by decide +kernel
theorem dX9_text_160 : decode cX9_text 160 = .ok (.getfield 107, 3) := by decide +kernel
theorem dX9_text_163 : decode cX9_text 163 = .ok (.putfield 153, 3) := by decide +kernel
theorem dX9_text_166 : decode cX9_text 166 = .ok (.aload_n 0, 1) := by decide +kernel
theorem dX9_text_167 : decode cX9_text 167 = .ok (.iconst 0, 1) := by decide +kernel
theorem dX9_text_168 : decode cX9_text 168 = .ok (.putfield 156, 3) := by decide +kernel
theorem dX9_text_171 : decode cX9_text 171 = .ok (.aload_n 0, 1) := by decide +kernel
theorem dX9_text_172 : decode cX9_text 172 = .ok (.getfield 40, 3) := by decide +kernel
theorem dX9_text_175 : decode cX9_text 175 = .ok (.iconst 0, 1) := by decide +kernel
theorem dX9_text_176 : decode cX9_text 176 = .ok (.iconst 0, 1) := by decide +kernel
theorem dX9_text_177 : decode cX9_text 177 = .ok (.bastore, 1) := by decide +kernel
theorem dX9_text_178 : decode cX9_text 178 = .ok (.aload_n 0, 1) := by decide +kernel
theorem dX9_text_179 : decode cX9_text 179 = .ok (.getfield 40, 3) := by decide +kernel
theorem dX9_text_182 : decode cX9_text 182 = .ok (.iconst 1, 1) := by decide +kernel
theorem dX9_text_183 : decode cX9_text 183 = .ok (.iconst 0, 1) := by decide +kernel
theorem dX9_text_184 : decode cX9_text 184 = .ok (.bastore, 1) := by decide +kernel
theorem dX9_text_185 : decode cX9_text 185 = .ok (.iload_n 1, 1) := by decide +kernel
theorem dX9_text_186 : decode cX9_text 186 = .ok (.ireturn, 1) := by decide +kernel
theorem dX9_fault_0 : decode cX9_fault 0 = .ok (.aload_n 0, 1) := by decide +kernel
theorem dX9_fault_1 : decode cX9_fault 1 = .ok (.getfield 147, 3) := by decide +kernel
theorem dX9_fault_4 : decode cX9_fault 4 = .ok (.ireturn, 1) := by decide +kernel
theorem dX9_isMan_0 : decode cX9_isMan 0 = .ok (.iload_n 1, 1) := by decide +kernel
theorem dX9_isMan_1 : decode cX9_isMan 1 = .ok (.i2l, 1) := by decide +kernel
theorem dX9_isMan_2 : decode cX9_isMan 2 = .ok (.lconst 0, 1) := by decide +kernel
theorem dX9_isMan_3 : decode cX9_isMan 3 = .ok (.aload_n 0, 1) := by decide +kernel
theorem dX9_isMan_4 : decode cX9_isMan 4 = .ok (.getfield 150, 3) := by decide +kernel
theorem dX9_isMan_7 : decode cX9_isMan 7 = .ok (.iconst 1, 1) := by decide +kernel
theorem dX9_isMan_8 : decode cX9_isMan 8 = .ok (.isub, 1) := by decide +kernel
theorem dX9_isMan_9 : decode cX9_isMan 9 = .ok (.i2l, 1) := by decide +kernel
theorem dX9_isMan_10 : decode cX9_isMan 10 = .ok (.invokestatic 55, 3) := by decide +kernel
theorem dX9_isMan_13 : decode cX9_isMan 13 = .ok (.ireturn, 1) := by decide +kernel
theorem dX9_isReader_0 : decode cX9_isReader 0 = .ok (.iload_n 1, 1) := by decide +kernel
theorem dX9_isReader_1 : decode cX9_isReader 1 = .ok (.i2l, 1) := by decide +kernel
theorem dX9_isReader_2 : decode cX9_isReader 2 = .ok (.lconst 0, 1) := by decide +kernel
theorem dX9_isReader_3 : decode cX9_isReader 3 = .ok (.aload_n 0, 1) := by decide +kernel
theorem dX9_isReader_4 : decode cX9_isReader 4 = .ok (.getfield 153, 3) := by decide +kernel
theorem dX9_isReader_7 : decode cX9_isReader 7 = .ok (.iconst 1, 1) := by decide +kernel
theorem dX9_isReader_8 : decode cX9_isReader 8 = .ok (.isub, 1) := by decide +kernel
theorem dX9_isReader_9 : decode cX9_isReader 9 = .ok (.i2l, 1) := by decide +kernel
theorem dX9_isReader_10 : decode cX9_isReader 10 = .ok (.invokestatic 55, 3) := by decide +kernel
theorem dX9_isReader_13 : decode cX9_isReader 13 = .ok (.ireturn, 1) := by decide +kernel
theorem dX9_isCorner_0 : decode cX9_isCorner 0 = .ok (.iload_n 0, 1) := by decide +kernel
theorem dX9_isCorner_1 : decode cX9_isCorner 1 = .ok (.i2l, 1) := by decide +kernel
theorem dX9_isCorner_2 : decode cX9_isCorner 2 = .ok (.lconst 0, 1) := by decide +kernel
theorem dX9_isCorner_3 : decode cX9_isCorner 3 = .ok (.ldc2_w 159, 3) := by decide +kernel
theorem dX9_isCorner_6 : decode cX9_isCorner 6 = .ok (.invokestatic 55, 3) := by decide +kernel
theorem dX9_isCorner_9 : decode cX9_isCorner 9 = .ok (.ireturn, 1) := by decide +kernel
theorem dX9_isMinute_0 : decode cX9_isMinute 0 = .ok (.iload_n 0, 1) := by decide +kernel
theorem dX9_isMinute_1 : decode cX9_isMinute 1 = .ok (.i2l, 1) := by decide +kernel
theorem dX9_isMinute_2 : decode cX9_isMinute 2 = .ok (.lconst 0, 1) := by decide +kernel
theorem dX9_isMinute_3 : decode cX9_isMinute 3 = .ok (.ldc2_w 161, 3) := by decide +kernel
theorem dX9_isMinute_6 : decode cX9_isMinute 6 = .ok (.invokestatic 55, 3) := by decide +kernel
theorem dX9_isMinute_9 : decode cX9_isMinute 9 = .ok (.ireturn, 1) := by decide +kernel
theorem dX9_isNews_0 : decode cX9_isNews 0 = .ok (.iload_n 0, 1) := by decide +kernel
theorem dX9_isNews_1 : decode cX9_isNews 1 = .ok (.i2l, 1) := by decide +kernel
theorem dX9_isNews_2 : decode cX9_isNews 2 = .ok (.lconst 0, 1) := by decide +kernel
theorem dX9_isNews_3 : decode cX9_isNews 3 = .ok (.ldc2_w 163, 3) := by decide +kernel
theorem dX9_isNews_6 : decode cX9_isNews 6 = .ok (.invokestatic 55, 3) := by decide +kernel
theorem dX9_isNews_9 : decode cX9_isNews 9 = .ok (.ireturn, 1) := by decide +kernel
theorem dX9_isStreetOn_0 : decode cX9_isStreetOn 0 = .ok (.iconst 0, 1) := by decide +kernel
theorem dX9_isStreetOn_1 : decode cX9_isStreetOn 1 = .ok (.istore 4, 2) := by decide +kernel
theorem dX9_isStreetOn_3 : decode cX9_isStreetOn 3 = .ok (.iconst 0, 1) := by decide +kernel
theorem dX9_isStreetOn_4 : decode cX9_isStreetOn 4 = .ok (.istore 5, 2) := by decide +kernel
theorem dX9_isStreetOn_6 : decode cX9_isStreetOn 6 = .ok (.iload 5, 2) := by decide +kernel
theorem dX9_isStreetOn_8 : decode cX9_isStreetOn 8 = .ok (.aload_n 0, 1) := by decide +kernel
theorem dX9_isStreetOn_9 : decode cX9_isStreetOn 9 = .ok (.getfield 7, 3) := by decide +kernel
theorem dX9_isStreetOn_12 : decode cX9_isStreetOn 12 = .ok (.iload_n 1, 1) := by decide +kernel
theorem dX9_isStreetOn_13 : decode cX9_isStreetOn 13 = .ok (.bipush 42, 2) := by decide +kernel
theorem dX9_isStreetOn_15 : decode cX9_isStreetOn 15 = .ok (.iadd, 1) := by decide +kernel
theorem dX9_isStreetOn_16 : decode cX9_isStreetOn 16 = .ok (.iaload, 1) := by decide +kernel
theorem dX9_isStreetOn_17 : decode cX9_isStreetOn 17 = .ok (.if_icmp .ge 73, 3) := by decide +kernel
theorem dX9_isStreetOn_20 : decode cX9_isStreetOn 20 = .ok (.aload_n 0, 1) := by decide +kernel
theorem dX9_isStreetOn_21 : decode cX9_isStreetOn 21 = .ok (.getfield 7, 3) := by decide +kernel
theorem dX9_isStreetOn_24 : decode cX9_isStreetOn 24 = .ok (.iload_n 1, 1) := by decide +kernel
theorem dX9_isStreetOn_25 : decode cX9_isStreetOn 25 = .ok (.bipush 43, 2) := by decide +kernel
theorem dX9_isStreetOn_27 : decode cX9_isStreetOn 27 = .ok (.iadd, 1) := by decide +kernel
theorem dX9_isStreetOn_28 : decode cX9_isStreetOn 28 = .ok (.iload 5, 2) := by decide +kernel
theorem dX9_isStreetOn_30 : decode cX9_isStreetOn 30 = .ok (.iadd, 1) := by decide +kernel
theorem dX9_isStreetOn_31 : decode cX9_isStreetOn 31 = .ok (.iaload, 1) := by decide +kernel
theorem dX9_isStreetOn_32 : decode cX9_isStreetOn 32 = .ok (.istore 6, 2) := by decide +kernel
theorem dX9_isStreetOn_34 : decode cX9_isStreetOn 34 = .ok (.aload_n 0, 1) := by decide +kernel
theorem dX9_isStreetOn_35 : decode cX9_isStreetOn 35 = .ok (.getfield 7, 3) := by decide +kernel
theorem dX9_isStreetOn_38 : decode cX9_isStreetOn 38 = .ok (.iload_n 1, 1) := by decide +kernel
theorem dX9_isStreetOn_39 : decode cX9_isStreetOn 39 = .ok (.bipush 52, 2) := by decide +kernel
theorem dX9_isStreetOn_41 : decode cX9_isStreetOn 41 = .ok (.iadd, 1) := by decide +kernel
theorem dX9_isStreetOn_42 : decode cX9_isStreetOn 42 = .ok (.iload 5, 2) := by decide +kernel
theorem dX9_isStreetOn_44 : decode cX9_isStreetOn 44 = .ok (.iadd, 1) := by decide +kernel
theorem dX9_isStreetOn_45 : decode cX9_isStreetOn 45 = .ok (.iaload, 1) := by decide +kernel
theorem dX9_isStreetOn_46 : decode cX9_isStreetOn 46 = .ok (.istore 7, 2) := by decide +kernel
theorem dX9_isStreetOn_48 : decode cX9_isStreetOn 48 = .ok (.iload 4, 2) := by decide +kernel
theorem dX9_isStreetOn_50 : decode cX9_isStreetOn 50 = .ok (.ifCond .ne 27, 3) := by decide +kernel
theorem dX9_isStreetOn_53 : decode cX9_isStreetOn 53 = .ok (.iload 6, 2) := by decide +kernel
theorem dX9_isStreetOn_55 : decode cX9_isStreetOn 55 = .ok (.iload_n 2, 1) := by decide +kernel
theorem dX9_isStreetOn_56 : decode cX9_isStreetOn 56 = .ok (.if_icmp .ne 9, 3) := by decide +kernel
theorem dX9_isStreetOn_59 : decode cX9_isStreetOn 59 = .ok (.iload 7, 2) := by decide +kernel
theorem dX9_isStreetOn_61 : decode cX9_isStreetOn 61 = .ok (.iload_n 3, 1) := by decide +kernel
theorem dX9_isStreetOn_62 : decode cX9_isStreetOn 62 = .ok (.if_icmp .eq 15, 3) := by decide +kernel
theorem dX9_isStreetOn_65 : decode cX9_isStreetOn 65 = .ok (.iload 6, 2) := by decide +kernel
