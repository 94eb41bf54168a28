theorem dX9_isStreetOn_67 : decode cX9_isStreetOn 67 = .ok (.iload_n 3, 1) := by decide +kernel
theorem dX9_isStreetOn_68 : decode cX9_isStreetOn 68 = .ok (.if_icmp .ne 13, 3) := by decide +kernel
theorem dX9_isStreetOn_71 : decode cX9_isStreetOn 71 = .ok (.iload 7, 2) := by decide +kernel
theorem dX9_isStreetOn_73 : decode cX9_isStreetOn 73 = .ok (.iload_n 2, 1) := by decide +kernel
theorem dX9_isStreetOn_74 : decode cX9_isStreetOn 74 = .ok (.if_icmp .ne 7, 3) := by decide +kernel
theorem dX9_isStreetOn_77 : decode cX9_isStreetOn 77 = .ok (.iconst 1, 1) := by decide +kernel
theorem dX9_isStreetOn_78 : decode cX9_isStreetOn 78 = .ok (.goto 4, 3) := by decide +kernel
theorem dX9_isStreetOn_81 : decode cX9_isStreetOn 81 = .ok (.iconst 0, 1) := by decide +kernel
theorem dX9_isStreetOn_82 : decode cX9_isStreetOn 82 = .ok (.istore 4, 2) := by decide +kernel
theorem dX9_isStreetOn_84 : decode cX9_isStreetOn 84 = .ok (.iinc 5 1, 3) := by decide +kernel
theorem dX9_isStreetOn_87 : decode cX9_isStreetOn 87 = .ok (.goto (-81), 3) := by decide +kernel
theorem dX9_isStreetOn_90 : decode cX9_isStreetOn 90 = .ok (.iload 4, 2) := by decide +kernel
theorem dX9_isStreetOn_92 : decode cX9_isStreetOn 92 = .ok (.ireturn, 1) := by decide +kernel
theorem dX9_isWalkOn_0 : decode cX9_isWalkOn 0 = .ok (.aload_n 0, 1) := by decide +kernel
theorem dX9_isWalkOn_1 : decode cX9_isWalkOn 1 = .ok (.getfield 7, 3) := by decide +kernel
theorem dX9_isWalkOn_4 : decode cX9_isWalkOn 4 = .ok (.iload_n 1, 1) := by decide +kernel
theorem dX9_isWalkOn_5 : decode cX9_isWalkOn 5 = .ok (.bipush 8, 2) := by decide +kernel
theorem dX9_isWalkOn_7 : decode cX9_isWalkOn 7 = .ok (.iadd, 1) := by decide +kernel
theorem dX9_isWalkOn_8 : decode cX9_isWalkOn 8 = .ok (.iload_n 2, 1) := by decide +kernel
theorem dX9_isWalkOn_9 : decode cX9_isWalkOn 9 = .ok (.iadd, 1) := by decide +kernel
theorem dX9_isWalkOn_10 : decode cX9_isWalkOn 10 = .ok (.iaload, 1) := by decide +kernel
theorem dX9_isWalkOn_11 : decode cX9_isWalkOn 11 = .ok (.istore_n 3, 1) := by decide +kernel
theorem dX9_isWalkOn_12 : decode cX9_isWalkOn 12 = .ok (.iconst 1, 1) := by decide +kernel
theorem dX9_isWalkOn_13 : decode cX9_isWalkOn 13 = .ok (.istore 4, 2) := by decide +kernel
theorem dX9_isWalkOn_15 : decode cX9_isWalkOn 15 = .ok (.iconst 0, 1) := by decide +kernel
theorem dX9_isWalkOn_16 : decode cX9_isWalkOn 16 = .ok (.istore 5, 2) := by decide +kernel
theorem dX9_isWalkOn_18 : decode cX9_isWalkOn 18 = .ok (.iload 5, 2) := by decide +kernel
theorem dX9_isWalkOn_20 : decode cX9_isWalkOn 20 = .ok (.iload_n 3, 1) := by decide +kernel
theorem dX9_isWalkOn_21 : decode cX9_isWalkOn 21 = .ok (.if_icmp .ge 70, 3) := by decide +kernel
theorem dX9_isWalkOn_24 : decode cX9_isWalkOn 24 = .ok (.iload_n 3, 1) := by decide +kernel
theorem dX9_isWalkOn_25 : decode cX9_isWalkOn 25 = .ok (.iconst 1, 1) := by decide +kernel
theorem dX9_isWalkOn_26 : decode cX9_isWalkOn 26 = .ok (.if_icmp .le 65, 3) := by decide +kernel
theorem dX9_isWalkOn_29 : decode cX9_isWalkOn 29 = .ok (.iload 4, 2) := by decide +kernel
theorem dX9_isWalkOn_31 : decode cX9_isWalkOn 31 = .ok (.ifCond .eq 51, 3) := by decide +kernel
theorem dX9_isWalkOn_34 : decode cX9_isWalkOn 34 = .ok (.aload_n 0, 1) := by decide +kernel
theorem dX9_isWalkOn_35 : decode cX9_isWalkOn 35 = .ok (.iload_n 1, 1) := by decide +kernel
theorem dX9_isWalkOn_36 : decode cX9_isWalkOn 36 = .ok (.aload_n 0, 1) := by decide +kernel
theorem dX9_isWalkOn_37 : decode cX9_isWalkOn 37 = .ok (.getfield 7, 3) := by decide +kernel
theorem dX9_isWalkOn_40 : decode cX9_isWalkOn 40 = .ok (.iload_n 1, 1) := by decide +kernel
theorem dX9_isWalkOn_41 : decode cX9_isWalkOn 41 = .ok (.bipush 12, 2) := by decide +kernel
theorem dX9_isWalkOn_43 : decode cX9_isWalkOn 43 = .ok (.iadd, 1) := by decide +kernel
theorem dX9_isWalkOn_44 : decode cX9_isWalkOn 44 = .ok (.iconst 4, 1) := by decide +kernel
theorem dX9_isWalkOn_45 : decode cX9_isWalkOn 45 = .ok (.iload_n 2, 1) := by decide +kernel
theorem dX9_isWalkOn_46 : decode cX9_isWalkOn 46 = .ok (.imul, 1) := by decide +kernel
theorem dX9_isWalkOn_47 : decode cX9_isWalkOn 47 = .ok (.iadd, 1) := by decide +kernel
theorem dX9_isWalkOn_48 : decode cX9_isWalkOn 48 = .ok (.iload 5, 2) := by decide +kernel
theorem dX9_isWalkOn_50 : decode cX9_isWalkOn 50 = .ok (.iadd, 1) := by decide +kernel
theorem dX9_isWalkOn_51 : decode cX9_isWalkOn 51 = .ok (.iaload, 1) := by decide +kernel
theorem dX9_isWalkOn_52 : decode cX9_isWalkOn 52 = .ok (.aload_n 0, 1) := by decide +kernel
theorem dX9_isWalkOn_53 : decode cX9_isWalkOn 53 = .ok (.getfield 7, 3) := by decide +kernel
theorem dX9_isWalkOn_56 : decode cX9_isWalkOn 56 = .ok (.iload_n 1, 1) := by decide +kernel
theorem dX9_isWalkOn_57 : decode cX9_isWalkOn 57 = .ok (.bipush 12, 2) := by decide +kernel
theorem dX9_isWalkOn_59 : decode cX9_isWalkOn 59 = .ok (.iadd, 1) := by decide +kernel
theorem dX9_isWalkOn_60 : decode cX9_isWalkOn 60 = .ok (.iconst 4, 1) := by decide +kernel
theorem dX9_isWalkOn_61 : decode cX9_isWalkOn 61 = .ok (.iload_n 2, 1) := by decide +kernel
theorem dX9_isWalkOn_62 : decode cX9_isWalkOn 62 = .ok (.imul, 1) := by decide +kernel
theorem dX9_isWalkOn_63 : decode cX9_isWalkOn 63 = .ok (.iadd, 1) := by decide +kernel
theorem dX9_isWalkOn_64 : decode cX9_isWalkOn 64 = .ok (.iload 5, 2) := by decide +kernel
theorem dX9_isWalkOn_66 : decode cX9_isWalkOn 66 = .ok (.iconst 1, 1) := by decide +kernel
theorem dX9_isWalkOn_67 : decode cX9_isWalkOn 67 = .ok (.iadd, 1) := by decide +kernel
theorem dX9_isWalkOn_68 : decode cX9_isWalkOn 68 = .ok (.iload_n 3, 1) := by decide +kernel
theorem dX9_isWalkOn_69 : decode cX9_isWalkOn 69 = .ok (.irem, 1) := by decide +kernel
theorem dX9_isWalkOn_70 : decode cX9_isWalkOn 70 = .ok (.iadd, 1) := by decide +kernel
theorem dX9_isWalkOn_71 : decode cX9_isWalkOn 71 = .ok (.iaload, 1) := by decide +kernel
theorem dX9_isWalkOn_72 : decode cX9_isWalkOn 72 = .ok (.invokevirtual 165, 3) := by decide +kernel
theorem dX9_isWalkOn_75 : decode cX9_isWalkOn 75 = .ok (.ifCond .eq 7, 3) := by decide +kernel
theorem dX9_isWalkOn_78 : decode cX9_isWalkOn 78 = .ok (.iconst 1, 1) := by decide +kernel
theorem dX9_isWalkOn_79 : decode cX9_isWalkOn 79 = .ok (.goto 4, 3) := by decide +kernel
theorem dX9_isWalkOn_82 : decode cX9_isWalkOn 82 = .ok (.iconst 0, 1) := by decide +kernel
theorem dX9_isWalkOn_83 : decode cX9_isWalkOn 83 = .ok (.istore 4, 2) := by decide +kernel
theorem dX9_isWalkOn_85 : decode cX9_isWalkOn 85 = .ok (.iinc 5 1, 3) := by decide +kernel
theorem dX9_isWalkOn_88 : decode cX9_isWalkOn 88 = .ok (.goto (-70), 3) := by decide +kernel
theorem dX9_isWalkOn_91 : decode cX9_isWalkOn 91 = .ok (.iload 4, 2) := by decide +kernel
theorem dX9_isWalkOn_93 : decode cX9_isWalkOn 93 = .ok (.ireturn, 1) := by decide +kernel
theorem dX9_paceOn_0 : decode cX9_paceOn 0 = .ok (.aload_n 0, 1) := by decide +kernel
theorem dX9_paceOn_1 : decode cX9_paceOn 1 = .ok (.getfield 7, 3) := by decide +kernel
theorem dX9_paceOn_4 : decode cX9_paceOn 4 = .ok (.iload_n 1, 1) := by decide +kernel
theorem dX9_paceOn_5 : decode cX9_paceOn 5 = .ok (.iload_n 2, 1) := by decide +kernel
theorem dX9_paceOn_6 : decode cX9_paceOn 6 = .ok (.iadd, 1) := by decide +kernel
theorem dX9_paceOn_7 : decode cX9_paceOn 7 = .ok (.iaload, 1) := by decide +kernel
theorem dX9_paceOn_8 : decode cX9_paceOn 8 = .ok (.istore_n 3, 1) := by decide +kernel
theorem dX9_paceOn_9 : decode cX9_paceOn 9 = .ok (.iload_n 3, 1) := by decide +kernel
theorem dX9_paceOn_10 : decode cX9_paceOn 10 = .ok (.ifCond .ne 7, 3) := by decide +kernel
theorem dX9_paceOn_13 : decode cX9_paceOn 13 = .ok (.iconst 2, 1) := by decide +kernel
theorem dX9_paceOn_14 : decode cX9_paceOn 14 = .ok (.goto 23, 3) := by decide +kernel
theorem dX9_paceOn_17 : decode cX9_paceOn 17 = .ok (.iload_n 3, 1) := by decide +kernel
theorem dX9_paceOn_18 : decode cX9_paceOn 18 = .ok (.iconst 1, 1) := by decide +kernel
theorem dX9_paceOn_19 : decode cX9_paceOn 19 = .ok (.if_icmp .ne 7, 3) := by decide +kernel
theorem dX9_paceOn_22 : decode cX9_paceOn 22 = .ok (.iconst 1, 1) := by decide +kernel
theorem dX9_paceOn_23 : decode cX9_paceOn 23 = .ok (.goto 14, 3) := by decide +kernel
theorem dX9_paceOn_26 : decode cX9_paceOn 26 = .ok (.iload_n 3, 1) := by decide +kernel
theorem dX9_paceOn_27 : decode cX9_paceOn 27 = .ok (.iconst 2, 1) := by decide +kernel
theorem dX9_paceOn_28 : decode cX9_paceOn 28 = .ok (.if_icmp .ne 7, 3) := by decide +kernel
theorem dX9_paceOn_31 : decode cX9_paceOn 31 = .ok (.iconst 3, 1) := by decide +kernel
theorem dX9_paceOn_32 : decode cX9_paceOn 32 = .ok (.goto 5, 3) := by decide +kernel
theorem dX9_paceOn_35 : decode cX9_paceOn 35 = .ok (.bipush 6, 2) := by decide +kernel
theorem dX9_paceOn_37 : decode cX9_paceOn 37 = .ok (.ireturn, 1) := by decide +kernel
theorem dX9_atOn_0 : decode cX9_atOn 0 = .ok (.aload_n 0, 1) := by decide +kernel
theorem dX9_atOn_1 : decode cX9_atOn 1 = .ok (.iload_n 1, 1) := by decide +kernel
theorem dX9_atOn_2 : decode cX9_atOn 2 = .ok (.iload_n 2, 1) := by decide +kernel
theorem dX9_atOn_3 : decode cX9_atOn 3 = .ok (.invokevirtual 169, 3) := by decide +kernel
theorem dX9_atOn_6 : decode cX9_atOn 6 = .ok (.istore 5, 2) := by decide +kernel
theorem dX9_atOn_8 : decode cX9_atOn 8 = .ok (.aload_n 0, 1) := by decide +kernel
theorem dX9_atOn_9 : decode cX9_atOn 9 = .ok (.getfield 7, 3) := by decide +kernel
theorem dX9_atOn_12 : decode cX9_atOn 12 = .ok (.iload_n 1, 1) := by decide +kernel
theorem dX9_atOn_13 : decode cX9_atOn 13 = .ok (.bipush 8, 2) := by decide +kernel
theorem dX9_atOn_15 : decode cX9_atOn 15 = .ok (.iadd, 1) := by decide +kernel
theorem dX9_atOn_16 : decode cX9_atOn 16 = .ok (.iload_n 2, 1) := by decide +kernel
theorem dX9_atOn_17 : decode cX9_atOn 17 = .ok (.iadd, 1) := by decide +kernel
theorem dX9_atOn_18 : decode cX9_atOn 18 = .ok (.iaload, 1) := by decide +kernel
theorem dX9_atOn_19 : decode cX9_atOn 19 = .ok (.istore 6, 2) := by decide +kernel
theorem dX9_atOn_21 : decode cX9_atOn 21 = .ok (.aload_n 0, 1) := by decide +kernel
theorem dX9_atOn_22 : decode cX9_atOn 22 = .ok (.getfield 172, 3) := by decide +kernel
theorem dX9_atOn_25 : decode cX9_atOn 25 = .ok (.iload_n 2, 1) := by decide +kernel
theorem dX9_atOn_26 : decode cX9_atOn 26 = .ok (.ishr, 1) := by decide +kernel
theorem dX9_atOn_27 : decode cX9_atOn 27 = .ok (.iconst 1, 1) := by decide +kernel
theorem dX9_atOn_28 : decode cX9_atOn 28 = .ok (.iand, 1) := by decide +kernel
theorem dX9_atOn_29 : decode cX9_atOn 29 = .ok (.iconst 1, 1) := by decide +kernel
theorem dX9_atOn_30 : decode cX9_atOn 30 = .ok (.if_icmp .eq 25, 3) := by decide +kernel
theorem dX9_atOn_33 : decode cX9_atOn 33 = .ok (.iload_n 3, 1) := by decide +kernel
theorem dX9_atOn_34 : decode cX9_atOn 34 = .ok (.iload 5, 2) := by decide +kernel
theorem dX9_atOn_36 : decode cX9_atOn 36 = .ok (.irem, 1) := by decide +kernel
theorem dX9_atOn_37 : decode cX9_atOn 37 = .ok (.ifCond .ne 18, 3) := by decide +kernel
theorem dX9_atOn_40 : decode cX9_atOn 40 = .ok (.iload 4, 2) := by decide +kernel
theorem dX9_atOn_42 : decode cX9_atOn 42 = .ok (.ifCond .eq 16, 3) := by decide +kernel
theorem dX9_atOn_45 : decode cX9_atOn 45 = .ok (.iload_n 3, 1) := by decide +kernel
theorem dX9_atOn_46 : decode cX9_atOn 46 = .ok (.ifCond .eq 9, 3) := by decide +kernel
theorem dX9_atOn_49 : decode cX9_atOn 49 = .ok (.iload 6, 2) := by decide +kernel
theorem dX9_atOn_51 : decode cX9_atOn 51 = .ok (.iconst 1, 1) := by decide +kernel
theorem dX9_atOn_52 : decode cX9_atOn 52 = .ok (.if_icmp .ne 6, 3) := by decide +kernel
theorem dX9_atOn_55 : decode cX9_atOn 55 = .ok (.bipush (-4), 2) := by decide +kernel
theorem dX9_atOn_57 : decode cX9_atOn 57 = .ok (.ireturn, 1) := by decide +kernel
theorem dX9_atOn_58 : decode cX9_atOn 58 = .ok (.aload_n 0, 1) := by decide +kernel
theorem dX9_atOn_59 : decode cX9_atOn 59 = .ok (.getfield 7, 3) := by decide +kernel
theorem dX9_atOn_62 : decode cX9_atOn 62 = .ok (.iload_n 1, 1) := by decide +kernel
theorem dX9_atOn_63 : decode cX9_atOn 63 = .ok (.bipush 12, 2) := by decide +kernel
theorem dX9_atOn_65 : decode cX9_atOn 65 = .ok (.iadd, 1) := by decide +kernel
theorem dX9_atOn_66 : decode cX9_atOn 66 = .ok (.iconst 4, 1) := by decide +kernel
theorem dX9_atOn_67 : decode cX9_atOn 67 = .ok (.iload_n 2, 1) := by decide +kernel
theorem dX9_atOn_68 : decode cX9_atOn 68 = .ok (.imul, 1) := by decide +kernel
theorem dX9_atOn_69 : decode cX9_atOn 69 = .ok (.iadd, 1) := by decide +kernel
theorem dX9_atOn_70 : decode cX9_atOn 70 = .ok (.iload_n 3, 1) := by decide +kernel
theorem dX9_atOn_71 : decode cX9_atOn 71 = .ok (.iload 5, 2) := by decide +kernel
theorem dX9_atOn_73 : decode cX9_atOn 73 = .ok (.idiv, 1) := by decide +kernel
theorem dX9_atOn_74 : decode cX9_atOn 74 = .ok (.iload 4, 2) := by decide +kernel
theorem dX9_atOn_76 : decode cX9_atOn 76 = .ok (.ifCond .eq 7, 3) := by decide +kernel
theorem dX9_atOn_79 : decode cX9_atOn 79 = .ok (.iconst 1, 1) := by decide +kernel
theorem dX9_atOn_80 : decode cX9_atOn 80 = .ok (.goto 4, 3) := by decide +kernel
theorem dX9_atOn_83 : decode cX9_atOn 83 = .ok (.iconst 0, 1) := by decide +kernel
theorem dX9_atOn_84 : decode cX9_atOn 84 = .ok (.isub, 1) := by decide +kernel
theorem dX9_atOn_85 : decode cX9_atOn 85 = .ok (.iload 6, 2) := by decide +kernel
theorem dX9_atOn_87 : decode cX9_atOn 87 = .ok (.irem, 1) := by decide +kernel
theorem dX9_atOn_88 : decode cX9_atOn 88 = .ok (.iadd, 1) := by decide +kernel
theorem dX9_atOn_89 : decode cX9_atOn 89 = .ok (.iaload, 1) := by decide +kernel
theorem dX9_atOn_90 : decode cX9_atOn 90 = .ok (.ireturn, 1) := by decide +kernel
theorem dX9_isWetOn_0 : decode cX9_isWetOn 0 = .ok (.iload_n 2, 1) := by decide +kernel
theorem dX9_isWetOn_1 : decode cX9_isWetOn 1 = .ok (.aload_n 0, 1) := by decide +kernel
theorem dX9_isWetOn_2 : decode cX9_isWetOn 2 = .ok (.getfield 7, 3) := by decide +kernel
theorem dX9_isWetOn_5 : decode cX9_isWetOn 5 = .ok (.iload_n 1, 1) := by decide +kernel
theorem dX9_isWetOn_6 : decode cX9_isWetOn 6 = .ok (.bipush 40, 2) := by decide +kernel
theorem dX9_isWetOn_8 : decode cX9_isWetOn 8 = .ok (.iadd, 1) := by decide +kernel
theorem dX9_isWetOn_9 : decode cX9_isWetOn 9 = .ok (.iaload, 1) := by decide +kernel
theorem dX9_isWetOn_10 : decode cX9_isWetOn 10 = .ok (.if_icmp .lt 30, 3) := by decide +kernel
theorem dX9_isWetOn_13 : decode cX9_isWetOn 13 = .ok (.iload_n 2, 1) := by decide +kernel
theorem dX9_isWetOn_14 : decode cX9_isWetOn 14 = .ok (.aload_n 0, 1) := by decide +kernel
theorem dX9_isWetOn_15 : decode cX9_isWetOn 15 = .ok (.getfield 7, 3) := by decide +kernel
theorem dX9_isWetOn_18 : decode cX9_isWetOn 18 = .ok (.iload_n 1, 1) := by decide +kernel
theorem dX9_isWetOn_19 : decode cX9_isWetOn 19 = .ok (.bipush 40, 2) := by decide +kernel
theorem dX9_isWetOn_21 : decode cX9_isWetOn 21 = .ok (.iadd, 1) := by decide +kernel
theorem dX9_isWetOn_22 : decode cX9_isWetOn 22 = .ok (.iaload, 1) := by decide +kernel
theorem dX9_isWetOn_23 : decode cX9_isWetOn 23 = .ok (.aload_n 0, 1) := by decide +kernel
theorem dX9_isWetOn_24 : decode cX9_isWetOn 24 = .ok (.getfield 7, 3) := by decide +kernel
theorem dX9_isWetOn_27 : decode cX9_isWetOn 27 = .ok (.iload_n 1, 1) := by decide +kernel
theorem dX9_isWetOn_28 : decode cX9_isWetOn 28 = .ok (.bipush 41, 2) := by decide +kernel
theorem dX9_isWetOn_30 : decode cX9_isWetOn 30 = .ok (.iadd, 1) := by decide +kernel
theorem dX9_isWetOn_31 : decode cX9_isWetOn 31 = .ok (.iaload, 1) := by decide +kernel
theorem dX9_isWetOn_32 : decode cX9_isWetOn 32 = .ok (.iadd, 1) := by decide +kernel
theorem dX9_isWetOn_33 : decode cX9_isWetOn 33 = .ok (.if_icmp .ge 7, 3) := by decide +kernel
theorem dX9_isWetOn_36 : decode cX9_isWetOn 36 = .ok (.iconst 1, 1) := by decide +kernel
theorem dX9_isWetOn_37 : decode cX9_isWetOn 37 = .ok (.goto 4, 3) := by decide +kernel
theorem dX9_isWetOn_40 : decode cX9_isWetOn 40 = .ok (.iconst 0, 1) := by decide +kernel
theorem dX9_isWetOn_41 : decode cX9_isWetOn 41 = .ok (.ireturn, 1) := by decide +kernel
theorem dX9_readsOn_0 : decode cX9_readsOn 0 = .ok (.aload_n 0, 1) := by decide +kernel
theorem dX9_readsOn_1 : decode cX9_readsOn 1 = .ok (.iload_n 1, 1) := by decide +kernel
theorem dX9_readsOn_2 : decode cX9_readsOn 2 = .ok (.iload 4, 2) := by decide +kernel
theorem dX9_readsOn_4 : decode cX9_readsOn 4 = .ok (.invokevirtual 175, 3) := by decide +kernel
theorem dX9_readsOn_7 : decode cX9_readsOn 7 = .ok (.ifCond .ne 64, 3) := by decide +kernel
theorem dX9_readsOn_10 : decode cX9_readsOn 10 = .ok (.iload 4, 2) := by decide +kernel
theorem dX9_readsOn_12 : decode cX9_readsOn 12 = .ok (.i2l, 1) := by decide +kernel
theorem dX9_readsOn_13 : decode cX9_readsOn 13 = .ok (.aload_n 0, 1) := by decide +kernel
theorem dX9_readsOn_14 : decode cX9_readsOn 14 = .ok (.getfield 7, 3) := by decide +kernel
theorem dX9_readsOn_17 : decode cX9_readsOn 17 = .ok (.iload_n 1, 1) := by decide +kernel
theorem dX9_readsOn_18 : decode cX9_readsOn 18 = .ok (.bipush 32, 2) := by decide +kernel
theorem dX9_readsOn_20 : decode cX9_readsOn 20 = .ok (.iadd, 1) := by decide +kernel
theorem dX9_readsOn_21 : decode cX9_readsOn 21 = .ok (.iload_n 2, 1) := by decide +kernel
theorem dX9_readsOn_22 : decode cX9_readsOn 22 = .ok (.iadd, 1) := by decide +kernel
theorem dX9_readsOn_23 : decode cX9_readsOn 23 = .ok (.iaload, 1) := by decide +kernel
theorem dX9_readsOn_24 : decode cX9_readsOn 24 = .ok (.i2l, 1) := by decide +kernel
theorem dX9_readsOn_25 : decode cX9_readsOn 25 = .ok (.aload_n 0, 1) := by decide +kernel
theorem dX9_readsOn_26 : decode cX9_readsOn 26 = .ok (.getfield 7, 3) := by decide +kernel
theorem dX9_readsOn_29 : decode cX9_readsOn 29 = .ok (.iload_n 1, 1) := by decide +kernel
theorem dX9_readsOn_30 : decode cX9_readsOn 30 = .ok (.bipush 36, 2) := by decide +kernel
theorem dX9_readsOn_32 : decode cX9_readsOn 32 = .ok (.iadd, 1) := by decide +kernel
theorem dX9_readsOn_33 : decode cX9_readsOn 33 = .ok (.iload_n 2, 1) := by decide +kernel
theorem dX9_readsOn_34 : decode cX9_readsOn 34 = .ok (.iadd, 1) := by decide +kernel
theorem dX9_readsOn_35 : decode cX9_readsOn 35 = .ok (.iaload, 1) := by decide +kernel
theorem dX9_readsOn_36 : decode cX9_readsOn 36 = .ok (.i2l, 1) := by decide +kernel
theorem dX9_readsOn_37 : decode cX9_readsOn 37 = .ok (.invokestatic 55, 3) := by decide +kernel
theorem dX9_readsOn_40 : decode cX9_readsOn 40 = .ok (.ifCond .eq 31, 3) := by decide +kernel
theorem dX9_readsOn_43 : decode cX9_readsOn 43 = .ok (.aload_n 0, 1) := by decide +kernel
theorem dX9_readsOn_44 : decode cX9_readsOn 44 = .ok (.iload_n 1, 1) := by decide +kernel
theorem dX9_readsOn_45 : decode cX9_readsOn 45 = .ok (.iload_n 3, 1) := by decide +kernel
theorem dX9_readsOn_46 : decode cX9_readsOn 46 = .ok (.iload 4, 2) := by decide +kernel
theorem dX9_readsOn_48 : decode cX9_readsOn 48 = .ok (.iload 5, 2) := by decide +kernel
theorem dX9_readsOn_50 : decode cX9_readsOn 50 = .ok (.invokevirtual 178, 3) := by decide +kernel
theorem dX9_readsOn_53 : decode cX9_readsOn 53 = .ok (.aload_n 0, 1) := by decide +kernel
theorem dX9_readsOn_54 : decode cX9_readsOn 54 = .ok (.getfield 7, 3) := by decide +kernel
theorem dX9_readsOn_57 : decode cX9_readsOn 57 = .ok (.iload_n 1, 1) := by decide +kernel
theorem dX9_readsOn_58 : decode cX9_readsOn 58 = .ok (.bipush 28, 2) := by decide +kernel
theorem dX9_readsOn_60 : decode cX9_readsOn 60 = .ok (.iadd, 1) := by decide +kernel
theorem dX9_readsOn_61 : decode cX9_readsOn 61 = .ok (.iload_n 2, 1) := by decide +kernel
theorem dX9_readsOn_62 : decode cX9_readsOn 62 = .ok (.iadd, 1) := by decide +kernel
theorem dX9_readsOn_63 : decode cX9_readsOn 63 = .ok (.iaload, 1) := by decide +kernel
theorem dX9_readsOn_64 : decode cX9_readsOn 64 = .ok (.if_icmp .ne 7, 3) := by decide +kernel
theorem dX9_readsOn_67 : decode cX9_readsOn 67 = .ok (.iconst 1, 1) := by decide +kernel
theorem dX9_readsOn_68 : decode cX9_readsOn 68 = .ok (.goto 4, 3) := by decide +kernel
theorem dX9_readsOn_71 : decode cX9_readsOn 71 = .ok (.iconst 0, 1) := by decide +kernel
theorem dX9_readsOn_72 : decode cX9_readsOn 72 = .ok (.ireturn, 1) := by decide +kernel
theorem dX9_learnsOn_0 : decode cX9_learnsOn 0 = .ok (.iconst 0, 1) := by decide +kernel
theorem dX9_learnsOn_1 : decode cX9_learnsOn 1 = .ok (.istore_n 2, 1) := by decide +kernel
theorem dX9_learnsOn_2 : decode cX9_learnsOn 2 = .ok (.iload_n 2, 1) := by decide +kernel
theorem dX9_learnsOn_3 : decode cX9_learnsOn 3 = .ok (.bipush 40, 2) := by decide +kernel
theorem dX9_learnsOn_5 : decode cX9_learnsOn 5 = .ok (.if_icmp .ge 27, 3) := by decide +kernel
theorem dX9_learnsOn_8 : decode cX9_learnsOn 8 = .ok (.aload_n 0, 1) := by decide +kernel
theorem dX9_learnsOn_9 : decode cX9_learnsOn 9 = .ok (.getfield 25, 3) := by decide +kernel
theorem dX9_learnsOn_12 : decode cX9_learnsOn 12 = .ok (.iload_n 2, 1) := by decide +kernel
theorem dX9_learnsOn_13 : decode cX9_learnsOn 13 = .ok (.sipush 1000, 3) := by decide +kernel
theorem dX9_learnsOn_16 : decode cX9_learnsOn 16 = .ok (.iastore, 1) := by decide +kernel
theorem dX9_learnsOn_17 : decode cX9_learnsOn 17 = .ok (.aload_n 0, 1) := by decide +kernel
theorem dX9_learnsOn_18 : decode cX9_learnsOn 18 = .ok (.getfield 28, 3) := by decide +kernel
theorem dX9_learnsOn_21 : decode cX9_learnsOn 21 = .ok (.iload_n 2, 1) := by decide +kernel
theorem dX9_learnsOn_22 : decode cX9_learnsOn 22 = .ok (.sipush 1000, 3) := by decide +kernel
theorem dX9_learnsOn_25 : decode cX9_learnsOn 25 = .ok (.iastore, 1) := by decide +kernel
theorem dX9_learnsOn_26 : decode cX9_learnsOn 26 = .ok (.iinc 2 1, 3) := by decide +kernel
theorem dX9_learnsOn_29 : decode cX9_learnsOn 29 = .ok (.goto (-27), 3) := by decide +kernel
theorem dX9_learnsOn_32 : decode cX9_learnsOn 32 = .ok (.bipush 59, 2) := by decide +kernel
theorem dX9_learnsOn_34 : decode cX9_learnsOn 34 = .ok (.istore_n 2, 1) := by decide +kernel
theorem dX9_learnsOn_35 : decode cX9_learnsOn 35 = .ok (.iload_n 2, 1) := by decide +kernel
theorem dX9_learnsOn_36 : decode cX9_learnsOn 36 = .ok (.ifCond .lt 123, 3) := by decide +kernel
theorem dX9_learnsOn_39 : decode cX9_learnsOn 39 = .ok (.iconst 0, 1) := by decide +kernel
theorem dX9_learnsOn_40 : decode cX9_learnsOn 40 = .ok (.istore_n 3, 1) := by decide +kernel
theorem dX9_learnsOn_41 : decode cX9_learnsOn 41 = .ok (.iload_n 3, 1) := by decide +kernel
theorem dX9_learnsOn_42 : decode cX9_learnsOn 42 = .ok (.aload_n 0, 1) := by decide +kernel
theorem dX9_learnsOn_43 : decode cX9_learnsOn 43 = .ok (.getfield 150, 3) := by decide +kernel
theorem dX9_learnsOn_46 : decode cX9_learnsOn 46 = .ok (.if_icmp .ge 107, 3) := by decide +kernel
theorem dX9_learnsOn_49 : decode cX9_learnsOn 49 = .ok (.iconst 0, 1) := by decide +kernel
theorem dX9_learnsOn_50 : decode cX9_learnsOn 50 = .ok (.istore 4, 2) := by decide +kernel
theorem dX9_learnsOn_52 : decode cX9_learnsOn 52 = .ok (.iload 4, 2) := by decide +kernel
theorem dX9_learnsOn_54 : decode cX9_learnsOn 54 = .ok (.aload_n 0, 1) := by decide +kernel
theorem dX9_learnsOn_55 : decode cX9_learnsOn 55 = .ok (.getfield 153, 3) := by decide +kernel
theorem dX9_learnsOn_58 : decode cX9_learnsOn 58 = .ok (.if_icmp .ge 89, 3) := by decide +kernel
theorem dX9_learnsOn_61 : decode cX9_learnsOn 61 = .ok (.bipush 10, 2) := by decide +kernel
theorem dX9_learnsOn_63 : decode cX9_learnsOn 63 = .ok (.iload 4, 2) := by decide +kernel
theorem dX9_learnsOn_65 : decode cX9_learnsOn 65 = .ok (.imul, 1) := by decide +kernel
theorem dX9_learnsOn_66 : decode cX9_learnsOn 66 = .ok (.aload_n 0, 1) := by decide +kernel
theorem dX9_learnsOn_67 : decode cX9_learnsOn 67 = .ok (.getfield 7, 3) := by decide +kernel
theorem dX9_learnsOn_70 : decode cX9_learnsOn 70 = .ok (.iload_n 1, 1) := by decide +kernel
theorem dX9_learnsOn_71 : decode cX9_learnsOn 71 = .ok (.iconst 4, 1) := by decide +kernel
theorem dX9_learnsOn_72 : decode cX9_learnsOn 72 = .ok (.iadd, 1) := by decide +kernel
theorem dX9_learnsOn_73 : decode cX9_learnsOn 73 = .ok (.iload_n 3, 1) := by decide +kernel
theorem dX9_learnsOn_74 : decode cX9_learnsOn 74 = .ok (.iadd, 1) := by decide +kernel
theorem dX9_learnsOn_75 : decode cX9_learnsOn 75 = .ok (.iaload, 1) := by decide +kernel
theorem dX9_learnsOn_76 : decode cX9_learnsOn 76 = .ok (.iadd, 1) := by decide +kernel
theorem dX9_learnsOn_77 : decode cX9_learnsOn 77 = .ok (.istore 5, 2) := by decide +kernel
theorem dX9_learnsOn_79 : decode cX9_learnsOn 79 = .ok (.aload_n 0, 1) := by decide +kernel
theorem dX9_learnsOn_80 : decode cX9_learnsOn 80 = .ok (.getfield 25, 3) := by decide +kernel
theorem dX9_learnsOn_83 : decode cX9_learnsOn 83 = .ok (.iload 5, 2) := by decide +kernel
theorem dX9_learnsOn_85 : decode cX9_learnsOn 85 = .ok (.aload_n 0, 1) := by decide +kernel
theorem dX9_learnsOn_86 : decode cX9_learnsOn 86 = .ok (.iload_n 1, 1) := by decide +kernel
theorem dX9_learnsOn_87 : decode cX9_learnsOn 87 = .ok (.iload 4, 2) := by decide +kernel
theorem dX9_learnsOn_89 : decode cX9_learnsOn 89 = .ok (.iload_n 3, 1) := by decide +kernel
theorem dX9_learnsOn_90 : decode cX9_learnsOn 90 = .ok (.iload_n 2, 1) := by decide +kernel
theorem dX9_learnsOn_91 : decode cX9_learnsOn 91 = .ok (.iconst 0, 1) := by decide +kernel
theorem dX9_learnsOn_92 : decode cX9_learnsOn 92 = .ok (.invokevirtual 182, 3) := by decide +kernel
theorem dX9_learnsOn_95 : decode cX9_learnsOn 95 = .ok (.ifCond .eq 7, 3) := by decide +kernel
theorem dX9_learnsOn_98 : decode cX9_learnsOn 98 = .ok (.iload_n 2, 1) := by decide +kernel
theorem dX9_learnsOn_99 : decode cX9_learnsOn 99 = .ok (.goto 10, 3) := by decide +kernel
theorem dX9_learnsOn_102 : decode cX9_learnsOn 102 = .ok (.aload_n 0, 1) := by decide +kernel
theorem dX9_learnsOn_103 : decode cX9_learnsOn 103 = .ok (.getfield 25, 3) := by decide +kernel
theorem dX9_learnsOn_106 : decode cX9_learnsOn 106 = .ok (.iload 5, 2) := by decide +kernel
theorem dX9_learnsOn_108 : decode cX9_learnsOn 108 = .ok (.iaload, 1) := by decide +kernel
theorem dX9_learnsOn_109 : decode cX9_learnsOn 109 = .ok (.iastore, 1) := by decide +kernel
theorem dX9_learnsOn_110 : decode cX9_learnsOn 110 = .ok (.aload_n 0, 1) := by decide +kernel
theorem dX9_learnsOn_111 : decode cX9_learnsOn 111 = .ok (.getfield 28, 3) := by decide +kernel
theorem dX9_learnsOn_114 : decode cX9_learnsOn 114 = .ok (.iload 5, 2) := by decide +kernel
theorem dX9_learnsOn_116 : decode cX9_learnsOn 116 = .ok (.aload_n 0, 1) := by decide +kernel
theorem dX9_learnsOn_117 : decode cX9_learnsOn 117 = .ok (.iload_n 1, 1) := by decide +kernel
theorem dX9_learnsOn_118 : decode cX9_learnsOn 118 = .ok (.iload 4, 2) := by decide +kernel
theorem dX9_learnsOn_120 : decode cX9_learnsOn 120 = .ok (.iload_n 3, 1) := by decide +kernel
theorem dX9_learnsOn_121 : decode cX9_learnsOn 121 = .ok (.iload_n 2, 1) := by decide +kernel
theorem dX9_learnsOn_122 : decode cX9_learnsOn 122 = .ok (.iconst 1, 1) := by decide +kernel
theorem dX9_learnsOn_123 : decode cX9_learnsOn 123 = .ok (.invokevirtual 182, 3) := by decide +kernel
theorem dX9_learnsOn_126 : decode cX9_learnsOn 126 = .ok (.ifCond .eq 7, 3) := by decide +kernel
theorem dX9_learnsOn_129 : decode cX9_learnsOn 129 = .ok (.iload_n 2, 1) := by decide +kernel
theorem dX9_learnsOn_130 : decode cX9_learnsOn 130 = .ok (.goto 10, 3) := by decide +kernel
theorem dX9_learnsOn_133 : decode cX9_learnsOn 133 = .ok (.aload_n 0, 1) := by decide +kernel
theorem dX9_learnsOn_134 : decode cX9_learnsOn 134 = .ok (.getfield 28, 3) := by decide +kernel
theorem dX9_learnsOn_137 : decode cX9_learnsOn 137 = .ok (.iload 5, 2) := by decide +kernel
theorem dX9_learnsOn_139 : decode cX9_learnsOn 139 = .ok (.iaload, 1) := by decide +kernel
theorem dX9_learnsOn_140 : decode cX9_learnsOn 140 = .ok (.iastore, 1) := by decide +kernel
theorem dX9_learnsOn_141 : decode cX9_learnsOn 141 = .ok (.iinc 4 1, 3) := by decide +kernel
theorem dX9_learnsOn_144 : decode cX9_learnsOn 144 = .ok (.goto (-92), 3) := by decide +kernel
theorem dX9_learnsOn_147 : decode cX9_learnsOn 147 = .ok (.iinc 3 1, 3) := by decide +kernel
theorem dX9_learnsOn_150 : decode cX9_learnsOn 150 = .ok (.goto (-109), 3) := by decide +kernel
theorem dX9_learnsOn_153 : decode cX9_learnsOn 153 = .ok (.iinc 2 (-1), 3) := by decide +kernel
theorem dX9_learnsOn_156 : decode cX9_learnsOn 156 = .ok (.goto (-121), 3) := by decide +kernel
theorem dX9_learnsOn_159 : decode cX9_learnsOn 159 = .ok (.return_, 1) := by decide +kernel
theorem dX9_wholeOf_0 : decode cX9_wholeOf 0 = .ok (.bipush 10, 2) := by decide +kernel
theorem dX9_wholeOf_2 : decode cX9_wholeOf 2 = .ok (.iload_n 1, 1) := by decide +kernel
theorem dX9_wholeOf_3 : decode cX9_wholeOf 3 = .ok (.imul, 1) := by decide +kernel
theorem dX9_wholeOf_4 : decode cX9_wholeOf 4 = .ok (.iload_n 2, 1) := by decide +kernel
theorem dX9_wholeOf_5 : decode cX9_wholeOf 5 = .ok (.iadd, 1) := by decide +kernel
theorem dX9_wholeOf_6 : decode cX9_wholeOf 6 = .ok (.istore_n 3, 1) := by decide +kernel
theorem dX9_wholeOf_7 : decode cX9_wholeOf 7 = .ok (.aload_n 0, 1) := by decide +kernel
theorem dX9_wholeOf_8 : decode cX9_wholeOf 8 = .ok (.getfield 25, 3) := by decide +kernel
theorem dX9_wholeOf_11 : decode cX9_wholeOf 11 = .ok (.iload_n 3, 1) := by decide +kernel
theorem dX9_wholeOf_12 : decode cX9_wholeOf 12 = .ok (.iaload, 1) := by decide +kernel
theorem dX9_wholeOf_13 : decode cX9_wholeOf 13 = .ok (.aload_n 0, 1) := by decide +kernel
theorem dX9_wholeOf_14 : decode cX9_wholeOf 14 = .ok (.getfield 28, 3) := by decide +kernel
theorem dX9_wholeOf_17 : decode cX9_wholeOf 17 = .ok (.iload_n 3, 1) := by decide +kernel
theorem dX9_wholeOf_18 : decode cX9_wholeOf 18 = .ok (.iaload, 1) := by decide +kernel
theorem dX9_wholeOf_19 : decode cX9_wholeOf 19 = .ok (.if_icmp .le 12, 3) := by decide +kernel
theorem dX9_wholeOf_22 : decode cX9_wholeOf 22 = .ok (.aload_n 0, 1) := by decide +kernel
theorem dX9_wholeOf_23 : decode cX9_wholeOf 23 = .ok (.getfield 25, 3) := by decide +kernel
theorem dX9_wholeOf_26 : decode cX9_wholeOf 26 = .ok (.iload_n 3, 1) := by decide +kernel
theorem dX9_wholeOf_27 : decode cX9_wholeOf 27 = .ok (.iaload, 1) := by decide +kernel
theorem dX9_wholeOf_28 : decode cX9_wholeOf 28 = .ok (.goto 9, 3) := by decide +kernel
theorem dX9_wholeOf_31 : decode cX9_wholeOf 31 = .ok (.aload_n 0, 1) := by decide +kernel
theorem dX9_wholeOf_32 : decode cX9_wholeOf 32 = .ok (.getfield 28, 3) := by decide +kernel
theorem dX9_wholeOf_35 : decode cX9_wholeOf 35 = .ok (.iload_n 3, 1) := by decide +kernel
theorem dX9_wholeOf_36 : decode cX9_wholeOf 36 = .ok (.iaload, 1) := by decide +kernel
theorem dX9_wholeOf_37 : decode cX9_wholeOf 37 = .ok (.ireturn, 1) := by decide +kernel
theorem dX9_knownOf_0 : decode cX9_knownOf 0 = .ok (.iconst 0, 1) := by decide +kernel
theorem dX9_knownOf_1 : decode cX9_knownOf 1 = .ok (.istore_n 2, 1) := by decide +kernel
theorem dX9_knownOf_2 : decode cX9_knownOf 2 = .ok (.iconst 0, 1) := by decide +kernel
theorem dX9_knownOf_3 : decode cX9_knownOf 3 = .ok (.istore_n 3, 1) := by decide +kernel
theorem dX9_knownOf_4 : decode cX9_knownOf 4 = .ok (.iload_n 3, 1) := by decide +kernel
theorem dX9_knownOf_5 : decode cX9_knownOf 5 = .ok (.bipush 10, 2) := by decide +kernel
theorem dX9_knownOf_7 : decode cX9_knownOf 7 = .ok (.if_icmp .ge 29, 3) := by decide +kernel
theorem dX9_knownOf_10 : decode cX9_knownOf 10 = .ok (.iload_n 2, 1) := by decide +kernel
theorem dX9_knownOf_11 : decode cX9_knownOf 11 = .ok (.aload_n 0, 1) := by decide +kernel
theorem dX9_knownOf_12 : decode cX9_knownOf 12 = .ok (.iload_n 1, 1) := by decide +kernel
theorem dX9_knownOf_13 : decode cX9_knownOf 13 = .ok (.iload_n 3, 1) := by decide +kernel
theorem dX9_knownOf_14 : decode cX9_knownOf 14 = .ok (.invokevirtual 186, 3) := by decide +kernel
theorem dX9_knownOf_17 : decode cX9_knownOf 17 = .ok (.sipush 1000, 3) := by decide +kernel
theorem dX9_knownOf_20 : decode cX9_knownOf 20 = .ok (.if_icmp .ge 7, 3) := by decide +kernel
theorem dX9_knownOf_23 : decode cX9_knownOf 23 = .ok (.iconst 1, 1) := by decide +kernel
theorem dX9_knownOf_24 : decode cX9_knownOf 24 = .ok (.goto 4, 3) := by decide +kernel
theorem dX9_knownOf_27 : decode cX9_knownOf 27 = .ok (.iconst 0, 1) := by decide +kernel
theorem dX9_knownOf_28 : decode cX9_knownOf 28 = .ok (.iadd, 1) := by decide +kernel
theorem dX9_knownOf_29 : decode cX9_knownOf 29 = .ok (.istore_n 2, 1) := by decide +kernel
theorem dX9_knownOf_30 : decode cX9_knownOf 30 = .ok (.iinc 3 1, 3) := by decide +kernel
theorem dX9_knownOf_33 : decode cX9_knownOf 33 = .ok (.goto (-29), 3) := by decide +kernel
theorem dX9_knownOf_36 : decode cX9_knownOf 36 = .ok (.iload_n 2, 1) := by decide +kernel
theorem dX9_knownOf_37 : decode cX9_knownOf 37 = .ok (.ireturn, 1) := by decide +kernel
theorem dX9_pairsOn_0 : decode cX9_pairsOn 0 = .ok (.aload_n 0, 1) := by decide +kernel
theorem dX9_pairsOn_1 : decode cX9_pairsOn 1 = .ok (.iload_n 1, 1) := by decide +kernel
theorem dX9_pairsOn_2 : decode cX9_pairsOn 2 = .ok (.invokevirtual 189, 3) := by decide +kernel
theorem dX9_pairsOn_5 : decode cX9_pairsOn 5 = .ok (.iconst 0, 1) := by decide +kernel
theorem dX9_pairsOn_6 : decode cX9_pairsOn 6 = .ok (.istore_n 2, 1) := by decide +kernel
theorem dX9_pairsOn_7 : decode cX9_pairsOn 7 = .ok (.iconst 0, 1) := by decide +kernel
theorem dX9_pairsOn_8 : decode cX9_pairsOn 8 = .ok (.istore_n 3, 1) := by decide +kernel
theorem dX9_pairsOn_9 : decode cX9_pairsOn 9 = .ok (.iload_n 3, 1) := by decide +kernel
theorem dX9_pairsOn_10 : decode cX9_pairsOn 10 = .ok (.aload_n 0, 1) := by decide +kernel
theorem dX9_pairsOn_11 : decode cX9_pairsOn 11 = .ok (.getfield 153, 3) := by decide +kernel
theorem dX9_pairsOn_14 : decode cX9_pairsOn 14 = .ok (.if_icmp .ge 17, 3) := by decide +kernel
theorem dX9_pairsOn_17 : decode cX9_pairsOn 17 = .ok (.iload_n 2, 1) := by decide +kernel
theorem dX9_pairsOn_18 : decode cX9_pairsOn 18 = .ok (.aload_n 0, 1) := by decide +kernel
theorem dX9_pairsOn_19 : decode cX9_pairsOn 19 = .ok (.iload_n 3, 1) := by decide +kernel
theorem dX9_pairsOn_20 : decode cX9_pairsOn 20 = .ok (.invokevirtual 192, 3) := by decide +kernel
theorem dX9_pairsOn_23 : decode cX9_pairsOn 23 = .ok (.iadd, 1) := by decide +kernel
theorem dX9_pairsOn_24 : decode cX9_pairsOn 24 = .ok (.istore_n 2, 1) := by decide +kernel
theorem dX9_pairsOn_25 : decode cX9_pairsOn 25 = .ok (.iinc 3 1, 3) := by decide +kernel
theorem dX9_pairsOn_28 : decode cX9_pairsOn 28 = .ok (.goto (-19), 3) := by decide +kernel
theorem dX9_pairsOn_31 : decode cX9_pairsOn 31 = .ok (.iload_n 2, 1) := by decide +kernel
theorem dX9_pairsOn_32 : decode cX9_pairsOn 32 = .ok (.ireturn, 1) := by decide +kernel
theorem dX9_rule_0 : decode cX9_rule 0 = .ok (.iload_n 1, 1) := by decide +kernel
theorem dX9_rule_1 : decode cX9_rule 1 = .ok (.tableswitch 79 0 5 #[39, 44, 52, 57, 65, 73], 39) := by decide +kernel
theorem dX9_rule_40 : decode cX9_rule 40 = .ok (.aload_n 0, 1) := by decide +kernel
theorem dX9_rule_41 : decode cX9_rule 41 = .ok (.getfield 150, 3) := by decide +kernel
theorem dX9_rule_44 : decode cX9_rule 44 = .ok (.ireturn, 1) := by decide +kernel
theorem dX9_rule_45 : decode cX9_rule 45 = .ok (.aload_n 0, 1) := by decide +kernel
theorem dX9_rule_46 : decode cX9_rule 46 = .ok (.getfield 7, 3) := by decide +kernel
theorem dX9_rule_49 : decode cX9_rule 49 = .ok (.bipush 42, 2) := by decide +kernel
theorem dX9_rule_51 : decode cX9_rule 51 = .ok (.iaload, 1) := by decide +kernel
theorem dX9_rule_52 : decode cX9_rule 52 = .ok (.ireturn, 1) := by decide +kernel
theorem dX9_rule_53 : decode cX9_rule 53 = .ok (.aload_n 0, 1) := by decide +kernel
theorem dX9_rule_54 : decode cX9_rule 54 = .ok (.getfield 153, 3) := by decide +kernel
theorem dX9_rule_57 : decode cX9_rule 57 = .ok (.ireturn, 1) := by decide +kernel
theorem dX9_rule_58 : decode cX9_rule 58 = .ok (.aload_n 0, 1) := by decide +kernel
theorem dX9_rule_59 : decode cX9_rule 59 = .ok (.getfield 7, 3) := by decide +kernel
theorem dX9_rule_62 : decode cX9_rule 62 = .ok (.bipush 40, 2) := by decide +kernel
theorem dX9_rule_64 : decode cX9_rule 64 = .ok (.iaload, 1) := by decide +kernel
theorem dX9_rule_65 : decode cX9_rule 65 = .ok (.ireturn, 1) := by decide +kernel
theorem dX9_rule_66 : decode cX9_rule 66 = .ok (.aload_n 0, 1) := by decide +kernel
theorem dX9_rule_67 : decode cX9_rule 67 = .ok (.getfield 7, 3) := by decide +kernel
theorem dX9_rule_70 : decode cX9_rule 70 = .ok (.bipush 41, 2) := by decide +kernel
theorem dX9_rule_72 : decode cX9_rule 72 = .ok (.iaload, 1) := by decide +kernel
theorem dX9_rule_73 : decode cX9_rule 73 = .ok (.ireturn, 1) := by decide +kernel
theorem dX9_rule_74 : decode cX9_rule 74 = .ok (.aload_n 0, 1) := by decide +kernel
theorem dX9_rule_75 : decode cX9_rule 75 = .ok (.iconst 0, 1) := by decide +kernel
theorem dX9_rule_76 : decode cX9_rule 76 = .ok (.invokevirtual 195, 3) := by decide +kernel
theorem dX9_rule_79 : decode cX9_rule 79 = .ok (.ireturn, 1) := by decide +kernel
theorem dX9_rule_80 : decode cX9_rule 80 = .ok (.iconst (-1), 1) := by decide +kernel
theorem dX9_rule_81 : decode cX9_rule 81 = .ok (.ireturn, 1) := by decide +kernel
theorem dX9_man_0 : decode cX9_man 0 = .ok (.aload_n 0, 1) := by decide +kernel
theorem dX9_man_1 : decode cX9_man 1 = .ok (.iload_n 1, 1) := by decide +kernel
theorem dX9_man_2 : decode cX9_man 2 = .ok (.invokevirtual 198, 3) := by decide +kernel
theorem dX9_man_5 : decode cX9_man 5 = .ok (.ifCond .ne 5, 3) := by decide +kernel
theorem dX9_man_8 : decode cX9_man 8 = .ok (.iconst (-1), 1) := by decide +kernel
theorem dX9_man_9 : decode cX9_man 9 = .ok (.ireturn, 1) := by decide +kernel
theorem dX9_man_10 : decode cX9_man 10 = .ok (.iload_n 2, 1) := by decide +kernel
theorem dX9_man_11 : decode cX9_man 11 = .ok (.tableswitch 76 0 4 #[33, 40, 49, 56, 66], 33) := by decide +kernel
theorem dX9_man_44 : decode cX9_man 44 = .ok (.aload_n 0, 1) := by decide +kernel
theorem dX9_man_45 : decode cX9_man 45 = .ok (.getfield 7, 3) := by decide +kernel
theorem dX9_man_48 : decode cX9_man 48 = .ok (.iload_n 1, 1) := by decide +kernel
theorem dX9_man_49 : decode cX9_man 49 = .ok (.iaload, 1) := by decide +kernel
theorem dX9_man_50 : decode cX9_man 50 = .ok (.ireturn, 1) := by decide +kernel
theorem dX9_man_51 : decode cX9_man 51 = .ok (.aload_n 0, 1) := by decide +kernel
theorem dX9_man_52 : decode cX9_man 52 = .ok (.getfield 7, 3) := by decide +kernel
theorem dX9_man_55 : decode cX9_man 55 = .ok (.iconst 4, 1) := by decide +kernel
theorem dX9_man_56 : decode cX9_man 56 = .ok (.iload_n 1, 1) := by decide +kernel
theorem dX9_man_57 : decode cX9_man 57 = .ok (.iadd, 1) := by decide +kernel
theorem dX9_man_58 : decode cX9_man 58 = .ok (.iaload, 1) := by decide +kernel
theorem dX9_man_59 : decode cX9_man 59 = .ok (.ireturn, 1) := by decide +kernel
theorem dX9_man_60 : decode cX9_man 60 = .ok (.aload_n 0, 1) := by decide +kernel
theorem dX9_man_61 : decode cX9_man 61 = .ok (.iconst 0, 1) := by decide +kernel
theorem dX9_man_62 : decode cX9_man 62 = .ok (.iload_n 1, 1) := by decide +kernel
theorem dX9_man_63 : decode cX9_man 63 = .ok (.invokevirtual 169, 3) := by decide +kernel
theorem dX9_man_66 : decode cX9_man 66 = .ok (.ireturn, 1) := by decide +kernel
theorem dX9_man_67 : decode cX9_man 67 = .ok (.aload_n 0, 1) := by decide +kernel
theorem dX9_man_68 : decode cX9_man 68 = .ok (.getfield 7, 3) := by decide +kernel
theorem dX9_man_71 : decode cX9_man 71 = .ok (.bipush 8, 2) := by decide +kernel
theorem dX9_man_73 : decode cX9_man 73 = .ok (.iload_n 1, 1) := by decide +kernel
theorem dX9_man_74 : decode cX9_man 74 = .ok (.iadd, 1) := by decide +kernel
theorem dX9_man_75 : decode cX9_man 75 = .ok (.iaload, 1) := by decide +kernel
theorem dX9_man_76 : decode cX9_man 76 = .ok (.ireturn, 1) := by decide +kernel
theorem dX9_man_77 : decode cX9_man 77 = .ok (.bipush 60, 2) := by decide +kernel
theorem dX9_man_79 : decode cX9_man 79 = .ok (.aload_n 0, 1) := by decide +kernel
theorem dX9_man_80 : decode cX9_man 80 = .ok (.iconst 0, 1) := by decide +kernel
theorem dX9_man_81 : decode cX9_man 81 = .ok (.iload_n 1, 1) := by decide +kernel
theorem dX9_man_82 : decode cX9_man 82 = .ok (.invokevirtual 169, 3) := by decide +kernel
theorem dX9_man_85 : decode cX9_man 85 = .ok (.idiv, 1) := by decide +kernel
theorem dX9_man_86 : decode cX9_man 86 = .ok (.ireturn, 1) := by decide +kernel
theorem dX9_man_87 : decode cX9_man 87 = .ok (.iconst (-1), 1) := by decide +kernel
theorem dX9_man_88 : decode cX9_man 88 = .ok (.ireturn, 1) := by decide +kernel
theorem dX9_isPlace_0 : decode cX9_isPlace 0 = .ok (.aload_n 0, 1) := by decide +kernel
theorem dX9_isPlace_1 : decode cX9_isPlace 1 = .ok (.iload_n 1, 1) := by decide +kernel
theorem dX9_isPlace_2 : decode cX9_isPlace 2 = .ok (.invokevirtual 198, 3) := by decide +kernel
theorem dX9_isPlace_5 : decode cX9_isPlace 5 = .ok (.ifCond .eq 28, 3) := by decide +kernel
theorem dX9_isPlace_8 : decode cX9_isPlace 8 = .ok (.iload_n 2, 1) := by decide +kernel
theorem dX9_isPlace_9 : decode cX9_isPlace 9 = .ok (.i2l, 1) := by decide +kernel
theorem dX9_isPlace_10 : decode cX9_isPlace 10 = .ok (.lconst 0, 1) := by decide +kernel
theorem dX9_isPlace_11 : decode cX9_isPlace 11 = .ok (.aload_n 0, 1) := by decide +kernel
theorem dX9_isPlace_12 : decode cX9_isPlace 12 = .ok (.getfield 7, 3) := by decide +kernel
theorem dX9_isPlace_15 : decode cX9_isPlace 15 = .ok (.bipush 8, 2) := by decide +kernel
theorem dX9_isPlace_17 : decode cX9_isPlace 17 = .ok (.iload_n 1, 1) := by decide +kernel
theorem dX9_isPlace_18 : decode cX9_isPlace 18 = .ok (.iadd, 1) := by decide +kernel
theorem dX9_isPlace_19 : decode cX9_isPlace 19 = .ok (.iaload, 1) := by decide +kernel
theorem dX9_isPlace_20 : decode cX9_isPlace 20 = .ok (.iconst 1, 1) := by decide +kernel
theorem dX9_isPlace_21 : decode cX9_isPlace 21 = .ok (.isub, 1) := by decide +kernel
theorem dX9_isPlace_22 : decode cX9_isPlace 22 = .ok (.i2l, 1) := by decide +kernel
theorem dX9_isPlace_23 : decode cX9_isPlace 23 = .ok (.invokestatic 55, 3) := by decide +kernel
theorem dX9_isPlace_26 : decode cX9_isPlace 26 = .ok (.ifCond .eq 7, 3) := by decide +kernel
theorem dX9_isPlace_29 : decode cX9_isPlace 29 = .ok (.iconst 1, 1) := by decide +kernel
theorem dX9_isPlace_30 : decode cX9_isPlace 30 = .ok (.goto 4, 3) := by decide +kernel
theorem dX9_isPlace_33 : decode cX9_isPlace 33 = .ok (.iconst 0, 1) := by decide +kernel
theorem dX9_isPlace_34 : decode cX9_isPlace 34 = .ok (.ireturn, 1) := by decide +kernel
theorem dX9_walk_0 : decode cX9_walk 0 = .ok (.aload_n 0, 1) := by decide +kernel
theorem dX9_walk_1 : decode cX9_walk 1 = .ok (.iload_n 1, 1) := by decide +kernel
theorem dX9_walk_2 : decode cX9_walk 2 = .ok (.iload_n 2, 1) := by decide +kernel
theorem dX9_walk_3 : decode cX9_walk 3 = .ok (.invokevirtual 201, 3) := by decide +kernel
theorem dX9_walk_6 : decode cX9_walk 6 = .ok (.ifCond .eq 19, 3) := by decide +kernel
theorem dX9_walk_9 : decode cX9_walk 9 = .ok (.aload_n 0, 1) := by decide +kernel
theorem dX9_walk_10 : decode cX9_walk 10 = .ok (.getfield 7, 3) := by decide +kernel
theorem dX9_walk_13 : decode cX9_walk 13 = .ok (.bipush 12, 2) := by decide +kernel
theorem dX9_walk_15 : decode cX9_walk 15 = .ok (.iconst 4, 1) := by decide +kernel
theorem dX9_walk_16 : decode cX9_walk 16 = .ok (.iload_n 1, 1) := by decide +kernel
theorem dX9_walk_17 : decode cX9_walk 17 = .ok (.imul, 1) := by decide +kernel
theorem dX9_walk_18 : decode cX9_walk 18 = .ok (.iadd, 1) := by decide +kernel
theorem dX9_walk_19 : decode cX9_walk 19 = .ok (.iload_n 2, 1) := by decide +kernel
theorem dX9_walk_20 : decode cX9_walk 20 = .ok (.iadd, 1) := by decide +kernel
theorem dX9_walk_21 : decode cX9_walk 21 = .ok (.iaload, 1) := by decide +kernel
theorem dX9_walk_22 : decode cX9_walk 22 = .ok (.goto 4, 3) := by decide +kernel
theorem dX9_walk_25 : decode cX9_walk 25 = .ok (.iconst (-1), 1) := by decide +kernel
theorem dX9_walk_26 : decode cX9_walk 26 = .ok (.ireturn, 1) := by decide +kernel
theorem dX9_street_0 : decode cX9_street 0 = .ok (.iload_n 1, 1) := by decide +kernel
theorem dX9_street_1 : decode cX9_street 1 = .ok (.i2l, 1) := by decide +kernel
theorem dX9_street_2 : decode cX9_street 2 = .ok (.lconst 0, 1) := by decide +kernel
theorem dX9_street_3 : decode cX9_street 3 = .ok (.aload_n 0, 1) := by decide +kernel
theorem dX9_street_4 : decode cX9_street 4 = .ok (.getfield 7, 3) := by decide +kernel
theorem dX9_street_7 : decode cX9_street 7 = .ok (.bipush 42, 2) := by decide +kernel
theorem dX9_street_9 : decode cX9_street 9 = .ok (.iaload, 1) := by decide +kernel
theorem dX9_street_10 : decode cX9_street 10 = .ok (.iconst 1, 1) := by decide +kernel
theorem dX9_street_11 : decode cX9_street 11 = .ok (.isub, 1) := by decide +kernel
theorem dX9_street_12 : decode cX9_street 12 = .ok (.i2l, 1) := by decide +kernel
theorem dX9_street_13 : decode cX9_street 13 = .ok (.invokestatic 55, 3) := by decide +kernel
theorem dX9_street_16 : decode cX9_street 16 = .ok (.ifCond .eq 30, 3) := by decide +kernel
theorem dX9_street_19 : decode cX9_street 19 = .ok (.iload_n 2, 1) := by decide +kernel
theorem dX9_street_20 : decode cX9_street 20 = .ok (.i2l, 1) := by decide +kernel
theorem dX9_street_21 : decode cX9_street 21 = .ok (.lconst 0, 1) := by decide +kernel
theorem dX9_street_22 : decode cX9_street 22 = .ok (.lconst 1, 1) := by decide +kernel
theorem dX9_street_23 : decode cX9_street 23 = .ok (.invokestatic 55, 3) := by decide +kernel
theorem dX9_street_26 : decode cX9_street 26 = .ok (.ifCond .eq 20, 3) := by decide +kernel
theorem dX9_street_29 : decode cX9_street 29 = .ok (.aload_n 0, 1) := by decide +kernel
theorem dX9_street_30 : decode cX9_street 30 = .ok (.getfield 7, 3) := by decide +kernel
theorem dX9_street_33 : decode cX9_street 33 = .ok (.bipush 43, 2) := by decide +kernel
theorem dX9_street_35 : decode cX9_street 35 = .ok (.bipush 9, 2) := by decide +kernel
theorem dX9_street_37 : decode cX9_street 37 = .ok (.iload_n 2, 1) := by decide +kernel
theorem dX9_street_38 : decode cX9_street 38 = .ok (.imul, 1) := by decide +kernel
theorem dX9_street_39 : decode cX9_street 39 = .ok (.iadd, 1) := by decide +kernel
theorem dX9_street_40 : decode cX9_street 40 = .ok (.iload_n 1, 1) := by decide +kernel
theorem dX9_street_41 : decode cX9_street 41 = .ok (.iadd, 1) := by decide +kernel
theorem dX9_street_42 : decode cX9_street 42 = .ok (.iaload, 1) := by decide +kernel
theorem dX9_street_43 : decode cX9_street 43 = .ok (.goto 4, 3) := by decide +kernel
theorem dX9_street_46 : decode cX9_street 46 = .ok (.iconst (-1), 1) := by decide +kernel
theorem dX9_street_47 : decode cX9_street 47 = .ok (.ireturn, 1) := by decide +kernel
theorem dX9_reader_0 : decode cX9_reader 0 = .ok (.aload_n 0, 1) := by decide +kernel
theorem dX9_reader_1 : decode cX9_reader 1 = .ok (.iload_n 1, 1) := by decide +kernel
theorem dX9_reader_2 : decode cX9_reader 2 = .ok (.invokevirtual 204, 3) := by decide +kernel
theorem dX9_reader_5 : decode cX9_reader 5 = .ok (.ifCond .eq 31, 3) := by decide +kernel
theorem dX9_reader_8 : decode cX9_reader 8 = .ok (.iload_n 2, 1) := by decide +kernel
theorem dX9_reader_9 : decode cX9_reader 9 = .ok (.i2l, 1) := by decide +kernel
theorem dX9_reader_10 : decode cX9_reader 10 = .ok (.lconst 0, 1) := by decide +kernel
theorem dX9_reader_11 : decode cX9_reader 11 = .ok (.ldc2_w 207, 3) := by decide +kernel
theorem dX9_reader_14 : decode cX9_reader 14 = .ok (.invokestatic 55, 3) := by decide +kernel
theorem dX9_reader_17 : decode cX9_reader 17 = .ok (.ifCond .eq 19, 3) := by decide +kernel
theorem dX9_reader_20 : decode cX9_reader 20 = .ok (.aload_n 0, 1) := by decide +kernel
theorem dX9_reader_21 : decode cX9_reader 21 = .ok (.getfield 7, 3) := by decide +kernel
theorem dX9_reader_24 : decode cX9_reader 24 = .ok (.bipush 28, 2) := by decide +kernel
theorem dX9_reader_26 : decode cX9_reader 26 = .ok (.iconst 4, 1) := by decide +kernel
theorem dX9_reader_27 : decode cX9_reader 27 = .ok (.iload_n 2, 1) := by decide +kernel
theorem dX9_reader_28 : decode cX9_reader 28 = .ok (.imul, 1) := by decide +kernel
theorem dX9_reader_29 : decode cX9_reader 29 = .ok (.iadd, 1) := by decide +kernel
theorem dX9_reader_30 : decode cX9_reader 30 = .ok (.iload_n 1, 1) := by decide +kernel
theorem dX9_reader_31 : decode cX9_reader 31 = .ok (.iadd, 1) := by decide +kernel
theorem dX9_reader_32 : decode cX9_reader 32 = .ok (.iaload, 1) := by decide +kernel
theorem dX9_reader_33 : decode cX9_reader 33 = .ok (.goto 4, 3) := by decide +kernel
theorem dX9_reader_36 : decode cX9_reader 36 = .ok (.iconst (-1), 1) := by decide +kernel
theorem dX9_reader_37 : decode cX9_reader 37 = .ok (.ireturn, 1) := by decide +kernel
theorem dX9_puts_0 : decode cX9_puts 0 = .ok (.iload_n 1, 1) := by decide +kernel
theorem dX9_puts_1 : decode cX9_puts 1 = .ok (.ifCond .ne 5, 3) := by decide +kernel
theorem dX9_puts_4 : decode cX9_puts 4 = .ok (.iconst (-1), 1) := by decide +kernel
theorem dX9_puts_5 : decode cX9_puts 5 = .ok (.ireturn, 1) := by decide +kernel
theorem dX9_puts_6 : decode cX9_puts 6 = .ok (.aload_n 0, 1) := by decide +kernel
theorem dX9_puts_7 : decode cX9_puts 7 = .ok (.getfield 7, 3) := by decide +kernel
theorem dX9_puts_10 : decode cX9_puts 10 = .ok (.iload_n 2, 1) := by decide +kernel
theorem dX9_puts_11 : decode cX9_puts 11 = .ok (.iaload, 1) := by decide +kernel
theorem dX9_puts_12 : decode cX9_puts 12 = .ok (.istore 4, 2) := by decide +kernel
theorem dX9_puts_14 : decode cX9_puts 14 = .ok (.aload_n 0, 1) := by decide +kernel
theorem dX9_puts_15 : decode cX9_puts 15 = .ok (.getfield 7, 3) := by decide +kernel
theorem dX9_puts_18 : decode cX9_puts 18 = .ok (.iload_n 2, 1) := by decide +kernel
theorem dX9_puts_19 : decode cX9_puts 19 = .ok (.iload_n 3, 1) := by decide +kernel
theorem dX9_puts_20 : decode cX9_puts 20 = .ok (.iastore, 1) := by decide +kernel
theorem dX9_puts_21 : decode cX9_puts 21 = .ok (.iload 4, 2) := by decide +kernel
theorem dX9_puts_23 : decode cX9_puts 23 = .ok (.ireturn, 1) := by decide +kernel
theorem dX9_alter_0 : decode cX9_alter 0 = .ok (.aload_n 0, 1) := by decide +kernel
theorem dX9_alter_1 : decode cX9_alter 1 = .ok (.aload_n 0, 1) := by decide +kernel
theorem dX9_alter_2 : decode cX9_alter 2 = .ok (.iload_n 1, 1) := by decide +kernel
theorem dX9_alter_3 : decode cX9_alter 3 = .ok (.invokevirtual 198, 3) := by decide +kernel
theorem dX9_alter_6 : decode cX9_alter 6 = .ok (.ifCond .eq 39, 3) := by decide +kernel
theorem dX9_alter_9 : decode cX9_alter 9 = .ok (.iload_n 2, 1) := by decide +kernel
theorem dX9_alter_10 : decode cX9_alter 10 = .ok (.i2l, 1) := by decide +kernel
theorem dX9_alter_11 : decode cX9_alter 11 = .ok (.lconst 0, 1) := by decide +kernel
theorem dX9_alter_12 : decode cX9_alter 12 = .ok (.lconst 1, 1) := by decide +kernel
theorem dX9_alter_13 : decode cX9_alter 13 = .ok (.invokestatic 55, 3) := by decide +kernel
theorem dX9_alter_16 : decode cX9_alter 16 = .ok (.ifCond .eq 29, 3) := by decide +kernel
theorem dX9_alter_19 : decode cX9_alter 19 = .ok (.iload_n 3, 1) := by decide +kernel
theorem dX9_alter_20 : decode cX9_alter 20 = .ok (.i2l, 1) := by decide +kernel
theorem dX9_alter_21 : decode cX9_alter 21 = .ok (.lconst 0, 1) := by decide +kernel
theorem dX9_alter_22 : decode cX9_alter 22 = .ok (.iload_n 2, 1) := by decide +kernel
theorem dX9_alter_23 : decode cX9_alter 23 = .ok (.ifCond .ne 9, 3) := by decide +kernel
theorem dX9_alter_26 : decode cX9_alter 26 = .ok (.ldc2_w 209, 3) := by decide +kernel
theorem dX9_alter_29 : decode cX9_alter 29 = .ok (.goto 6, 3) := by decide +kernel
theorem dX9_alter_32 : decode cX9_alter 32 = .ok (.ldc2_w 163, 3) := by decide +kernel
theorem dX9_alter_35 : decode cX9_alter 35 = .ok (.invokestatic 55, 3) := by decide +kernel
theorem dX9_alter_38 : decode cX9_alter 38 = .ok (.ifCond .eq 7, 3) := by decide +kernel
theorem dX9_alter_41 : decode cX9_alter 41 = .ok (.iconst 1, 1) := by decide +kernel
theorem dX9_alter_42 : decode cX9_alter 42 = .ok (.goto 4, 3) := by decide +kernel
theorem dX9_alter_45 : decode cX9_alter 45 = .ok (.iconst 0, 1) := by decide +kernel
theorem dX9_alter_46 : decode cX9_alter 46 = .ok (.iconst 4, 1) := by decide +kernel
theorem dX9_alter_47 : decode cX9_alter 47 = .ok (.iload_n 2, 1) := by decide +kernel
theorem dX9_alter_48 : decode cX9_alter 48 = .ok (.imul, 1) := by decide +kernel
theorem dX9_alter_49 : decode cX9_alter 49 = .ok (.iload_n 1, 1) := by decide +kernel
theorem dX9_alter_50 : decode cX9_alter 50 = .ok (.iadd, 1) := by decide +kernel
theorem dX9_alter_51 : decode cX9_alter 51 = .ok (.iload_n 3, 1) := by decide +kernel
theorem dX9_alter_52 : decode cX9_alter 52 = .ok (.invokevirtual 211, 3) := by decide +kernel
theorem dX9_alter_55 : decode cX9_alter 55 = .ok (.ireturn, 1) := by decide +kernel
theorem dX9_detour_0 : decode cX9_detour 0 = .ok (.aload_n 0, 1) := by decide +kernel
theorem dX9_detour_1 : decode cX9_detour 1 = .ok (.iload_n 1, 1) := by decide +kernel
theorem dX9_detour_2 : decode cX9_detour 2 = .ok (.iload_n 2, 1) := by decide +kernel
theorem dX9_detour_3 : decode cX9_detour 3 = .ok (.invokevirtual 201, 3) := by decide +kernel
theorem dX9_detour_6 : decode cX9_detour 6 = .ok (.ifCond .eq 10, 3) := by decide +kernel
theorem dX9_detour_9 : decode cX9_detour 9 = .ok (.iload_n 3, 1) := by decide +kernel
theorem dX9_detour_10 : decode cX9_detour 10 = .ok (.invokestatic 215, 3) := by decide +kernel
theorem dX9_detour_13 : decode cX9_detour 13 = .ok (.ifCond .ne 5, 3) := by decide +kernel
theorem dX9_detour_16 : decode cX9_detour 16 = .ok (.iconst (-1), 1) := by decide +kernel
theorem dX9_detour_17 : decode cX9_detour 17 = .ok (.ireturn, 1) := by decide +kernel
theorem dX9_detour_18 : decode cX9_detour 18 = .ok (.aload_n 0, 1) := by decide +kernel
theorem dX9_detour_19 : decode cX9_detour 19 = .ok (.getfield 7, 3) := by decide +kernel
theorem dX9_detour_22 : decode cX9_detour 22 = .ok (.bipush 12, 2) := by decide +kernel
theorem dX9_detour_24 : decode cX9_detour 24 = .ok (.iconst 4, 1) := by decide +kernel
theorem dX9_detour_25 : decode cX9_detour 25 = .ok (.iload_n 1, 1) := by decide +kernel
theorem dX9_detour_26 : decode cX9_detour 26 = .ok (.imul, 1) := by decide +kernel
theorem dX9_detour_27 : decode cX9_detour 27 = .ok (.iadd, 1) := by decide +kernel
theorem dX9_detour_28 : decode cX9_detour 28 = .ok (.iload_n 2, 1) := by decide +kernel
theorem dX9_detour_29 : decode cX9_detour 29 = .ok (.iadd, 1) := by decide +kernel
theorem dX9_detour_30 : decode cX9_detour 30 = .ok (.iaload, 1) := by decide +kernel
theorem dX9_detour_31 : decode cX9_detour 31 = .ok (.istore 4, 2) := by decide +kernel
theorem dX9_detour_33 : decode cX9_detour 33 = .ok (.aload_n 0, 1) := by decide +kernel
theorem dX9_detour_34 : decode cX9_detour 34 = .ok (.getfield 7, 3) := by decide +kernel
theorem dX9_detour_37 : decode cX9_detour 37 = .ok (.bipush 12, 2) := by decide +kernel
theorem dX9_detour_39 : decode cX9_detour 39 = .ok (.iconst 4, 1) := by decide +kernel
theorem dX9_detour_40 : decode cX9_detour 40 = .ok (.iload_n 1, 1) := by decide +kernel
theorem dX9_detour_41 : decode cX9_detour 41 = .ok (.imul, 1) := by decide +kernel
theorem dX9_detour_42 : decode cX9_detour 42 = .ok (.iadd, 1) := by decide +kernel
theorem dX9_detour_43 : decode cX9_detour 43 = .ok (.iload_n 2, 1) := by decide +kernel
theorem dX9_detour_44 : decode cX9_detour 44 = .ok (.iadd, 1) := by decide +kernel
theorem dX9_detour_45 : decode cX9_detour 45 = .ok (.iload_n 3, 1) := by decide +kernel
theorem dX9_detour_46 : decode cX9_detour 46 = .ok (.iastore, 1) := by decide +kernel
theorem dX9_detour_47 : decode cX9_detour 47 = .ok (.aload_n 0, 1) := by decide +kernel
theorem dX9_detour_48 : decode cX9_detour 48 = .ok (.iconst 0, 1) := by decide +kernel
theorem dX9_detour_49 : decode cX9_detour 49 = .ok (.iload_n 1, 1) := by decide +kernel
theorem dX9_detour_50 : decode cX9_detour 50 = .ok (.invokevirtual 136, 3) := by decide +kernel
theorem dX9_detour_53 : decode cX9_detour 53 = .ok (.ifCond .ne 21, 3) := by decide +kernel
theorem dX9_detour_56 : decode cX9_detour 56 = .ok (.aload_n 0, 1) := by decide +kernel
theorem dX9_detour_57 : decode cX9_detour 57 = .ok (.getfield 7, 3) := by decide +kernel
theorem dX9_detour_60 : decode cX9_detour 60 = .ok (.bipush 12, 2) := by decide +kernel
theorem dX9_detour_62 : decode cX9_detour 62 = .ok (.iconst 4, 1) := by decide +kernel
theorem dX9_detour_63 : decode cX9_detour 63 = .ok (.iload_n 1, 1) := by decide +kernel
theorem dX9_detour_64 : decode cX9_detour 64 = .ok (.imul, 1) := by decide +kernel
theorem dX9_detour_65 : decode cX9_detour 65 = .ok (.iadd, 1) := by decide +kernel
theorem dX9_detour_66 : decode cX9_detour 66 = .ok (.iload_n 2, 1) := by decide +kernel
theorem dX9_detour_67 : decode cX9_detour 67 = .ok (.iadd, 1) := by decide +kernel
theorem dX9_detour_68 : decode cX9_detour 68 = .ok (.iload 4, 2) := by decide +kernel
theorem dX9_detour_70 : decode cX9_detour 70 = .ok (.iastore, 1) := by decide +kernel
theorem dX9_detour_71 : decode cX9_detour 71 = .ok (.bipush (-2), 2) := by decide +kernel
theorem dX9_detour_73 : decode cX9_detour 73 = .ok (.ireturn, 1) := by decide +kernel
theorem dX9_detour_74 : decode cX9_detour 74 = .ok (.iload 4, 2) := by decide +kernel
theorem dX9_detour_76 : decode cX9_detour 76 = .ok (.ireturn, 1) := by decide +kernel
theorem dX9_shiftsOn_0 : decode cX9_shiftsOn 0 = .ok (.aload_n 0, 1) := by decide +kernel
theorem dX9_shiftsOn_1 : decode cX9_shiftsOn 1 = .ok (.getfield 7, 3) := by decide +kernel
theorem dX9_shiftsOn_4 : decode cX9_shiftsOn 4 = .ok (.iload_n 1, 1) := by decide +kernel
theorem dX9_shiftsOn_5 : decode cX9_shiftsOn 5 = .ok (.bipush 8, 2) := by decide +kernel
theorem dX9_shiftsOn_7 : decode cX9_shiftsOn 7 = .ok (.iadd, 1) := by decide +kernel
theorem dX9_shiftsOn_8 : decode cX9_shiftsOn 8 = .ok (.iload_n 2, 1) := by decide +kernel
theorem dX9_shiftsOn_9 : decode cX9_shiftsOn 9 = .ok (.iadd, 1) := by decide +kernel
theorem dX9_shiftsOn_10 : decode cX9_shiftsOn 10 = .ok (.iaload, 1) := by decide +kernel
theorem dX9_shiftsOn_11 : decode cX9_shiftsOn 11 = .ok (.istore 4, 2) := by decide +kernel
theorem dX9_shiftsOn_13 : decode cX9_shiftsOn 13 = .ok (.iconst 0, 1) := by decide +kernel
theorem dX9_shiftsOn_14 : decode cX9_shiftsOn 14 = .ok (.istore 5, 2) := by decide +kernel
theorem dX9_shiftsOn_16 : decode cX9_shiftsOn 16 = .ok (.iload 5, 2) := by decide +kernel
theorem dX9_shiftsOn_18 : decode cX9_shiftsOn 18 = .ok (.iload 4, 2) := by decide +kernel
theorem dX9_shiftsOn_20 : decode cX9_shiftsOn 20 = .ok (.if_icmp .ge 37, 3) := by decide +kernel
theorem dX9_shiftsOn_23 : decode cX9_shiftsOn 23 = .ok (.aload_n 0, 1) := by decide +kernel
theorem dX9_shiftsOn_24 : decode cX9_shiftsOn 24 = .ok (.getfield 31, 3) := by decide +kernel
theorem dX9_shiftsOn_27 : decode cX9_shiftsOn 27 = .ok (.iload 5, 2) := by decide +kernel
theorem dX9_shiftsOn_29 : decode cX9_shiftsOn 29 = .ok (.aload_n 0, 1) := by decide +kernel
theorem dX9_shiftsOn_30 : decode cX9_shiftsOn 30 = .ok (.getfield 7, 3) := by decide +kernel
theorem dX9_shiftsOn_33 : decode cX9_shiftsOn 33 = .ok (.iload_n 1, 1) := by decide +kernel
theorem dX9_shiftsOn_34 : decode cX9_shiftsOn 34 = .ok (.bipush 12, 2) := by decide +kernel
theorem dX9_shiftsOn_36 : decode cX9_shiftsOn 36 = .ok (.iadd, 1) := by decide +kernel
theorem dX9_shiftsOn_37 : decode cX9_shiftsOn 37 = .ok (.iconst 4, 1) := by decide +kernel
theorem dX9_shiftsOn_38 : decode cX9_shiftsOn 38 = .ok (.iload_n 2, 1) := by decide +kernel
theorem dX9_shiftsOn_39 : decode cX9_shiftsOn 39 = .ok (.imul, 1) := by decide +kernel
theorem dX9_shiftsOn_40 : decode cX9_shiftsOn 40 = .ok (.iadd, 1) := by decide +kernel
theorem dX9_shiftsOn_41 : decode cX9_shiftsOn 41 = .ok (.iload_n 3, 1) := by decide +kernel
theorem dX9_shiftsOn_42 : decode cX9_shiftsOn 42 = .ok (.iload 5, 2) := by decide +kernel
theorem dX9_shiftsOn_44 : decode cX9_shiftsOn 44 = .ok (.iadd, 1) := by decide +kernel
theorem dX9_shiftsOn_45 : decode cX9_shiftsOn 45 = .ok (.iload 4, 2) := by decide +kernel
theorem dX9_shiftsOn_47 : decode cX9_shiftsOn 47 = .ok (.irem, 1) := by decide +kernel
theorem dX9_shiftsOn_48 : decode cX9_shiftsOn 48 = .ok (.iadd, 1) := by decide +kernel
theorem dX9_shiftsOn_49 : decode cX9_shiftsOn 49 = .ok (.iaload, 1) := by decide +kernel
theorem dX9_shiftsOn_50 : decode cX9_shiftsOn 50 = .ok (.iastore, 1) := by decide +kernel
theorem dX9_shiftsOn_51 : decode cX9_shiftsOn 51 = .ok (.iinc 5 1, 3) := by decide +kernel
theorem dX9_shiftsOn_54 : decode cX9_shiftsOn 54 = .ok (.goto (-38), 3) := by decide +kernel
theorem dX9_shiftsOn_57 : decode cX9_shiftsOn 57 = .ok (.iconst 0, 1) := by decide +kernel
theorem dX9_shiftsOn_58 : decode cX9_shiftsOn 58 = .ok (.istore 5, 2) := by decide +kernel
theorem dX9_shiftsOn_60 : decode cX9_shiftsOn 60 = .ok (.iload 5, 2) := by decide +kernel
theorem dX9_shiftsOn_62 : decode cX9_shiftsOn 62 = .ok (.iload 4, 2) := by decide +kernel
theorem dX9_shiftsOn_64 : decode cX9_shiftsOn 64 = .ok (.if_icmp .ge 32, 3) := by decide +kernel
theorem dX9_shiftsOn_67 : decode cX9_shiftsOn 67 = .ok (.aload_n 0, 1) := by decide +kernel
theorem dX9_shiftsOn_68 : decode cX9_shiftsOn 68 = .ok (.getfield 7, 3) := by decide +kernel
theorem dX9_shiftsOn_71 : decode cX9_shiftsOn 71 = .ok (.iload_n 1, 1) := by decide +kernel
theorem dX9_shiftsOn_72 : decode cX9_shiftsOn 72 = .ok (.bipush 12, 2) := by decide +kernel
theorem dX9_shiftsOn_74 : decode cX9_shiftsOn 74 = .ok (.iadd, 1) := by decide +kernel
theorem dX9_shiftsOn_75 : decode cX9_shiftsOn 75 = .ok (.iconst 4, 1) := by decide +kernel
theorem dX9_shiftsOn_76 : decode cX9_shiftsOn 76 = .ok (.iload_n 2, 1) := by decide +kernel
theorem dX9_shiftsOn_77 : decode cX9_shiftsOn 77 = .ok (.imul, 1) := by decide +kernel
theorem dX9_shiftsOn_78 : decode cX9_shiftsOn 78 = .ok (.iadd, 1) := by decide +kernel
theorem dX9_shiftsOn_79 : decode cX9_shiftsOn 79 = .ok (.iload 5, 2) := by decide +kernel
theorem dX9_shiftsOn_81 : decode cX9_shiftsOn 81 = .ok (.iadd, 1) := by decide +kernel
theorem dX9_shiftsOn_82 : decode cX9_shiftsOn 82 = .ok (.aload_n 0, 1) := by decide +kernel
theorem dX9_shiftsOn_83 : decode cX9_shiftsOn 83 = .ok (.getfield 31, 3) := by decide +kernel
theorem dX9_shiftsOn_86 : decode cX9_shiftsOn 86 = .ok (.iload 5, 2) := by decide +kernel
theorem dX9_shiftsOn_88 : decode cX9_shiftsOn 88 = .ok (.iaload, 1) := by decide +kernel
theorem dX9_shiftsOn_89 : decode cX9_shiftsOn 89 = .ok (.iastore, 1) := by decide +kernel
theorem dX9_shiftsOn_90 : decode cX9_shiftsOn 90 = .ok (.iinc 5 1, 3) := by decide +kernel
theorem dX9_shiftsOn_93 : decode cX9_shiftsOn 93 = .ok (.goto (-33), 3) := by decide +kernel
theorem dX9_shiftsOn_96 : decode cX9_shiftsOn 96 = .ok (.return_, 1) := by decide +kernel
theorem dX9_shift_0 : decode cX9_shift 0 = .ok (.aload_n 0, 1) := by decide +kernel
theorem dX9_shift_1 : decode cX9_shift 1 = .ok (.iload_n 1, 1) := by decide +kernel
theorem dX9_shift_2 : decode cX9_shift 2 = .ok (.iload_n 2, 1) := by decide +kernel
theorem dX9_shift_3 : decode cX9_shift 3 = .ok (.invokevirtual 201, 3) := by decide +kernel
theorem dX9_shift_6 : decode cX9_shift 6 = .ok (.ifCond .ne 5, 3) := by decide +kernel
theorem dX9_shift_9 : decode cX9_shift 9 = .ok (.iconst (-1), 1) := by decide +kernel
theorem dX9_shift_10 : decode cX9_shift 10 = .ok (.ireturn, 1) := by decide +kernel
theorem dX9_shift_11 : decode cX9_shift 11 = .ok (.aload_n 0, 1) := by decide +kernel
theorem dX9_shift_12 : decode cX9_shift 12 = .ok (.getfield 7, 3) := by decide +kernel
theorem dX9_shift_15 : decode cX9_shift 15 = .ok (.bipush 12, 2) := by decide +kernel
theorem dX9_shift_17 : decode cX9_shift 17 = .ok (.iconst 4, 1) := by decide +kernel
theorem dX9_shift_18 : decode cX9_shift 18 = .ok (.iload_n 1, 1) := by decide +kernel
theorem dX9_shift_19 : decode cX9_shift 19 = .ok (.imul, 1) := by decide +kernel
theorem dX9_shift_20 : decode cX9_shift 20 = .ok (.iadd, 1) := by decide +kernel
theorem dX9_shift_21 : decode cX9_shift 21 = .ok (.iaload, 1) := by decide +kernel
theorem dX9_shift_22 : decode cX9_shift 22 = .ok (.istore_n 3, 1) := by decide +kernel
theorem dX9_shift_23 : decode cX9_shift 23 = .ok (.aload_n 0, 1) := by decide +kernel
theorem dX9_shift_24 : decode cX9_shift 24 = .ok (.iconst 0, 1) := by decide +kernel
theorem dX9_shift_25 : decode cX9_shift 25 = .ok (.iload_n 1, 1) := by decide +kernel
theorem dX9_shift_26 : decode cX9_shift 26 = .ok (.iload_n 2, 1) := by decide +kernel
theorem dX9_shift_27 : decode cX9_shift 27 = .ok (.invokevirtual 218, 3) := by decide +kernel
theorem dX9_shift_30 : decode cX9_shift 30 = .ok (.iload_n 3, 1) := by decide +kernel
theorem dX9_shift_31 : decode cX9_shift 31 = .ok (.ireturn, 1) := by decide +kernel
theorem dX9_stands_0 : decode cX9_stands 0 = .ok (.iload_n 2, 1) := by decide +kernel
theorem dX9_stands_1 : decode cX9_stands 1 = .ok (.ifCond .ne 10, 3) := by decide +kernel
theorem dX9_stands_4 : decode cX9_stands 4 = .ok (.iload_n 3, 1) := by decide +kernel
theorem dX9_stands_5 : decode cX9_stands 5 = .ok (.invokestatic 215, 3) := by decide +kernel
theorem dX9_stands_8 : decode cX9_stands 8 = .ok (.goto 7, 3) := by decide +kernel
theorem dX9_stands_11 : decode cX9_stands 11 = .ok (.iload_n 3, 1) := by decide +kernel
theorem dX9_stands_12 : decode cX9_stands 12 = .ok (.invokestatic 222, 3) := by decide +kernel
theorem dX9_stands_15 : decode cX9_stands 15 = .ok (.istore 4, 2) := by decide +kernel
theorem dX9_stands_17 : decode cX9_stands 17 = .ok (.aload_n 0, 1) := by decide +kernel
theorem dX9_stands_18 : decode cX9_stands 18 = .ok (.iload_n 1, 1) := by decide +kernel
theorem dX9_stands_19 : decode cX9_stands 19 = .ok (.invokevirtual 204, 3) := by decide +kernel
theorem dX9_stands_22 : decode cX9_stands 22 = .ok (.ifCond .eq 20, 3) := by decide +kernel
theorem dX9_stands_25 : decode cX9_stands 25 = .ok (.iload_n 2, 1) := by decide +kernel
theorem dX9_stands_26 : decode cX9_stands 26 = .ok (.i2l, 1) := by decide +kernel
theorem dX9_stands_27 : decode cX9_stands 27 = .ok (.lconst 0, 1) := by decide +kernel
theorem dX9_stands_28 : decode cX9_stands 28 = .ok (.ldc2_w 207, 3) := by decide +kernel
theorem dX9_stands_31 : decode cX9_stands 31 = .ok (.invokestatic 55, 3) := by decide +kernel
theorem dX9_stands_34 : decode cX9_stands 34 = .ok (.ifCond .eq 8, 3) := by decide +kernel
theorem dX9_stands_37 : decode cX9_stands 37 = .ok (.iload 4, 2) := by decide +kernel
theorem dX9_stands_39 : decode cX9_stands 39 = .ok (.ifCond .ne 5, 3) := by decide +kernel
theorem dX9_stands_42 : decode cX9_stands 42 = .ok (.iconst (-1), 1) := by decide +kernel
theorem dX9_stands_43 : decode cX9_stands 43 = .ok (.ireturn, 1) := by decide +kernel
theorem dX9_stands_44 : decode cX9_stands 44 = .ok (.iload_n 2, 1) := by decide +kernel
theorem dX9_stands_45 : decode cX9_stands 45 = .ok (.iconst 1, 1) := by decide +kernel
theorem dX9_stands_46 : decode cX9_stands 46 = .ok (.if_icmp .ne 16, 3) := by decide +kernel
theorem dX9_stands_49 : decode cX9_stands 49 = .ok (.iload_n 3, 1) := by decide +kernel
theorem dX9_stands_50 : decode cX9_stands 50 = .ok (.aload_n 0, 1) := by decide +kernel
theorem dX9_stands_51 : decode cX9_stands 51 = .ok (.getfield 7, 3) := by decide +kernel
theorem dX9_stands_54 : decode cX9_stands 54 = .ok (.bipush 36, 2) := by decide +kernel
theorem dX9_stands_56 : decode cX9_stands 56 = .ok (.iload_n 1, 1) := by decide +kernel
theorem dX9_stands_57 : decode cX9_stands 57 = .ok (.iadd, 1) := by decide +kernel
theorem dX9_stands_58 : decode cX9_stands 58 = .ok (.iaload, 1) := by decide +kernel
theorem dX9_stands_59 : decode cX9_stands 59 = .ok (.if_icmp .gt 21, 3) := by decide +kernel
theorem dX9_stands_62 : decode cX9_stands 62 = .ok (.iload_n 2, 1) := by decide +kernel
theorem dX9_stands_63 : decode cX9_stands 63 = .ok (.iconst 2, 1) := by decide +kernel
theorem dX9_stands_64 : decode cX9_stands 64 = .ok (.if_icmp .ne 18, 3) := by decide +kernel
theorem dX9_stands_67 : decode cX9_stands 67 = .ok (.iload_n 3, 1) := by decide +kernel
theorem dX9_stands_68 : decode cX9_stands 68 = .ok (.aload_n 0, 1) := by decide +kernel
theorem dX9_stands_69 : decode cX9_stands 69 = .ok (.getfield 7, 3) := by decide +kernel
theorem dX9_stands_72 : decode cX9_stands 72 = .ok (.bipush 32, 2) := by decide +kernel
theorem dX9_stands_74 : decode cX9_stands 74 = .ok (.iload_n 1, 1) := by decide +kernel
theorem dX9_stands_75 : decode cX9_stands 75 = .ok (.iadd, 1) := by decide +kernel
theorem dX9_stands_76 : decode cX9_stands 76 = .ok (.iaload, 1) := by decide +kernel
theorem dX9_stands_77 : decode cX9_stands 77 = .ok (.if_icmp .ge 5, 3) := by decide +kernel
theorem dX9_stands_80 : decode cX9_stands 80 = .ok (.iconst (-1), 1) := by decide +kernel
theorem dX9_stands_81 : decode cX9_stands 81 = .ok (.ireturn, 1) := by decide +kernel
theorem dX9_stands_82 : decode cX9_stands 82 = .ok (.aload_n 0, 1) := by decide +kernel
theorem dX9_stands_83 : decode cX9_stands 83 = .ok (.iconst 1, 1) := by decide +kernel
theorem dX9_stands_84 : decode cX9_stands 84 = .ok (.bipush 28, 2) := by decide +kernel
theorem dX9_stands_86 : decode cX9_stands 86 = .ok (.iconst 4, 1) := by decide +kernel
theorem dX9_stands_87 : decode cX9_stands 87 = .ok (.iload_n 2, 1) := by decide +kernel
theorem dX9_stands_88 : decode cX9_stands 88 = .ok (.imul, 1) := by decide +kernel
theorem dX9_stands_89 : decode cX9_stands 89 = .ok (.iadd, 1) := by decide +kernel
theorem dX9_stands_90 : decode cX9_stands 90 = .ok (.iload_n 1, 1) := by decide +kernel
theorem dX9_stands_91 : decode cX9_stands 91 = .ok (.iadd, 1) := by decide +kernel
theorem dX9_stands_92 : decode cX9_stands 92 = .ok (.iload_n 3, 1) := by decide +kernel
theorem dX9_stands_93 : decode cX9_stands 93 = .ok (.invokevirtual 211, 3) := by decide +kernel
theorem dX9_stands_96 : decode cX9_stands 96 = .ok (.ireturn, 1) := by decide +kernel
theorem dX9_stand_0 : decode cX9_stand 0 = .ok (.aload_n 0, 1) := by decide +kernel
theorem dX9_stand_1 : decode cX9_stand 1 = .ok (.iload_n 1, 1) := by decide +kernel
theorem dX9_stand_2 : decode cX9_stand 2 = .ok (.iload_n 2, 1) := by decide +kernel
theorem dX9_stand_3 : decode cX9_stand 3 = .ok (.iload_n 3, 1) := by decide +kernel
theorem dX9_stand_4 : decode cX9_stand 4 = .ok (.invokevirtual 225, 3) := by decide +kernel
theorem dX9_stand_7 : decode cX9_stand 7 = .ok (.ireturn, 1) := by decide +kernel
theorem dX9_rain_0 : decode cX9_rain 0 = .ok (.iload_n 1, 1) := by decide +kernel
theorem dX9_rain_1 : decode cX9_rain 1 = .ok (.invokestatic 222, 3) := by decide +kernel
theorem dX9_rain_4 : decode cX9_rain 4 = .ok (.ifCond .eq 10, 3) := by decide +kernel
theorem dX9_rain_7 : decode cX9_rain 7 = .ok (.iload_n 2, 1) := by decide +kernel
theorem dX9_rain_8 : decode cX9_rain 8 = .ok (.invokestatic 222, 3) := by decide +kernel
theorem dX9_rain_11 : decode cX9_rain 11 = .ok (.ifCond .ne 5, 3) := by decide +kernel
theorem dX9_rain_14 : decode cX9_rain 14 = .ok (.iconst (-1), 1) := by decide +kernel
theorem dX9_rain_15 : decode cX9_rain 15 = .ok (.ireturn, 1) := by decide +kernel
theorem dX9_rain_16 : decode cX9_rain 16 = .ok (.aload_n 0, 1) := by decide +kernel
theorem dX9_rain_17 : decode cX9_rain 17 = .ok (.getfield 7, 3) := by decide +kernel
theorem dX9_rain_20 : decode cX9_rain 20 = .ok (.bipush 41, 2) := by decide +kernel
theorem dX9_rain_22 : decode cX9_rain 22 = .ok (.iload_n 2, 1) := by decide +kernel
theorem dX9_rain_23 : decode cX9_rain 23 = .ok (.iastore, 1) := by decide +kernel
theorem dX9_rain_24 : decode cX9_rain 24 = .ok (.aload_n 0, 1) := by decide +kernel
theorem dX9_rain_25 : decode cX9_rain 25 = .ok (.iconst 1, 1) := by decide +kernel
theorem dX9_rain_26 : decode cX9_rain 26 = .ok (.bipush 40, 2) := by decide +kernel
theorem dX9_rain_28 : decode cX9_rain 28 = .ok (.iload_n 1, 1) := by decide +kernel
theorem dX9_rain_29 : decode cX9_rain 29 = .ok (.invokevirtual 211, 3) := by decide +kernel
theorem dX9_rain_32 : decode cX9_rain 32 = .ok (.ireturn, 1) := by decide +kernel
theorem dX9_pave_0 : decode cX9_pave 0 = .ok (.iload_n 1, 1) := by decide +kernel
theorem dX9_pave_1 : decode cX9_pave 1 = .ok (.invokestatic 215, 3) := by decide +kernel
theorem dX9_pave_4 : decode cX9_pave 4 = .ok (.ifCond .eq 15, 3) := by decide +kernel
theorem dX9_pave_7 : decode cX9_pave 7 = .ok (.iload_n 2, 1) := by decide +kernel
theorem dX9_pave_8 : decode cX9_pave 8 = .ok (.invokestatic 215, 3) := by decide +kernel
theorem dX9_pave_11 : decode cX9_pave 11 = .ok (.ifCond .eq 8, 3) := by decide +kernel
theorem dX9_pave_14 : decode cX9_pave 14 = .ok (.iload_n 1, 1) := by decide +kernel
theorem dX9_pave_15 : decode cX9_pave 15 = .ok (.iload_n 2, 1) := by decide +kernel
theorem dX9_pave_16 : decode cX9_pave 16 = .ok (.if_icmp .ne 5, 3) := by decide +kernel
theorem dX9_pave_19 : decode cX9_pave 19 = .ok (.iconst (-1), 1) := by decide +kernel
theorem dX9_pave_20 : decode cX9_pave 20 = .ok (.ireturn, 1) := by decide +kernel
theorem dX9_pave_21 : decode cX9_pave 21 = .ok (.aload_n 0, 1) := by decide +kernel
theorem dX9_pave_22 : decode cX9_pave 22 = .ok (.getfield 7, 3) := by decide +kernel
theorem dX9_pave_25 : decode cX9_pave 25 = .ok (.bipush 42, 2) := by decide +kernel
theorem dX9_pave_27 : decode cX9_pave 27 = .ok (.iaload, 1) := by decide +kernel
theorem dX9_pave_28 : decode cX9_pave 28 = .ok (.istore_n 3, 1) := by decide +kernel
theorem dX9_pave_29 : decode cX9_pave 29 = .ok (.iload_n 3, 1) := by decide +kernel
theorem dX9_pave_30 : decode cX9_pave 30 = .ok (.bipush 9, 2) := by decide +kernel
theorem dX9_pave_32 : decode cX9_pave 32 = .ok (.if_icmp .ne 6, 3) := by decide +kernel
theorem dX9_pave_35 : decode cX9_pave 35 = .ok (.bipush (-3), 2) := by decide +kernel
theorem dX9_pave_37 : decode cX9_pave 37 = .ok (.ireturn, 1) := by decide +kernel
theorem dX9_pave_38 : decode cX9_pave 38 = .ok (.aload_n 0, 1) := by decide +kernel
theorem dX9_pave_39 : decode cX9_pave 39 = .ok (.getfield 7, 3) := by decide +kernel
theorem dX9_pave_42 : decode cX9_pave 42 = .ok (.bipush 43, 2) := by decide +kernel
theorem dX9_pave_44 : decode cX9_pave 44 = .ok (.iload_n 3, 1) := by decide +kernel
theorem dX9_pave_45 : decode cX9_pave 45 = .ok (.iadd, 1) := by decide +kernel
theorem dX9_pave_46 : decode cX9_pave 46 = .ok (.iload_n 1, 1) := by decide +kernel
theorem dX9_pave_47 : decode cX9_pave 47 = .ok (.iastore, 1) := by decide +kernel
theorem dX9_pave_48 : decode cX9_pave 48 = .ok (.aload_n 0, 1) := by decide +kernel
theorem dX9_pave_49 : decode cX9_pave 49 = .ok (.getfield 7, 3) := by decide +kernel
theorem dX9_pave_52 : decode cX9_pave 52 = .ok (.bipush 52, 2) := by decide +kernel
theorem dX9_pave_54 : decode cX9_pave 54 = .ok (.iload_n 3, 1) := by decide +kernel
theorem dX9_pave_55 : decode cX9_pave 55 = .ok (.iadd, 1) := by decide +kernel
theorem dX9_pave_56 : decode cX9_pave 56 = .ok (.iload_n 2, 1) := by decide +kernel
theorem dX9_pave_57 : decode cX9_pave 57 = .ok (.iastore, 1) := by decide +kernel
theorem dX9_pave_58 : decode cX9_pave 58 = .ok (.aload_n 0, 1) := by decide +kernel
theorem dX9_pave_59 : decode cX9_pave 59 = .ok (.getfield 7, 3) := by decide +kernel
theorem dX9_pave_62 : decode cX9_pave 62 = .ok (.bipush 42, 2) := by decide +kernel
theorem dX9_pave_64 : decode cX9_pave 64 = .ok (.dup2, 1) := by decide +kernel
theorem dX9_pave_65 : decode cX9_pave 65 = .ok (.iaload, 1) := by decide +kernel
theorem dX9_pave_66 : decode cX9_pave 66 = .ok (.iconst 1, 1) := by decide +kernel
theorem dX9_pave_67 : decode cX9_pave 67 = .ok (.iadd, 1) := by decide +kernel
theorem dX9_pave_68 : decode cX9_pave 68 = .ok (.iastore, 1) := by decide +kernel
theorem dX9_pave_69 : decode cX9_pave 69 = .ok (.aload_n 0, 1) := by decide +kernel
theorem dX9_pave_70 : decode cX9_pave 70 = .ok (.getfield 7, 3) := by decide +kernel
theorem dX9_pave_73 : decode cX9_pave 73 = .ok (.bipush 42, 2) := by decide +kernel
theorem dX9_pave_75 : decode cX9_pave 75 = .ok (.iaload, 1) := by decide +kernel
theorem dX9_pave_76 : decode cX9_pave 76 = .ok (.ireturn, 1) := by decide +kernel
theorem dX9_at_0 : decode cX9_at 0 = .ok (.aload_n 0, 1) := by decide +kernel
theorem dX9_at_1 : decode cX9_at 1 = .ok (.iload_n 1, 1) := by decide +kernel
theorem dX9_at_2 : decode cX9_at 2 = .ok (.invokevirtual 198, 3) := by decide +kernel
theorem dX9_at_5 : decode cX9_at 5 = .ok (.ifCond .eq 21, 3) := by decide +kernel
theorem dX9_at_8 : decode cX9_at 8 = .ok (.iload_n 2, 1) := by decide +kernel
theorem dX9_at_9 : decode cX9_at 9 = .ok (.invokestatic 222, 3) := by decide +kernel
theorem dX9_at_12 : decode cX9_at 12 = .ok (.ifCond .eq 14, 3) := by decide +kernel
theorem dX9_at_15 : decode cX9_at 15 = .ok (.aload_n 0, 1) := by decide +kernel
theorem dX9_at_16 : decode cX9_at 16 = .ok (.iconst 0, 1) := by decide +kernel
theorem dX9_at_17 : decode cX9_at 17 = .ok (.iload_n 1, 1) := by decide +kernel
theorem dX9_at_18 : decode cX9_at 18 = .ok (.iload_n 2, 1) := by decide +kernel
theorem dX9_at_19 : decode cX9_at 19 = .ok (.iconst 0, 1) := by decide +kernel
theorem dX9_at_20 : decode cX9_at 20 = .ok (.invokevirtual 178, 3) := by decide +kernel
theorem dX9_at_23 : decode cX9_at 23 = .ok (.goto 4, 3) := by decide +kernel
theorem dX9_at_26 : decode cX9_at 26 = .ok (.iconst (-1), 1) := by decide +kernel
theorem dX9_at_27 : decode cX9_at 27 = .ok (.ireturn, 1) := by decide +kernel
theorem dX9_reads_0 : decode cX9_reads 0 = .ok (.aload_n 0, 1) := by decide +kernel
theorem dX9_reads_1 : decode cX9_reads 1 = .ok (.iload_n 1, 1) := by decide +kernel
theorem dX9_reads_2 : decode cX9_reads 2 = .ok (.invokevirtual 204, 3) := by decide +kernel
theorem dX9_reads_5 : decode cX9_reads 5 = .ok (.ifCond .eq 20, 3) := by decide +kernel
theorem dX9_reads_8 : decode cX9_reads 8 = .ok (.iload_n 2, 1) := by decide +kernel
theorem dX9_reads_9 : decode cX9_reads 9 = .ok (.invokestatic 222, 3) := by decide +kernel
theorem dX9_reads_12 : decode cX9_reads 12 = .ok (.ifCond .eq 13, 3) := by decide +kernel
theorem dX9_reads_15 : decode cX9_reads 15 = .ok (.iload_n 3, 1) := by decide +kernel
theorem dX9_reads_16 : decode cX9_reads 16 = .ok (.i2l, 1) := by decide +kernel
theorem dX9_reads_17 : decode cX9_reads 17 = .ok (.lconst 0, 1) := by decide +kernel
theorem dX9_reads_18 : decode cX9_reads 18 = .ok (.lconst 1, 1) := by decide +kernel
theorem dX9_reads_19 : decode cX9_reads 19 = .ok (.invokestatic 55, 3) := by decide +kernel
theorem dX9_reads_22 : decode cX9_reads 22 = .ok (.ifCond .ne 5, 3) := by decide +kernel
theorem dX9_reads_25 : decode cX9_reads 25 = .ok (.iconst (-1), 1) := by decide +kernel
theorem dX9_reads_26 : decode cX9_reads 26 = .ok (.ireturn, 1) := by decide +kernel
theorem dX9_reads_27 : decode cX9_reads 27 = .ok (.iconst 0, 1) := by decide +kernel
theorem dX9_reads_28 : decode cX9_reads 28 = .ok (.istore 4, 2) := by decide +kernel
theorem dX9_reads_30 : decode cX9_reads 30 = .ok (.iconst 0, 1) := by decide +kernel
theorem dX9_reads_31 : decode cX9_reads 31 = .ok (.istore 5, 2) := by decide +kernel
theorem dX9_reads_33 : decode cX9_reads 33 = .ok (.iload 5, 2) := by decide +kernel
theorem dX9_reads_35 : decode cX9_reads 35 = .ok (.aload_n 0, 1) := by decide +kernel
theorem dX9_reads_36 : decode cX9_reads 36 = .ok (.getfield 150, 3) := by decide +kernel
theorem dX9_reads_39 : decode cX9_reads 39 = .ok (.if_icmp .ge 44, 3) := by decide +kernel
theorem dX9_reads_42 : decode cX9_reads 42 = .ok (.iload 4, 2) := by decide +kernel
theorem dX9_reads_44 : decode cX9_reads 44 = .ok (.aload_n 0, 1) := by decide +kernel
theorem dX9_reads_45 : decode cX9_reads 45 = .ok (.iconst 0, 1) := by decide +kernel
theorem dX9_reads_46 : decode cX9_reads 46 = .ok (.iload_n 1, 1) := by decide +kernel
theorem dX9_reads_47 : decode cX9_reads 47 = .ok (.iload 5, 2) := by decide +kernel
theorem dX9_reads_49 : decode cX9_reads 49 = .ok (.iload_n 2, 1) := by decide +kernel
theorem dX9_reads_50 : decode cX9_reads 50 = .ok (.iload_n 3, 1) := by decide +kernel
theorem dX9_reads_51 : decode cX9_reads 51 = .ok (.iconst 1, 1) := by decide +kernel
theorem dX9_reads_52 : decode cX9_reads 52 = .ok (.if_icmp .ne 7, 3) := by decide +kernel
theorem dX9_reads_55 : decode cX9_reads 55 = .ok (.iconst 1, 1) := by decide +kernel
theorem dX9_reads_56 : decode cX9_reads 56 = .ok (.goto 4, 3) := by decide +kernel
theorem dX9_reads_59 : decode cX9_reads 59 = .ok (.iconst 0, 1) := by decide +kernel
theorem dX9_reads_60 : decode cX9_reads 60 = .ok (.invokevirtual 182, 3) := by decide +kernel
theorem dX9_reads_63 : decode cX9_reads 63 = .ok (.ifCond .eq 10, 3) := by decide +kernel
theorem dX9_reads_66 : decode cX9_reads 66 = .ok (.iconst 1, 1) := by decide +kernel
theorem dX9_reads_67 : decode cX9_reads 67 = .ok (.iload 5, 2) := by decide +kernel
theorem dX9_reads_69 : decode cX9_reads 69 = .ok (.ishl, 1) := by decide +kernel
theorem dX9_reads_70 : decode cX9_reads 70 = .ok (.goto 4, 3) := by decide +kernel
theorem dX9_reads_73 : decode cX9_reads 73 = .ok (.iconst 0, 1) := by decide +kernel
theorem dX9_reads_74 : decode cX9_reads 74 = .ok (.ior, 1) := by decide +kernel
theorem dX9_reads_75 : decode cX9_reads 75 = .ok (.istore 4, 2) := by decide +kernel
theorem dX9_reads_77 : decode cX9_reads 77 = .ok (.iinc 5 1, 3) := by decide +kernel
theorem dX9_reads_80 : decode cX9_reads 80 = .ok (.goto (-47), 3) := by decide +kernel
theorem dX9_reads_83 : decode cX9_reads 83 = .ok (.iload 4, 2) := by decide +kernel
theorem dX9_reads_85 : decode cX9_reads 85 = .ok (.ireturn, 1) := by decide +kernel
theorem dX9_knows_0 : decode cX9_knows 0 = .ok (.aload_n 0, 1) := by decide +kernel
theorem dX9_knows_1 : decode cX9_knows 1 = .ok (.iload_n 1, 1) := by decide +kernel
theorem dX9_knows_2 : decode cX9_knows 2 = .ok (.invokevirtual 204, 3) := by decide +kernel
theorem dX9_knows_5 : decode cX9_knows 5 = .ok (.ifCond .eq 22, 3) := by decide +kernel
theorem dX9_knows_8 : decode cX9_knows 8 = .ok (.iload_n 2, 1) := by decide +kernel
theorem dX9_knows_9 : decode cX9_knows 9 = .ok (.invokestatic 222, 3) := by decide +kernel
theorem dX9_knows_12 : decode cX9_knows 12 = .ok (.ifCond .eq 15, 3) := by decide +kernel
theorem dX9_knows_15 : decode cX9_knows 15 = .ok (.iload_n 3, 1) := by decide +kernel
theorem dX9_knows_16 : decode cX9_knows 16 = .ok (.i2l, 1) := by decide +kernel
theorem dX9_knows_17 : decode cX9_knows 17 = .ok (.lconst 0, 1) := by decide +kernel
theorem dX9_knows_18 : decode cX9_knows 18 = .ok (.ldc2_w 207, 3) := by decide +kernel
theorem dX9_knows_21 : decode cX9_knows 21 = .ok (.invokestatic 55, 3) := by decide +kernel
theorem dX9_knows_24 : decode cX9_knows 24 = .ok (.ifCond .ne 5, 3) := by decide +kernel
theorem dX9_knows_27 : decode cX9_knows 27 = .ok (.iconst (-1), 1) := by decide +kernel
theorem dX9_knows_28 : decode cX9_knows 28 = .ok (.ireturn, 1) := by decide +kernel
theorem dX9_knows_29 : decode cX9_knows 29 = .ok (.aload_n 0, 1) := by decide +kernel
theorem dX9_knows_30 : decode cX9_knows 30 = .ok (.iconst 0, 1) := by decide +kernel
theorem dX9_knows_31 : decode cX9_knows 31 = .ok (.invokevirtual 189, 3) := by decide +kernel
theorem dX9_knows_34 : decode cX9_knows 34 = .ok (.iconst 0, 1) := by decide +kernel
theorem dX9_knows_35 : decode cX9_knows 35 = .ok (.istore 4, 2) := by decide +kernel
theorem dX9_knows_37 : decode cX9_knows 37 = .ok (.iconst 0, 1) := by decide +kernel
theorem dX9_knows_38 : decode cX9_knows 38 = .ok (.istore 5, 2) := by decide +kernel
theorem dX9_knows_40 : decode cX9_knows 40 = .ok (.iload 5, 2) := by decide +kernel
theorem dX9_knows_42 : decode cX9_knows 42 = .ok (.bipush 10, 2) := by decide +kernel
theorem dX9_knows_44 : decode cX9_knows 44 = .ok (.if_icmp .ge 76, 3) := by decide +kernel
theorem dX9_knows_47 : decode cX9_knows 47 = .ok (.iload_n 3, 1) := by decide +kernel
theorem dX9_knows_48 : decode cX9_knows 48 = .ok (.ifCond .ne 18, 3) := by decide +kernel
theorem dX9_knows_51 : decode cX9_knows 51 = .ok (.aload_n 0, 1) := by decide +kernel
theorem dX9_knows_52 : decode cX9_knows 52 = .ok (.getfield 25, 3) := by decide +kernel
theorem dX9_knows_55 : decode cX9_knows 55 = .ok (.bipush 10, 2) := by decide +kernel
theorem dX9_knows_57 : decode cX9_knows 57 = .ok (.iload_n 1, 1) := by decide +kernel
theorem dX9_knows_58 : decode cX9_knows 58 = .ok (.imul, 1) := by decide +kernel
theorem dX9_knows_59 : decode cX9_knows 59 = .ok (.iload 5, 2) := by decide +kernel
theorem dX9_knows_61 : decode cX9_knows 61 = .ok (.iadd, 1) := by decide +kernel
theorem dX9_knows_62 : decode cX9_knows 62 = .ok (.iaload, 1) := by decide +kernel
theorem dX9_knows_63 : decode cX9_knows 63 = .ok (.goto 30, 3) := by decide +kernel
theorem dX9_knows_66 : decode cX9_knows 66 = .ok (.iload_n 3, 1) := by decide +kernel
theorem dX9_knows_67 : decode cX9_knows 67 = .ok (.iconst 1, 1) := by decide +kernel
theorem dX9_knows_68 : decode cX9_knows 68 = .ok (.if_icmp .ne 18, 3) := by decide +kernel
theorem dX9_knows_71 : decode cX9_knows 71 = .ok (.aload_n 0, 1) := by decide +kernel
theorem dX9_knows_72 : decode cX9_knows 72 = .ok (.getfield 28, 3) := by decide +kernel
theorem dX9_knows_75 : decode cX9_knows 75 = .ok (.bipush 10, 2) := by decide +kernel
theorem dX9_knows_77 : decode cX9_knows 77 = .ok (.iload_n 1, 1) := by decide +kernel
theorem dX9_knows_78 : decode cX9_knows 78 = .ok (.imul, 1) := by decide +kernel
theorem dX9_knows_79 : decode cX9_knows 79 = .ok (.iload 5, 2) := by decide +kernel
theorem dX9_knows_81 : decode cX9_knows 81 = .ok (.iadd, 1) := by decide +kernel
theorem dX9_knows_82 : decode cX9_knows 82 = .ok (.iaload, 1) := by decide +kernel
theorem dX9_knows_83 : decode cX9_knows 83 = .ok (.goto 10, 3) := by decide +kernel
theorem dX9_knows_86 : decode cX9_knows 86 = .ok (.aload_n 0, 1) := by decide +kernel
theorem dX9_knows_87 : decode cX9_knows 87 = .ok (.iload_n 1, 1) := by decide +kernel
theorem dX9_knows_88 : decode cX9_knows 88 = .ok (.iload 5, 2) := by decide +kernel
theorem dX9_knows_90 : decode cX9_knows 90 = .ok (.invokevirtual 186, 3) := by decide +kernel
theorem dX9_knows_93 : decode cX9_knows 93 = .ok (.istore 6, 2) := by decide +kernel
theorem dX9_knows_95 : decode cX9_knows 95 = .ok (.iload 4, 2) := by decide +kernel
theorem dX9_knows_97 : decode cX9_knows 97 = .ok (.iload 6, 2) := by decide +kernel
theorem dX9_knows_99 : decode cX9_knows 99 = .ok (.iload_n 2, 1) := by decide +kernel
theorem dX9_knows_100 : decode cX9_knows 100 = .ok (.if_icmp .gt 10, 3) := by decide +kernel
theorem dX9_knows_103 : decode cX9_knows 103 = .ok (.iconst 1, 1) := by decide +kernel
theorem dX9_knows_104 : decode cX9_knows 104 = .ok (.iload 5, 2) := by decide +kernel
theorem dX9_knows_106 : decode cX9_knows 106 = .ok (.ishl, 1) := by decide +kernel
theorem dX9_knows_107 : decode cX9_knows 107 = .ok (.goto 4, 3) := by decide +kernel
theorem dX9_knows_110 : decode cX9_knows 110 = .ok (.iconst 0, 1) := by decide +kernel
theorem dX9_knows_111 : decode cX9_knows 111 = .ok (.ior, 1) := by decide +kernel
theorem dX9_knows_112 : decode cX9_knows 112 = .ok (.istore 4, 2) := by decide +kernel
theorem dX9_knows_114 : decode cX9_knows 114 = .ok (.iinc 5 1, 3) := by decide +kernel
theorem dX9_knows_117 : decode cX9_knows 117 = .ok (.goto (-77), 3) := by decide +kernel
theorem dX9_knows_120 : decode cX9_knows 120 = .ok (.iload 4, 2) := by decide +kernel
theorem dX9_knows_122 : decode cX9_knows 122 = .ok (.ireturn, 1) := by decide +kernel
theorem dX9_first_0 : decode cX9_first 0 = .ok (.aload_n 0, 1) := by decide +kernel
theorem dX9_first_1 : decode cX9_first 1 = .ok (.iload_n 1, 1) := by decide +kernel
theorem dX9_first_2 : decode cX9_first 2 = .ok (.invokevirtual 204, 3) := by decide +kernel
theorem dX9_first_5 : decode cX9_first 5 = .ok (.ifCond .eq 10, 3) := by decide +kernel
theorem dX9_first_8 : decode cX9_first 8 = .ok (.iload_n 2, 1) := by decide +kernel
theorem dX9_first_9 : decode cX9_first 9 = .ok (.invokestatic 229, 3) := by decide +kernel
theorem dX9_first_12 : decode cX9_first 12 = .ok (.ifCond .ne 5, 3) := by decide +kernel
theorem dX9_first_15 : decode cX9_first 15 = .ok (.iconst (-1), 1) := by decide +kernel
theorem dX9_first_16 : decode cX9_first 16 = .ok (.ireturn, 1) := by decide +kernel
theorem dX9_first_17 : decode cX9_first 17 = .ok (.aload_n 0, 1) := by decide +kernel
theorem dX9_first_18 : decode cX9_first 18 = .ok (.iconst 0, 1) := by decide +kernel
theorem dX9_first_19 : decode cX9_first 19 = .ok (.invokevirtual 189, 3) := by decide +kernel
theorem dX9_first_22 : decode cX9_first 22 = .ok (.aload_n 0, 1) := by decide +kernel
theorem dX9_first_23 : decode cX9_first 23 = .ok (.iload_n 1, 1) := by decide +kernel
theorem dX9_first_24 : decode cX9_first 24 = .ok (.iload_n 2, 1) := by decide +kernel
theorem dX9_first_25 : decode cX9_first 25 = .ok (.invokevirtual 186, 3) := by decide +kernel
theorem dX9_first_28 : decode cX9_first 28 = .ok (.sipush 1000, 3) := by decide +kernel
theorem dX9_first_31 : decode cX9_first 31 = .ok (.if_icmp .ge 12, 3) := by decide +kernel
theorem dX9_first_34 : decode cX9_first 34 = .ok (.aload_n 0, 1) := by decide +kernel
theorem dX9_first_35 : decode cX9_first 35 = .ok (.iload_n 1, 1) := by decide +kernel
theorem dX9_first_36 : decode cX9_first 36 = .ok (.iload_n 2, 1) := by decide +kernel
theorem dX9_first_37 : decode cX9_first 37 = .ok (.invokevirtual 186, 3) := by decide +kernel
theorem dX9_first_40 : decode cX9_first 40 = .ok (.goto 5, 3) := by decide +kernel
theorem dX9_first_43 : decode cX9_first 43 = .ok (.bipush (-4), 2) := by decide +kernel
theorem dX9_first_45 : decode cX9_first 45 = .ok (.ireturn, 1) := by decide +kernel
theorem dX9_all_0 : decode cX9_all 0 = .ok (.iload_n 1, 1) := by decide +kernel
theorem dX9_all_1 : decode cX9_all 1 = .ok (.invokestatic 229, 3) := by decide +kernel
theorem dX9_all_4 : decode cX9_all 4 = .ok (.ifCond .ne 5, 3) := by decide +kernel
theorem dX9_all_7 : decode cX9_all 7 = .ok (.iconst (-1), 1) := by decide +kernel
theorem dX9_all_8 : decode cX9_all 8 = .ok (.ireturn, 1) := by decide +kernel
theorem dX9_all_9 : decode cX9_all 9 = .ok (.aload_n 0, 1) := by decide +kernel
theorem dX9_all_10 : decode cX9_all 10 = .ok (.iconst 0, 1) := by decide +kernel
theorem dX9_all_11 : decode cX9_all 11 = .ok (.invokevirtual 189, 3) := by decide +kernel
theorem dX9_all_14 : decode cX9_all 14 = .ok (.iconst 0, 1) := by decide +kernel
theorem dX9_all_15 : decode cX9_all 15 = .ok (.istore_n 2, 1) := by decide +kernel
theorem dX9_all_16 : decode cX9_all 16 = .ok (.iconst 0, 1) := by decide +kernel
theorem dX9_all_17 : decode cX9_all 17 = .ok (.istore_n 3, 1) := by decide +kernel
theorem dX9_all_18 : decode cX9_all 18 = .ok (.iload_n 3, 1) := by decide +kernel
theorem dX9_all_19 : decode cX9_all 19 = .ok (.aload_n 0, 1) := by decide +kernel
theorem dX9_all_20 : decode cX9_all 20 = .ok (.getfield 153, 3) := by decide +kernel
theorem dX9_all_23 : decode cX9_all 23 = .ok (.if_icmp .ge 31, 3) := by decide +kernel
theorem dX9_all_26 : decode cX9_all 26 = .ok (.iload_n 2, 1) := by decide +kernel
theorem dX9_all_27 : decode cX9_all 27 = .ok (.aload_n 0, 1) := by decide +kernel
theorem dX9_all_28 : decode cX9_all 28 = .ok (.iload_n 3, 1) := by decide +kernel
theorem dX9_all_29 : decode cX9_all 29 = .ok (.iload_n 1, 1) := by decide +kernel
theorem dX9_all_30 : decode cX9_all 30 = .ok (.invokevirtual 186, 3) := by decide +kernel
theorem dX9_all_33 : decode cX9_all 33 = .ok (.sipush 1000, 3) := by decide +kernel
theorem dX9_all_36 : decode cX9_all 36 = .ok (.if_icmp .ge 9, 3) := by decide +kernel
theorem dX9_all_39 : decode cX9_all 39 = .ok (.iconst 1, 1) := by decide +kernel
theorem dX9_all_40 : decode cX9_all 40 = .ok (.iload_n 3, 1) := by decide +kernel
theorem dX9_all_41 : decode cX9_all 41 = .ok (.ishl, 1) := by decide +kernel
theorem dX9_all_42 : decode cX9_all 42 = .ok (.goto 4, 3) := by decide +kernel
theorem dX9_all_45 : decode cX9_all 45 = .ok (.iconst 0, 1) := by decide +kernel
theorem dX9_all_46 : decode cX9_all 46 = .ok (.ior, 1) := by decide +kernel
theorem dX9_all_47 : decode cX9_all 47 = .ok (.istore_n 2, 1) := by decide +kernel
theorem dX9_all_48 : decode cX9_all 48 = .ok (.iinc 3 1, 3) := by decide +kernel
theorem dX9_all_51 : decode cX9_all 51 = .ok (.goto (-33), 3) := by decide +kernel
theorem dX9_all_54 : decode cX9_all 54 = .ok (.iload_n 2, 1) := by decide +kernel
theorem dX9_all_55 : decode cX9_all 55 = .ok (.ireturn, 1) := by decide +kernel
theorem dX9_meet_0 : decode cX9_meet 0 = .ok (.aload_n 0, 1) := by decide +kernel
theorem dX9_meet_1 : decode cX9_meet 1 = .ok (.iload_n 1, 1) := by decide +kernel
theorem dX9_meet_2 : decode cX9_meet 2 = .ok (.invokevirtual 198, 3) := by decide +kernel
theorem dX9_meet_5 : decode cX9_meet 5 = .ok (.ifCond .eq 16, 3) := by decide +kernel
theorem dX9_meet_8 : decode cX9_meet 8 = .ok (.aload_n 0, 1) := by decide +kernel
theorem dX9_meet_9 : decode cX9_meet 9 = .ok (.iload_n 2, 1) := by decide +kernel
theorem dX9_meet_10 : decode cX9_meet 10 = .ok (.invokevirtual 198, 3) := by decide +kernel
theorem dX9_meet_13 : decode cX9_meet 13 = .ok (.ifCond .eq 8, 3) := by decide +kernel
theorem dX9_meet_16 : decode cX9_meet 16 = .ok (.iload_n 1, 1) := by decide +kernel
theorem dX9_meet_17 : decode cX9_meet 17 = .ok (.iload_n 2, 1) := by decide +kernel
theorem dX9_meet_18 : decode cX9_meet 18 = .ok (.if_icmp .ne 5, 3) := by decide +kernel
theorem dX9_meet_21 : decode cX9_meet 21 = .ok (.iconst (-1), 1) := by decide +kernel
theorem dX9_meet_22 : decode cX9_meet 22 = .ok (.ireturn, 1) := by decide +kernel
theorem dX9_meet_23 : decode cX9_meet 23 = .ok (.iconst 0, 1) := by decide +kernel
theorem dX9_meet_24 : decode cX9_meet 24 = .ok (.istore_n 3, 1) := by decide +kernel
theorem dX9_meet_25 : decode cX9_meet 25 = .ok (.iload_n 3, 1) := by decide +kernel
theorem dX9_meet_26 : decode cX9_meet 26 = .ok (.bipush 60, 2) := by decide +kernel
theorem dX9_meet_28 : decode cX9_meet 28 = .ok (.if_icmp .ge 41, 3) := by decide +kernel
theorem dX9_meet_31 : decode cX9_meet 31 = .ok (.aload_n 0, 1) := by decide +kernel
theorem dX9_meet_32 : decode cX9_meet 32 = .ok (.iconst 0, 1) := by decide +kernel
theorem dX9_meet_33 : decode cX9_meet 33 = .ok (.iload_n 1, 1) := by decide +kernel
theorem dX9_meet_34 : decode cX9_meet 34 = .ok (.iload_n 3, 1) := by decide +kernel
theorem dX9_meet_35 : decode cX9_meet 35 = .ok (.iconst 0, 1) := by decide +kernel
theorem dX9_meet_36 : decode cX9_meet 36 = .ok (.invokevirtual 178, 3) := by decide +kernel
theorem dX9_meet_39 : decode cX9_meet 39 = .ok (.istore 4, 2) := by decide +kernel
theorem dX9_meet_41 : decode cX9_meet 41 = .ok (.iload 4, 2) := by decide +kernel
theorem dX9_meet_43 : decode cX9_meet 43 = .ok (.bipush (-4), 2) := by decide +kernel
theorem dX9_meet_45 : decode cX9_meet 45 = .ok (.if_icmp .eq 18, 3) := by decide +kernel
theorem dX9_meet_48 : decode cX9_meet 48 = .ok (.iload 4, 2) := by decide +kernel
theorem dX9_meet_50 : decode cX9_meet 50 = .ok (.aload_n 0, 1) := by decide +kernel
theorem dX9_meet_51 : decode cX9_meet 51 = .ok (.iconst 0, 1) := by decide +kernel
theorem dX9_meet_52 : decode cX9_meet 52 = .ok (.iload_n 2, 1) := by decide +kernel
theorem dX9_meet_53 : decode cX9_meet 53 = .ok (.iload_n 3, 1) := by decide +kernel
theorem dX9_meet_54 : decode cX9_meet 54 = .ok (.iconst 0, 1) := by decide +kernel
theorem dX9_meet_55 : decode cX9_meet 55 = .ok (.invokevirtual 178, 3) := by decide +kernel
theorem dX9_meet_58 : decode cX9_meet 58 = .ok (.if_icmp .ne 5, 3) := by decide +kernel
theorem dX9_meet_61 : decode cX9_meet 61 = .ok (.iload_n 3, 1) := by decide +kernel
theorem dX9_meet_62 : decode cX9_meet 62 = .ok (.ireturn, 1) := by decide +kernel
theorem dX9_meet_63 : decode cX9_meet 63 = .ok (.iinc 3 1, 3) := by decide +kernel
theorem dX9_meet_66 : decode cX9_meet 66 = .ok (.goto (-41), 3) := by decide +kernel
theorem dX9_meet_69 : decode cX9_meet 69 = .ok (.bipush (-4), 2) := by decide +kernel
theorem dX9_meet_71 : decode cX9_meet 71 = .ok (.ireturn, 1) := by decide +kernel
theorem dX9_copies_0 : decode cX9_copies 0 = .ok (.iconst 0, 1) := by decide +kernel
theorem dX9_copies_1 : decode cX9_copies 1 = .ok (.istore_n 3, 1) := by decide +kernel
theorem dX9_copies_2 : decode cX9_copies 2 = .ok (.iload_n 3, 1) := by decide +kernel
theorem dX9_copies_3 : decode cX9_copies 3 = .ok (.bipush 61, 2) := by decide +kernel
theorem dX9_copies_5 : decode cX9_copies 5 = .ok (.if_icmp .ge 25, 3) := by decide +kernel
theorem dX9_copies_8 : decode cX9_copies 8 = .ok (.aload_n 0, 1) := by decide +kernel
theorem dX9_copies_9 : decode cX9_copies 9 = .ok (.getfield 7, 3) := by decide +kernel
theorem dX9_copies_12 : decode cX9_copies 12 = .ok (.iload_n 2, 1) := by decide +kernel
theorem dX9_copies_13 : decode cX9_copies 13 = .ok (.iload_n 3, 1) := by decide +kernel
theorem dX9_copies_14 : decode cX9_copies 14 = .ok (.iadd, 1) := by decide +kernel
theorem dX9_copies_15 : decode cX9_copies 15 = .ok (.aload_n 0, 1) := by decide +kernel
theorem dX9_copies_16 : decode cX9_copies 16 = .ok (.getfield 7, 3) := by decide +kernel
theorem dX9_copies_19 : decode cX9_copies 19 = .ok (.iload_n 1, 1) := by decide +kernel
theorem dX9_copies_20 : decode cX9_copies 20 = .ok (.iload_n 3, 1) := by decide +kernel
theorem dX9_copies_21 : decode cX9_copies 21 = .ok (.iadd, 1) := by decide +kernel
theorem dX9_copies_22 : decode cX9_copies 22 = .ok (.iaload, 1) := by decide +kernel
theorem dX9_copies_23 : decode cX9_copies 23 = .ok (.iastore, 1) := by decide +kernel
theorem dX9_copies_24 : decode cX9_copies 24 = .ok (.iinc 3 1, 3) := by decide +kernel
theorem dX9_copies_27 : decode cX9_copies 27 = .ok (.goto (-25), 3) := by decide +kernel
theorem dX9_copies_30 : decode cX9_copies 30 = .ok (.return_, 1) := by decide +kernel
theorem dX9_isMore_0 : decode cX9_isMore 0 = .ok (.iload_n 1, 1) := by decide +kernel
theorem dX9_isMore_1 : decode cX9_isMore 1 = .ok (.aload_n 0, 1) := by decide +kernel
theorem dX9_isMore_2 : decode cX9_isMore 2 = .ok (.getfield 232, 3) := by decide +kernel
theorem dX9_isMore_5 : decode cX9_isMore 5 = .ok (.if_icmp .le 7, 3) := by decide +kernel
theorem dX9_isMore_8 : decode cX9_isMore 8 = .ok (.iconst 1, 1) := by decide +kernel
theorem dX9_isMore_9 : decode cX9_isMore 9 = .ok (.goto 4, 3) := by decide +kernel
theorem dX9_isMore_12 : decode cX9_isMore 12 = .ok (.iconst 0, 1) := by decide +kernel
theorem dX9_isMore_13 : decode cX9_isMore 13 = .ok (.istore_n 2, 1) := by decide +kernel
theorem dX9_isMore_14 : decode cX9_isMore 14 = .ok (.aload_n 0, 1) := by decide +kernel
theorem dX9_isMore_15 : decode cX9_isMore 15 = .ok (.iload_n 2, 1) := by decide +kernel
theorem dX9_isMore_16 : decode cX9_isMore 16 = .ok (.ifCond .eq 7, 3) := by decide +kernel
theorem dX9_isMore_19 : decode cX9_isMore 19 = .ok (.iload_n 1, 1) := by decide +kernel
theorem dX9_isMore_20 : decode cX9_isMore 20 = .ok (.goto 7, 3) := by decide +kernel
theorem dX9_isMore_23 : decode cX9_isMore 23 = .ok (.aload_n 0, 1) := by decide +kernel
theorem dX9_isMore_24 : decode cX9_isMore 24 = .ok (.getfield 232, 3) := by decide +kernel
theorem dX9_isMore_27 : decode cX9_isMore 27 = .ok (.putfield 232, 3) := by decide +kernel
theorem dX9_isMore_30 : decode cX9_isMore 30 = .ok (.iload_n 2, 1) := by decide +kernel
theorem dX9_isMore_31 : decode cX9_isMore 31 = .ok (.ireturn, 1) := by decide +kernel
theorem dX9_best_0 : decode cX9_best 0 = .ok (.aload_n 0, 1) := by decide +kernel
theorem dX9_best_1 : decode cX9_best 1 = .ok (.iload_n 1, 1) := by decide +kernel
theorem dX9_best_2 : decode cX9_best 2 = .ok (.invokevirtual 204, 3) := by decide +kernel
theorem dX9_best_5 : decode cX9_best 5 = .ok (.ifCond .eq 13, 3) := by decide +kernel
theorem dX9_best_8 : decode cX9_best 8 = .ok (.iload_n 2, 1) := by decide +kernel
theorem dX9_best_9 : decode cX9_best 9 = .ok (.i2l, 1) := by decide +kernel
theorem dX9_best_10 : decode cX9_best 10 = .ok (.lconst 0, 1) := by decide +kernel
theorem dX9_best_11 : decode cX9_best 11 = .ok (.lconst 1, 1) := by decide +kernel
theorem dX9_best_12 : decode cX9_best 12 = .ok (.invokestatic 55, 3) := by decide +kernel
theorem dX9_best_15 : decode cX9_best 15 = .ok (.ifCond .ne 5, 3) := by decide +kernel
theorem dX9_best_18 : decode cX9_best 18 = .ok (.iconst (-1), 1) := by decide +kernel
theorem dX9_best_19 : decode cX9_best 19 = .ok (.ireturn, 1) := by decide +kernel
theorem dX9_best_20 : decode cX9_best 20 = .ok (.aload_n 0, 1) := by decide +kernel
theorem dX9_best_21 : decode cX9_best 21 = .ok (.iconst (-1), 1) := by decide +kernel
theorem dX9_best_22 : decode cX9_best 22 = .ok (.putfield 232, 3) := by decide +kernel
theorem dX9_best_25 : decode cX9_best 25 = .ok (.iconst 0, 1) := by decide +kernel
theorem dX9_best_26 : decode cX9_best 26 = .ok (.istore_n 3, 1) := by decide +kernel
theorem dX9_best_27 : decode cX9_best 27 = .ok (.aload_n 0, 1) := by decide +kernel
theorem dX9_best_28 : decode cX9_best 28 = .ok (.iconst 0, 1) := by decide +kernel
theorem dX9_best_29 : decode cX9_best 29 = .ok (.sipush 244, 3) := by decide +kernel
theorem dX9_best_32 : decode cX9_best 32 = .ok (.invokevirtual 235, 3) := by decide +kernel
theorem dX9_best_35 : decode cX9_best 35 = .ok (.iconst 0, 1) := by decide +kernel
theorem dX9_best_36 : decode cX9_best 36 = .ok (.istore 4, 2) := by decide +kernel
theorem dX9_best_38 : decode cX9_best 38 = .ok (.iload 4, 2) := by decide +kernel
theorem dX9_best_40 : decode cX9_best 40 = .ok (.bipush 8, 2) := by decide +kernel
theorem dX9_best_42 : decode cX9_best 42 = .ok (.if_icmp .ge 47, 3) := by decide +kernel
theorem dX9_best_45 : decode cX9_best 45 = .ok (.aload_n 0, 1) := by decide +kernel
theorem dX9_best_46 : decode cX9_best 46 = .ok (.getfield 7, 3) := by decide +kernel
theorem dX9_best_49 : decode cX9_best 49 = .ok (.sipush 272, 3) := by decide +kernel
theorem dX9_best_52 : decode cX9_best 52 = .ok (.iload_n 1, 1) := by decide +kernel
theorem dX9_best_53 : decode cX9_best 53 = .ok (.iadd, 1) := by decide +kernel
theorem dX9_best_54 : decode cX9_best 54 = .ok (.iload 4, 2) := by decide +kernel
theorem dX9_best_56 : decode cX9_best 56 = .ok (.iastore, 1) := by decide +kernel
theorem dX9_best_57 : decode cX9_best 57 = .ok (.aload_n 0, 1) := by decide +kernel
theorem dX9_best_58 : decode cX9_best 58 = .ok (.sipush 244, 3) := by decide +kernel
theorem dX9_best_61 : decode cX9_best 61 = .ok (.invokevirtual 189, 3) := by decide +kernel
theorem dX9_best_64 : decode cX9_best 64 = .ok (.aload_n 0, 1) := by decide +kernel
theorem dX9_best_65 : decode cX9_best 65 = .ok (.aload_n 0, 1) := by decide +kernel
theorem dX9_best_66 : decode cX9_best 66 = .ok (.iload_n 1, 1) := by decide +kernel
theorem dX9_best_67 : decode cX9_best 67 = .ok (.invokevirtual 192, 3) := by decide +kernel
theorem dX9_best_70 : decode cX9_best 70 = .ok (.invokevirtual 239, 3) := by decide +kernel
theorem dX9_best_73 : decode cX9_best 73 = .ok (.ifCond .eq 8, 3) := by decide +kernel
theorem dX9_best_76 : decode cX9_best 76 = .ok (.iload 4, 2) := by decide +kernel
theorem dX9_best_78 : decode cX9_best 78 = .ok (.goto 4, 3) := by decide +kernel
theorem dX9_best_81 : decode cX9_best 81 = .ok (.iload_n 3, 1) := by decide +kernel
theorem dX9_best_82 : decode cX9_best 82 = .ok (.istore_n 3, 1) := by decide +kernel
theorem dX9_best_83 : decode cX9_best 83 = .ok (.iinc 4 1, 3) := by decide +kernel
theorem dX9_best_86 : decode cX9_best 86 = .ok (.goto (-48), 3) := by decide +kernel
theorem dX9_best_89 : decode cX9_best 89 = .ok (.iload_n 2, 1) := by decide +kernel
theorem dX9_best_90 : decode cX9_best 90 = .ok (.ifCond .ne 7, 3) := by decide +kernel
theorem dX9_best_93 : decode cX9_best 93 = .ok (.iload_n 3, 1) := by decide +kernel
theorem dX9_best_94 : decode cX9_best 94 = .ok (.goto 7, 3) := by decide +kernel
theorem dX9_best_97 : decode cX9_best 97 = .ok (.aload_n 0, 1) := by decide +kernel
theorem dX9_best_98 : decode cX9_best 98 = .ok (.getfield 232, 3) := by decide +kernel
theorem dX9_best_101 : decode cX9_best 101 = .ok (.ireturn, 1) := by decide +kernel
theorem dX9_late_0 : decode cX9_late 0 = .ok (.aload_n 0, 1) := by decide +kernel
theorem dX9_late_1 : decode cX9_late 1 = .ok (.iload_n 1, 1) := by decide +kernel
theorem dX9_late_2 : decode cX9_late 2 = .ok (.invokevirtual 204, 3) := by decide +kernel
theorem dX9_late_5 : decode cX9_late 5 = .ok (.ifCond .eq 10, 3) := by decide +kernel
theorem dX9_late_8 : decode cX9_late 8 = .ok (.iload_n 2, 1) := by decide +kernel
theorem dX9_late_9 : decode cX9_late 9 = .ok (.invokestatic 229, 3) := by decide +kernel
theorem dX9_late_12 : decode cX9_late 12 = .ok (.ifCond .ne 5, 3) := by decide +kernel
theorem dX9_late_15 : decode cX9_late 15 = .ok (.iconst (-1), 1) := by decide +kernel
theorem dX9_late_16 : decode cX9_late 16 = .ok (.ireturn, 1) := by decide +kernel
theorem dX9_late_17 : decode cX9_late 17 = .ok (.aload_n 0, 1) := by decide +kernel
