theorem dX8_knows_12 : decode cX8_knows 12 = .ok (.ifnull 10, 3) := by decide +kernel
theorem dX8_knows_15 : decode cX8_knows 15 = .ok (.iload_n 2, 1) := by decide +kernel
theorem dX8_knows_16 : decode cX8_knows 16 = .ok (.invokestatic 205, 3) := by decide +kernel
theorem dX8_knows_19 : decode cX8_knows 19 = .ok (.ifCond .ne 5, 3) := by decide +kernel
theorem dX8_knows_22 : decode cX8_knows 22 = .ok (.iconst (-1), 1) := by decide +kernel
theorem dX8_knows_23 : decode cX8_knows 23 = .ok (.ireturn, 1) := by decide +kernel
theorem dX8_knows_24 : decode cX8_knows 24 = .ok (.iconst 0, 1) := by decide +kernel
theorem dX8_knows_25 : decode cX8_knows 25 = .ok (.iload_n 2, 1) := by decide +kernel
theorem dX8_knows_26 : decode cX8_knows 26 = .ok (.invokestatic 223, 3) := by decide +kernel
theorem dX8_knows_29 : decode cX8_knows 29 = .ok (.lstore 5, 2) := by decide +kernel
theorem dX8_knows_31 : decode cX8_knows 31 = .ok (.iload_n 3, 1) := by decide +kernel
theorem dX8_knows_32 : decode cX8_knows 32 = .ok (.tableswitch 72 0 2 #[28, 43, 58], 28) := by decide +kernel
theorem dX8_knows_60 : decode cX8_knows 60 = .ok (.aload_n 0, 1) := by decide +kernel
theorem dX8_knows_61 : decode cX8_knows 61 = .ok (.getfield 19, 3) := by decide +kernel
theorem dX8_knows_64 : decode cX8_knows 64 = .ok (.aload 4, 2) := by decide +kernel
theorem dX8_knows_66 : decode cX8_knows 66 = .ok (.iconst 0, 1) := by decide +kernel
theorem dX8_knows_67 : decode cX8_knows 67 = .ok (.lload 5, 2) := by decide +kernel
theorem dX8_knows_69 : decode cX8_knows 69 = .ok (.bipush 15, 2) := by decide +kernel
theorem dX8_knows_71 : decode cX8_knows 71 = .ok (.invokevirtual 227, 3) := by decide +kernel
theorem dX8_knows_74 : decode cX8_knows 74 = .ok (.ireturn, 1) := by decide +kernel
theorem dX8_knows_75 : decode cX8_knows 75 = .ok (.aload_n 0, 1) := by decide +kernel
theorem dX8_knows_76 : decode cX8_knows 76 = .ok (.getfield 19, 3) := by decide +kernel
theorem dX8_knows_79 : decode cX8_knows 79 = .ok (.aload 4, 2) := by decide +kernel
theorem dX8_knows_81 : decode cX8_knows 81 = .ok (.iconst 1, 1) := by decide +kernel
theorem dX8_knows_82 : decode cX8_knows 82 = .ok (.lload 5, 2) := by decide +kernel
theorem dX8_knows_84 : decode cX8_knows 84 = .ok (.bipush 15, 2) := by decide +kernel
theorem dX8_knows_86 : decode cX8_knows 86 = .ok (.invokevirtual 227, 3) := by decide +kernel
theorem dX8_knows_89 : decode cX8_knows 89 = .ok (.ireturn, 1) := by decide +kernel
theorem dX8_knows_90 : decode cX8_knows 90 = .ok (.aload_n 0, 1) := by decide +kernel
theorem dX8_knows_91 : decode cX8_knows 91 = .ok (.getfield 19, 3) := by decide +kernel
theorem dX8_knows_94 : decode cX8_knows 94 = .ok (.aload 4, 2) := by decide +kernel
theorem dX8_knows_96 : decode cX8_knows 96 = .ok (.lload 5, 2) := by decide +kernel
theorem dX8_knows_98 : decode cX8_knows 98 = .ok (.bipush 15, 2) := by decide +kernel
theorem dX8_knows_100 : decode cX8_knows 100 = .ok (.invokevirtual 231, 3) := by decide +kernel
theorem dX8_knows_103 : decode cX8_knows 103 = .ok (.ireturn, 1) := by decide +kernel
theorem dX8_knows_104 : decode cX8_knows 104 = .ok (.iconst (-1), 1) := by decide +kernel
theorem dX8_knows_105 : decode cX8_knows 105 = .ok (.ireturn, 1) := by decide +kernel
theorem dX8_first_0 : decode cX8_first 0 = .ok (.aload_n 0, 1) := by decide +kernel
theorem dX8_first_1 : decode cX8_first 1 = .ok (.getfield 19, 3) := by decide +kernel
theorem dX8_first_4 : decode cX8_first 4 = .ok (.iload_n 1, 1) := by decide +kernel
theorem dX8_first_5 : decode cX8_first 5 = .ok (.invokevirtual 169, 3) := by decide +kernel
theorem dX8_first_8 : decode cX8_first 8 = .ok (.astore_n 3, 1) := by decide +kernel
theorem dX8_first_9 : decode cX8_first 9 = .ok (.aload_n 3, 1) := by decide +kernel
theorem dX8_first_10 : decode cX8_first 10 = .ok (.ifnull 10, 3) := by decide +kernel
theorem dX8_first_13 : decode cX8_first 13 = .ok (.iload_n 2, 1) := by decide +kernel
theorem dX8_first_14 : decode cX8_first 14 = .ok (.invokestatic 182, 3) := by decide +kernel
theorem dX8_first_17 : decode cX8_first 17 = .ok (.ifCond .ne 7, 3) := by decide +kernel
theorem dX8_first_20 : decode cX8_first 20 = .ok (.iconst (-1), 1) := by decide +kernel
theorem dX8_first_21 : decode cX8_first 21 = .ok (.goto 12, 3) := by decide +kernel
theorem dX8_first_24 : decode cX8_first 24 = .ok (.aload_n 0, 1) := by decide +kernel
theorem dX8_first_25 : decode cX8_first 25 = .ok (.getfield 19, 3) := by decide +kernel
theorem dX8_first_28 : decode cX8_first 28 = .ok (.aload_n 3, 1) := by decide +kernel
theorem dX8_first_29 : decode cX8_first 29 = .ok (.iload_n 2, 1) := by decide +kernel
theorem dX8_first_30 : decode cX8_first 30 = .ok (.invokevirtual 235, 3) := by decide +kernel
theorem dX8_first_33 : decode cX8_first 33 = .ok (.ireturn, 1) := by decide +kernel
theorem dX8_all_0 : decode cX8_all 0 = .ok (.iload_n 1, 1) := by decide +kernel
theorem dX8_all_1 : decode cX8_all 1 = .ok (.invokestatic 182, 3) := by decide +kernel
theorem dX8_all_4 : decode cX8_all 4 = .ok (.ifCond .ne 5, 3) := by decide +kernel
theorem dX8_all_7 : decode cX8_all 7 = .ok (.iconst (-1), 1) := by decide +kernel
theorem dX8_all_8 : decode cX8_all 8 = .ok (.ireturn, 1) := by decide +kernel
theorem dX8_all_9 : decode cX8_all 9 = .ok (.iconst 0, 1) := by decide +kernel
theorem dX8_all_10 : decode cX8_all 10 = .ok (.istore_n 2, 1) := by decide +kernel
theorem dX8_all_11 : decode cX8_all 11 = .ok (.iconst 0, 1) := by decide +kernel
theorem dX8_all_12 : decode cX8_all 12 = .ok (.istore_n 3, 1) := by decide +kernel
theorem dX8_all_13 : decode cX8_all 13 = .ok (.iload_n 3, 1) := by decide +kernel
theorem dX8_all_14 : decode cX8_all 14 = .ok (.aload_n 0, 1) := by decide +kernel
theorem dX8_all_15 : decode cX8_all 15 = .ok (.getfield 19, 3) := by decide +kernel
theorem dX8_all_18 : decode cX8_all 18 = .ok (.getfield 113, 3) := by decide +kernel
theorem dX8_all_21 : decode cX8_all 21 = .ok (.if_icmp .ge 37, 3) := by decide +kernel
theorem dX8_all_24 : decode cX8_all 24 = .ok (.aload_n 0, 1) := by decide +kernel
theorem dX8_all_25 : decode cX8_all 25 = .ok (.getfield 19, 3) := by decide +kernel
theorem dX8_all_28 : decode cX8_all 28 = .ok (.aload_n 0, 1) := by decide +kernel
theorem dX8_all_29 : decode cX8_all 29 = .ok (.getfield 19, 3) := by decide +kernel
theorem dX8_all_32 : decode cX8_all 32 = .ok (.getfield 239, 3) := by decide +kernel
theorem dX8_all_35 : decode cX8_all 35 = .ok (.iload_n 3, 1) := by decide +kernel
theorem dX8_all_36 : decode cX8_all 36 = .ok (.aaload, 1) := by decide +kernel
theorem dX8_all_37 : decode cX8_all 37 = .ok (.iload_n 1, 1) := by decide +kernel
theorem dX8_all_38 : decode cX8_all 38 = .ok (.invokevirtual 235, 3) := by decide +kernel
theorem dX8_all_41 : decode cX8_all 41 = .ok (.bipush (-4), 2) := by decide +kernel
theorem dX8_all_43 : decode cX8_all 43 = .ok (.if_icmp .eq 9, 3) := by decide +kernel
theorem dX8_all_46 : decode cX8_all 46 = .ok (.iload_n 2, 1) := by decide +kernel
theorem dX8_all_47 : decode cX8_all 47 = .ok (.iconst 1, 1) := by decide +kernel
theorem dX8_all_48 : decode cX8_all 48 = .ok (.iload_n 3, 1) := by decide +kernel
theorem dX8_all_49 : decode cX8_all 49 = .ok (.ishl, 1) := by decide +kernel
theorem dX8_all_50 : decode cX8_all 50 = .ok (.ior, 1) := by decide +kernel
theorem dX8_all_51 : decode cX8_all 51 = .ok (.istore_n 2, 1) := by decide +kernel
theorem dX8_all_52 : decode cX8_all 52 = .ok (.iinc 3 1, 3) := by decide +kernel
theorem dX8_all_55 : decode cX8_all 55 = .ok (.goto (-42), 3) := by decide +kernel
theorem dX8_all_58 : decode cX8_all 58 = .ok (.iload_n 2, 1) := by decide +kernel
theorem dX8_all_59 : decode cX8_all 59 = .ok (.ireturn, 1) := by decide +kernel
theorem dX8_meet_0 : decode cX8_meet 0 = .ok (.aload_n 0, 1) := by decide +kernel
theorem dX8_meet_1 : decode cX8_meet 1 = .ok (.getfield 19, 3) := by decide +kernel
theorem dX8_meet_4 : decode cX8_meet 4 = .ok (.iload_n 1, 1) := by decide +kernel
theorem dX8_meet_5 : decode cX8_meet 5 = .ok (.invokevirtual 126, 3) := by decide +kernel
theorem dX8_meet_8 : decode cX8_meet 8 = .ok (.astore_n 3, 1) := by decide +kernel
theorem dX8_meet_9 : decode cX8_meet 9 = .ok (.aload_n 0, 1) := by decide +kernel
theorem dX8_meet_10 : decode cX8_meet 10 = .ok (.getfield 19, 3) := by decide +kernel
theorem dX8_meet_13 : decode cX8_meet 13 = .ok (.iload_n 2, 1) := by decide +kernel
theorem dX8_meet_14 : decode cX8_meet 14 = .ok (.invokevirtual 126, 3) := by decide +kernel
theorem dX8_meet_17 : decode cX8_meet 17 = .ok (.astore 4, 2) := by decide +kernel
theorem dX8_meet_19 : decode cX8_meet 19 = .ok (.aload_n 3, 1) := by decide +kernel
theorem dX8_meet_20 : decode cX8_meet 20 = .ok (.ifnull 13, 3) := by decide +kernel
theorem dX8_meet_23 : decode cX8_meet 23 = .ok (.aload 4, 2) := by decide +kernel
theorem dX8_meet_25 : decode cX8_meet 25 = .ok (.ifnull 8, 3) := by decide +kernel
theorem dX8_meet_28 : decode cX8_meet 28 = .ok (.iload_n 1, 1) := by decide +kernel
theorem dX8_meet_29 : decode cX8_meet 29 = .ok (.iload_n 2, 1) := by decide +kernel
theorem dX8_meet_30 : decode cX8_meet 30 = .ok (.if_icmp .ne 5, 3) := by decide +kernel
theorem dX8_meet_33 : decode cX8_meet 33 = .ok (.iconst (-1), 1) := by decide +kernel
theorem dX8_meet_34 : decode cX8_meet 34 = .ok (.ireturn, 1) := by decide +kernel
theorem dX8_meet_35 : decode cX8_meet 35 = .ok (.iconst 0, 1) := by decide +kernel
theorem dX8_meet_36 : decode cX8_meet 36 = .ok (.istore 5, 2) := by decide +kernel
theorem dX8_meet_38 : decode cX8_meet 38 = .ok (.iload 5, 2) := by decide +kernel
theorem dX8_meet_40 : decode cX8_meet 40 = .ok (.bipush 60, 2) := by decide +kernel
theorem dX8_meet_42 : decode cX8_meet 42 = .ok (.if_icmp .ge 39, 3) := by decide +kernel
theorem dX8_meet_45 : decode cX8_meet 45 = .ok (.aload_n 3, 1) := by decide +kernel
theorem dX8_meet_46 : decode cX8_meet 46 = .ok (.iload 5, 2) := by decide +kernel
theorem dX8_meet_48 : decode cX8_meet 48 = .ok (.invokevirtual 216, 3) := by decide +kernel
theorem dX8_meet_51 : decode cX8_meet 51 = .ok (.istore 6, 2) := by decide +kernel
theorem dX8_meet_53 : decode cX8_meet 53 = .ok (.iload 6, 2) := by decide +kernel
theorem dX8_meet_55 : decode cX8_meet 55 = .ok (.bipush (-4), 2) := by decide +kernel
theorem dX8_meet_57 : decode cX8_meet 57 = .ok (.if_icmp .eq 18, 3) := by decide +kernel
theorem dX8_meet_60 : decode cX8_meet 60 = .ok (.iload 6, 2) := by decide +kernel
theorem dX8_meet_62 : decode cX8_meet 62 = .ok (.aload 4, 2) := by decide +kernel
theorem dX8_meet_64 : decode cX8_meet 64 = .ok (.iload 5, 2) := by decide +kernel
theorem dX8_meet_66 : decode cX8_meet 66 = .ok (.invokevirtual 216, 3) := by decide +kernel
theorem dX8_meet_69 : decode cX8_meet 69 = .ok (.if_icmp .ne 6, 3) := by decide +kernel
theorem dX8_meet_72 : decode cX8_meet 72 = .ok (.iload 5, 2) := by decide +kernel
theorem dX8_meet_74 : decode cX8_meet 74 = .ok (.ireturn, 1) := by decide +kernel
theorem dX8_meet_75 : decode cX8_meet 75 = .ok (.iinc 5 1, 3) := by decide +kernel
theorem dX8_meet_78 : decode cX8_meet 78 = .ok (.goto (-40), 3) := by decide +kernel
theorem dX8_meet_81 : decode cX8_meet 81 = .ok (.bipush (-4), 2) := by decide +kernel
theorem dX8_meet_83 : decode cX8_meet 83 = .ok (.ireturn, 1) := by decide +kernel
theorem dX8_best_0 : decode cX8_best 0 = .ok (.aload_n 0, 1) := by decide +kernel
theorem dX8_best_1 : decode cX8_best 1 = .ok (.getfield 19, 3) := by decide +kernel
theorem dX8_best_4 : decode cX8_best 4 = .ok (.iload_n 1, 1) := by decide +kernel
theorem dX8_best_5 : decode cX8_best 5 = .ok (.invokevirtual 169, 3) := by decide +kernel
theorem dX8_best_8 : decode cX8_best 8 = .ok (.astore_n 3, 1) := by decide +kernel
theorem dX8_best_9 : decode cX8_best 9 = .ok (.aload_n 3, 1) := by decide +kernel
theorem dX8_best_10 : decode cX8_best 10 = .ok (.ifnull 10, 3) := by decide +kernel
theorem dX8_best_13 : decode cX8_best 13 = .ok (.iload_n 2, 1) := by decide +kernel
theorem dX8_best_14 : decode cX8_best 14 = .ok (.invokestatic 160, 3) := by decide +kernel
theorem dX8_best_17 : decode cX8_best 17 = .ok (.ifCond .ne 5, 3) := by decide +kernel
theorem dX8_best_20 : decode cX8_best 20 = .ok (.iconst (-1), 1) := by decide +kernel
theorem dX8_best_21 : decode cX8_best 21 = .ok (.ireturn, 1) := by decide +kernel
theorem dX8_best_22 : decode cX8_best 22 = .ok (.aload_n 0, 1) := by decide +kernel
theorem dX8_best_23 : decode cX8_best 23 = .ok (.getfield 50, 3) := by decide +kernel
theorem dX8_best_26 : decode cX8_best 26 = .ok (.aload_n 3, 1) := by decide +kernel
theorem dX8_best_27 : decode cX8_best 27 = .ok (.invokevirtual 243, 3) := by decide +kernel
theorem dX8_best_30 : decode cX8_best 30 = .ok (.aload_n 0, 1) := by decide +kernel
theorem dX8_best_31 : decode cX8_best 31 = .ok (.getfield 57, 3) := by decide +kernel
theorem dX8_best_34 : decode cX8_best 34 = .ok (.sipush (-1000), 3) := by decide +kernel
theorem dX8_best_37 : decode cX8_best 37 = .ok (.invokevirtual 246, 3) := by decide +kernel
theorem dX8_best_40 : decode cX8_best 40 = .ok (.iconst 0, 1) := by decide +kernel
theorem dX8_best_41 : decode cX8_best 41 = .ok (.istore 4, 2) := by decide +kernel
theorem dX8_best_43 : decode cX8_best 43 = .ok (.iload 4, 2) := by decide +kernel
theorem dX8_best_45 : decode cX8_best 45 = .ok (.bipush 8, 2) := by decide +kernel
theorem dX8_best_47 : decode cX8_best 47 = .ok (.if_icmp .ge 46, 3) := by decide +kernel
theorem dX8_best_50 : decode cX8_best 50 = .ok (.aload_n 0, 1) := by decide +kernel
theorem dX8_best_51 : decode cX8_best 51 = .ok (.getfield 50, 3) := by decide +kernel
theorem dX8_best_54 : decode cX8_best 54 = .ok (.iload 4, 2) := by decide +kernel
theorem dX8_best_56 : decode cX8_best 56 = .ok (.putfield 173, 3) := by decide +kernel
theorem dX8_best_59 : decode cX8_best 59 = .ok (.aload_n 0, 1) := by decide +kernel
theorem dX8_best_60 : decode cX8_best 60 = .ok (.getfield 57, 3) := by decide +kernel
theorem dX8_best_63 : decode cX8_best 63 = .ok (.iload 4, 2) := by decide +kernel
theorem dX8_best_65 : decode cX8_best 65 = .ok (.aload_n 0, 1) := by decide +kernel
theorem dX8_best_66 : decode cX8_best 66 = .ok (.getfield 19, 3) := by decide +kernel
theorem dX8_best_69 : decode cX8_best 69 = .ok (.aload_n 0, 1) := by decide +kernel
theorem dX8_best_70 : decode cX8_best 70 = .ok (.getfield 50, 3) := by decide +kernel
theorem dX8_best_73 : decode cX8_best 73 = .ok (.ldc2_w 249, 3) := by decide +kernel
theorem dX8_best_76 : decode cX8_best 76 = .ok (.bipush 15, 2) := by decide +kernel
theorem dX8_best_78 : decode cX8_best 78 = .ok (.invokevirtual 231, 3) := by decide +kernel
theorem dX8_best_81 : decode cX8_best 81 = .ok (.invokestatic 251, 3) := by decide +kernel
theorem dX8_best_84 : decode cX8_best 84 = .ok (.invokevirtual 255, 3) := by decide +kernel
theorem dX8_best_87 : decode cX8_best 87 = .ok (.iinc 4 1, 3) := by decide +kernel
theorem dX8_best_90 : decode cX8_best 90 = .ok (.goto (-47), 3) := by decide +kernel
theorem dX8_best_93 : decode cX8_best 93 = .ok (.aload_n 0, 1) := by decide +kernel
theorem dX8_best_94 : decode cX8_best 94 = .ok (.getfield 57, 3) := by decide +kernel
theorem dX8_best_97 : decode cX8_best 97 = .ok (.iload_n 2, 1) := by decide +kernel
theorem dX8_best_98 : decode cX8_best 98 = .ok (.invokevirtual 258, 3) := by decide +kernel
theorem dX8_best_101 : decode cX8_best 101 = .ok (.ireturn, 1) := by decide +kernel
theorem dX8_late_0 : decode cX8_late 0 = .ok (.aload_n 0, 1) := by decide +kernel
theorem dX8_late_1 : decode cX8_late 1 = .ok (.getfield 19, 3) := by decide +kernel
theorem dX8_late_4 : decode cX8_late 4 = .ok (.iload_n 1, 1) := by decide +kernel
theorem dX8_late_5 : decode cX8_late 5 = .ok (.invokevirtual 169, 3) := by decide +kernel
theorem dX8_late_8 : decode cX8_late 8 = .ok (.astore_n 3, 1) := by decide +kernel
theorem dX8_late_9 : decode cX8_late 9 = .ok (.aload_n 3, 1) := by decide +kernel
theorem dX8_late_10 : decode cX8_late 10 = .ok (.ifnull 10, 3) := by decide +kernel
theorem dX8_late_13 : decode cX8_late 13 = .ok (.iload_n 2, 1) := by decide +kernel
theorem dX8_late_14 : decode cX8_late 14 = .ok (.invokestatic 182, 3) := by decide +kernel
theorem dX8_late_17 : decode cX8_late 17 = .ok (.ifCond .ne 5, 3) := by decide +kernel
theorem dX8_late_20 : decode cX8_late 20 = .ok (.iconst (-1), 1) := by decide +kernel
theorem dX8_late_21 : decode cX8_late 21 = .ok (.ireturn, 1) := by decide +kernel
theorem dX8_late_22 : decode cX8_late 22 = .ok (.aload_n 0, 1) := by decide +kernel
theorem dX8_late_23 : decode cX8_late 23 = .ok (.getfield 50, 3) := by decide +kernel
theorem dX8_late_26 : decode cX8_late 26 = .ok (.aload_n 3, 1) := by decide +kernel
theorem dX8_late_27 : decode cX8_late 27 = .ok (.invokevirtual 243, 3) := by decide +kernel
theorem dX8_late_30 : decode cX8_late 30 = .ok (.aload_n 0, 1) := by decide +kernel
theorem dX8_late_31 : decode cX8_late 31 = .ok (.getfield 50, 3) := by decide +kernel
theorem dX8_late_34 : decode cX8_late 34 = .ok (.iconst 0, 1) := by decide +kernel
theorem dX8_late_35 : decode cX8_late 35 = .ok (.putfield 176, 3) := by decide +kernel
theorem dX8_late_38 : decode cX8_late 38 = .ok (.aload_n 0, 1) := by decide +kernel
theorem dX8_late_39 : decode cX8_late 39 = .ok (.getfield 19, 3) := by decide +kernel
theorem dX8_late_42 : decode cX8_late 42 = .ok (.aload_n 0, 1) := by decide +kernel
theorem dX8_late_43 : decode cX8_late 43 = .ok (.getfield 50, 3) := by decide +kernel
theorem dX8_late_46 : decode cX8_late 46 = .ok (.iconst 0, 1) := by decide +kernel
theorem dX8_late_47 : decode cX8_late 47 = .ok (.iload_n 2, 1) := by decide +kernel
theorem dX8_late_48 : decode cX8_late 48 = .ok (.invokevirtual 261, 3) := by decide +kernel
theorem dX8_late_51 : decode cX8_late 51 = .ok (.invokestatic 265, 3) := by decide +kernel
theorem dX8_late_54 : decode cX8_late 54 = .ok (.istore 4, 2) := by decide +kernel
theorem dX8_late_56 : decode cX8_late 56 = .ok (.aload_n 0, 1) := by decide +kernel
theorem dX8_late_57 : decode cX8_late 57 = .ok (.getfield 19, 3) := by decide +kernel
theorem dX8_late_60 : decode cX8_late 60 = .ok (.aload_n 0, 1) := by decide +kernel
theorem dX8_late_61 : decode cX8_late 61 = .ok (.getfield 50, 3) := by decide +kernel
theorem dX8_late_64 : decode cX8_late 64 = .ok (.iconst 1, 1) := by decide +kernel
theorem dX8_late_65 : decode cX8_late 65 = .ok (.iload_n 2, 1) := by decide +kernel
theorem dX8_late_66 : decode cX8_late 66 = .ok (.invokevirtual 261, 3) := by decide +kernel
theorem dX8_late_69 : decode cX8_late 69 = .ok (.invokestatic 265, 3) := by decide +kernel
theorem dX8_late_72 : decode cX8_late 72 = .ok (.istore 5, 2) := by decide +kernel
theorem dX8_late_74 : decode cX8_late 74 = .ok (.iload 4, 2) := by decide +kernel
theorem dX8_late_76 : decode cX8_late 76 = .ok (.bipush (-4), 2) := by decide +kernel
theorem dX8_late_78 : decode cX8_late 78 = .ok (.if_icmp .eq 10, 3) := by decide +kernel
theorem dX8_late_81 : decode cX8_late 81 = .ok (.iload 5, 2) := by decide +kernel
theorem dX8_late_83 : decode cX8_late 83 = .ok (.bipush (-4), 2) := by decide +kernel
theorem dX8_late_85 : decode cX8_late 85 = .ok (.if_icmp .ne 8, 3) := by decide +kernel
theorem dX8_late_88 : decode cX8_late 88 = .ok (.bipush (-4), 2) := by decide +kernel
theorem dX8_late_90 : decode cX8_late 90 = .ok (.goto 10, 3) := by decide +kernel
theorem dX8_late_93 : decode cX8_late 93 = .ok (.iload 4, 2) := by decide +kernel
theorem dX8_late_95 : decode cX8_late 95 = .ok (.iload 5, 2) := by decide +kernel
theorem dX8_late_97 : decode cX8_late 97 = .ok (.invokestatic 268, 3) := by decide +kernel
theorem dX8_late_100 : decode cX8_late 100 = .ok (.ireturn, 1) := by decide +kernel
theorem dX8_soon_0 : decode cX8_soon 0 = .ok (.aload_n 0, 1) := by decide +kernel
theorem dX8_soon_1 : decode cX8_soon 1 = .ok (.getfield 19, 3) := by decide +kernel
theorem dX8_soon_4 : decode cX8_soon 4 = .ok (.iload_n 1, 1) := by decide +kernel
theorem dX8_soon_5 : decode cX8_soon 5 = .ok (.invokevirtual 169, 3) := by decide +kernel
theorem dX8_soon_8 : decode cX8_soon 8 = .ok (.astore_n 3, 1) := by decide +kernel
theorem dX8_soon_9 : decode cX8_soon 9 = .ok (.aload_n 3, 1) := by decide +kernel
theorem dX8_soon_10 : decode cX8_soon 10 = .ok (.ifnull 10, 3) := by decide +kernel
theorem dX8_soon_13 : decode cX8_soon 13 = .ok (.iload_n 2, 1) := by decide +kernel
theorem dX8_soon_14 : decode cX8_soon 14 = .ok (.invokestatic 182, 3) := by decide +kernel
theorem dX8_soon_17 : decode cX8_soon 17 = .ok (.ifCond .ne 5, 3) := by decide +kernel
theorem dX8_soon_20 : decode cX8_soon 20 = .ok (.iconst (-1), 1) := by decide +kernel
theorem dX8_soon_21 : decode cX8_soon 21 = .ok (.ireturn, 1) := by decide +kernel
theorem dX8_soon_22 : decode cX8_soon 22 = .ok (.aload_n 0, 1) := by decide +kernel
theorem dX8_soon_23 : decode cX8_soon 23 = .ok (.getfield 50, 3) := by decide +kernel
theorem dX8_soon_26 : decode cX8_soon 26 = .ok (.aload_n 3, 1) := by decide +kernel
theorem dX8_soon_27 : decode cX8_soon 27 = .ok (.invokevirtual 243, 3) := by decide +kernel
theorem dX8_soon_30 : decode cX8_soon 30 = .ok (.aload_n 0, 1) := by decide +kernel
theorem dX8_soon_31 : decode cX8_soon 31 = .ok (.getfield 50, 3) := by decide +kernel
theorem dX8_soon_34 : decode cX8_soon 34 = .ok (.bipush 59, 2) := by decide +kernel
theorem dX8_soon_36 : decode cX8_soon 36 = .ok (.putfield 179, 3) := by decide +kernel
theorem dX8_soon_39 : decode cX8_soon 39 = .ok (.aload_n 0, 1) := by decide +kernel
theorem dX8_soon_40 : decode cX8_soon 40 = .ok (.getfield 19, 3) := by decide +kernel
theorem dX8_soon_43 : decode cX8_soon 43 = .ok (.aload_n 0, 1) := by decide +kernel
theorem dX8_soon_44 : decode cX8_soon 44 = .ok (.getfield 50, 3) := by decide +kernel
theorem dX8_soon_47 : decode cX8_soon 47 = .ok (.iload_n 2, 1) := by decide +kernel
theorem dX8_soon_48 : decode cX8_soon 48 = .ok (.invokevirtual 235, 3) := by decide +kernel
theorem dX8_soon_51 : decode cX8_soon 51 = .ok (.ireturn, 1) := by decide +kernel
theorem dX8_begin_0 : decode cX8_begin 0 = .ok (.aload_n 0, 1) := by decide +kernel
theorem dX8_begin_1 : decode cX8_begin 1 = .ok (.getfield 23, 3) := by decide +kernel
theorem dX8_begin_4 : decode cX8_begin 4 = .ok (.aload_n 0, 1) := by decide +kernel
theorem dX8_begin_5 : decode cX8_begin 5 = .ok (.getfield 19, 3) := by decide +kernel
theorem dX8_begin_8 : decode cX8_begin 8 = .ok (.invokevirtual 97, 3) := by decide +kernel
theorem dX8_begin_11 : decode cX8_begin 11 = .ok (.aload_n 0, 1) := by decide +kernel
theorem dX8_begin_12 : decode cX8_begin 12 = .ok (.getfield 23, 3) := by decide +kernel
theorem dX8_begin_15 : decode cX8_begin 15 = .ok (.iload_n 1, 1) := by decide +kernel
theorem dX8_begin_16 : decode cX8_begin 16 = .ok (.invokevirtual 126, 3) := by decide +kernel
theorem dX8_begin_19 : decode cX8_begin 19 = .ok (.astore_n 3, 1) := by decide +kernel
theorem dX8_begin_20 : decode cX8_begin 20 = .ok (.aload_n 3, 1) := by decide +kernel
theorem dX8_begin_21 : decode cX8_begin 21 = .ok (.ifnull 10, 3) := by decide +kernel
theorem dX8_begin_24 : decode cX8_begin 24 = .ok (.iload_n 2, 1) := by decide +kernel
theorem dX8_begin_25 : decode cX8_begin 25 = .ok (.invokestatic 160, 3) := by decide +kernel
theorem dX8_begin_28 : decode cX8_begin 28 = .ok (.ifCond .ne 5, 3) := by decide +kernel
theorem dX8_begin_31 : decode cX8_begin 31 = .ok (.iconst (-1), 1) := by decide +kernel
theorem dX8_begin_32 : decode cX8_begin 32 = .ok (.ireturn, 1) := by decide +kernel
theorem dX8_begin_33 : decode cX8_begin 33 = .ok (.aload_n 0, 1) := by decide +kernel
theorem dX8_begin_34 : decode cX8_begin 34 = .ok (.getfield 57, 3) := by decide +kernel
theorem dX8_begin_37 : decode cX8_begin 37 = .ok (.sipush (-1000), 3) := by decide +kernel
theorem dX8_begin_40 : decode cX8_begin 40 = .ok (.invokevirtual 246, 3) := by decide +kernel
theorem dX8_begin_43 : decode cX8_begin 43 = .ok (.iconst 0, 1) := by decide +kernel
theorem dX8_begin_44 : decode cX8_begin 44 = .ok (.istore 4, 2) := by decide +kernel
theorem dX8_begin_46 : decode cX8_begin 46 = .ok (.iload 4, 2) := by decide +kernel
theorem dX8_begin_48 : decode cX8_begin 48 = .ok (.aload_n 3, 1) := by decide +kernel
theorem dX8_begin_49 : decode cX8_begin 49 = .ok (.getfield 141, 3) := by decide +kernel
theorem dX8_begin_52 : decode cX8_begin 52 = .ok (.if_icmp .ge 32, 3) := by decide +kernel
theorem dX8_begin_55 : decode cX8_begin 55 = .ok (.aload_n 0, 1) := by decide +kernel
theorem dX8_begin_56 : decode cX8_begin 56 = .ok (.getfield 57, 3) := by decide +kernel
theorem dX8_begin_59 : decode cX8_begin 59 = .ok (.iload 4, 2) := by decide +kernel
theorem dX8_begin_61 : decode cX8_begin 61 = .ok (.aload_n 0, 1) := by decide +kernel
theorem dX8_begin_62 : decode cX8_begin 62 = .ok (.getfield 23, 3) := by decide +kernel
theorem dX8_begin_65 : decode cX8_begin 65 = .ok (.bipush 15, 2) := by decide +kernel
theorem dX8_begin_67 : decode cX8_begin 67 = .ok (.invokevirtual 122, 3) := by decide +kernel
theorem dX8_begin_70 : decode cX8_begin 70 = .ok (.invokevirtual 255, 3) := by decide +kernel
theorem dX8_begin_73 : decode cX8_begin 73 = .ok (.aload_n 3, 1) := by decide +kernel
theorem dX8_begin_74 : decode cX8_begin 74 = .ok (.iconst 1, 1) := by decide +kernel
theorem dX8_begin_75 : decode cX8_begin 75 = .ok (.invokevirtual 192, 3) := by decide +kernel
theorem dX8_begin_78 : decode cX8_begin 78 = .ok (.iinc 4 1, 3) := by decide +kernel
theorem dX8_begin_81 : decode cX8_begin 81 = .ok (.goto (-35), 3) := by decide +kernel
theorem dX8_begin_84 : decode cX8_begin 84 = .ok (.aload_n 0, 1) := by decide +kernel
theorem dX8_begin_85 : decode cX8_begin 85 = .ok (.getfield 57, 3) := by decide +kernel
theorem dX8_begin_88 : decode cX8_begin 88 = .ok (.iload_n 2, 1) := by decide +kernel
theorem dX8_begin_89 : decode cX8_begin 89 = .ok (.invokevirtual 258, 3) := by decide +kernel
theorem dX8_begin_92 : decode cX8_begin 92 = .ok (.ireturn, 1) := by decide +kernel
theorem dX8_kind_0 : decode cX8_kind 0 = .ok (.aload_n 0, 1) := by decide +kernel
theorem dX8_kind_1 : decode cX8_kind 1 = .ok (.getfield 23, 3) := by decide +kernel
theorem dX8_kind_4 : decode cX8_kind 4 = .ok (.aload_n 0, 1) := by decide +kernel
theorem dX8_kind_5 : decode cX8_kind 5 = .ok (.getfield 19, 3) := by decide +kernel
theorem dX8_kind_8 : decode cX8_kind 8 = .ok (.invokevirtual 97, 3) := by decide +kernel
theorem dX8_kind_11 : decode cX8_kind 11 = .ok (.aload_n 0, 1) := by decide +kernel
theorem dX8_kind_12 : decode cX8_kind 12 = .ok (.getfield 23, 3) := by decide +kernel
theorem dX8_kind_15 : decode cX8_kind 15 = .ok (.iload_n 1, 1) := by decide +kernel
theorem dX8_kind_16 : decode cX8_kind 16 = .ok (.invokevirtual 126, 3) := by decide +kernel
theorem dX8_kind_19 : decode cX8_kind 19 = .ok (.astore_n 3, 1) := by decide +kernel
theorem dX8_kind_20 : decode cX8_kind 20 = .ok (.aload_n 3, 1) := by decide +kernel
theorem dX8_kind_21 : decode cX8_kind 21 = .ok (.ifnull 10, 3) := by decide +kernel
theorem dX8_kind_24 : decode cX8_kind 24 = .ok (.iload_n 2, 1) := by decide +kernel
theorem dX8_kind_25 : decode cX8_kind 25 = .ok (.invokestatic 160, 3) := by decide +kernel
theorem dX8_kind_28 : decode cX8_kind 28 = .ok (.ifCond .ne 5, 3) := by decide +kernel
theorem dX8_kind_31 : decode cX8_kind 31 = .ok (.iconst (-1), 1) := by decide +kernel
theorem dX8_kind_32 : decode cX8_kind 32 = .ok (.ireturn, 1) := by decide +kernel
theorem dX8_kind_33 : decode cX8_kind 33 = .ok (.aload_n 0, 1) := by decide +kernel
theorem dX8_kind_34 : decode cX8_kind 34 = .ok (.getfield 57, 3) := by decide +kernel
theorem dX8_kind_37 : decode cX8_kind 37 = .ok (.sipush (-1000), 3) := by decide +kernel
theorem dX8_kind_40 : decode cX8_kind 40 = .ok (.invokevirtual 246, 3) := by decide +kernel
theorem dX8_kind_43 : decode cX8_kind 43 = .ok (.iconst 0, 1) := by decide +kernel
theorem dX8_kind_44 : decode cX8_kind 44 = .ok (.istore 4, 2) := by decide +kernel
theorem dX8_kind_46 : decode cX8_kind 46 = .ok (.iload 4, 2) := by decide +kernel
theorem dX8_kind_48 : decode cX8_kind 48 = .ok (.iconst 4, 1) := by decide +kernel
theorem dX8_kind_49 : decode cX8_kind 49 = .ok (.if_icmp .ge 33, 3) := by decide +kernel
theorem dX8_kind_52 : decode cX8_kind 52 = .ok (.aload_n 3, 1) := by decide +kernel
theorem dX8_kind_53 : decode cX8_kind 53 = .ok (.iload 4, 2) := by decide +kernel
theorem dX8_kind_55 : decode cX8_kind 55 = .ok (.putfield 130, 3) := by decide +kernel
theorem dX8_kind_58 : decode cX8_kind 58 = .ok (.aload_n 0, 1) := by decide +kernel
theorem dX8_kind_59 : decode cX8_kind 59 = .ok (.getfield 57, 3) := by decide +kernel
theorem dX8_kind_62 : decode cX8_kind 62 = .ok (.iload 4, 2) := by decide +kernel
theorem dX8_kind_64 : decode cX8_kind 64 = .ok (.aload_n 0, 1) := by decide +kernel
theorem dX8_kind_65 : decode cX8_kind 65 = .ok (.getfield 23, 3) := by decide +kernel
theorem dX8_kind_68 : decode cX8_kind 68 = .ok (.bipush 15, 2) := by decide +kernel
theorem dX8_kind_70 : decode cX8_kind 70 = .ok (.invokevirtual 122, 3) := by decide +kernel
theorem dX8_kind_73 : decode cX8_kind 73 = .ok (.invokevirtual 255, 3) := by decide +kernel
theorem dX8_kind_76 : decode cX8_kind 76 = .ok (.iinc 4 1, 3) := by decide +kernel
theorem dX8_kind_79 : decode cX8_kind 79 = .ok (.goto (-33), 3) := by decide +kernel
theorem dX8_kind_82 : decode cX8_kind 82 = .ok (.aload_n 0, 1) := by decide +kernel
theorem dX8_kind_83 : decode cX8_kind 83 = .ok (.getfield 57, 3) := by decide +kernel
theorem dX8_kind_86 : decode cX8_kind 86 = .ok (.iload_n 2, 1) := by decide +kernel
theorem dX8_kind_87 : decode cX8_kind 87 = .ok (.invokevirtual 258, 3) := by decide +kernel
theorem dX8_kind_90 : decode cX8_kind 90 = .ok (.ireturn, 1) := by decide +kernel
theorem dX8_swap_0 : decode cX8_swap 0 = .ok (.iload_n 1, 1) := by decide +kernel
theorem dX8_swap_1 : decode cX8_swap 1 = .ok (.invokestatic 160, 3) := by decide +kernel
theorem dX8_swap_4 : decode cX8_swap 4 = .ok (.ifCond .ne 5, 3) := by decide +kernel
theorem dX8_swap_7 : decode cX8_swap 7 = .ok (.iconst (-1), 1) := by decide +kernel
theorem dX8_swap_8 : decode cX8_swap 8 = .ok (.ireturn, 1) := by decide +kernel
theorem dX8_swap_9 : decode cX8_swap 9 = .ok (.aload_n 0, 1) := by decide +kernel
theorem dX8_swap_10 : decode cX8_swap 10 = .ok (.getfield 23, 3) := by decide +kernel
theorem dX8_swap_13 : decode cX8_swap 13 = .ok (.aload_n 0, 1) := by decide +kernel
theorem dX8_swap_14 : decode cX8_swap 14 = .ok (.getfield 19, 3) := by decide +kernel
theorem dX8_swap_17 : decode cX8_swap 17 = .ok (.invokevirtual 97, 3) := by decide +kernel
theorem dX8_swap_20 : decode cX8_swap 20 = .ok (.aload_n 0, 1) := by decide +kernel
theorem dX8_swap_21 : decode cX8_swap 21 = .ok (.getfield 57, 3) := by decide +kernel
theorem dX8_swap_24 : decode cX8_swap 24 = .ok (.aload_n 0, 1) := by decide +kernel
theorem dX8_swap_25 : decode cX8_swap 25 = .ok (.getfield 19, 3) := by decide +kernel
theorem dX8_swap_28 : decode cX8_swap 28 = .ok (.bipush 15, 2) := by decide +kernel
theorem dX8_swap_30 : decode cX8_swap 30 = .ok (.invokevirtual 122, 3) := by decide +kernel
theorem dX8_swap_33 : decode cX8_swap 33 = .ok (.invokevirtual 246, 3) := by decide +kernel
theorem dX8_swap_36 : decode cX8_swap 36 = .ok (.iconst 0, 1) := by decide +kernel
theorem dX8_swap_37 : decode cX8_swap 37 = .ok (.istore_n 2, 1) := by decide +kernel
theorem dX8_swap_38 : decode cX8_swap 38 = .ok (.iload_n 2, 1) := by decide +kernel
theorem dX8_swap_39 : decode cX8_swap 39 = .ok (.aload_n 0, 1) := by decide +kernel
theorem dX8_swap_40 : decode cX8_swap 40 = .ok (.getfield 23, 3) := by decide +kernel
theorem dX8_swap_43 : decode cX8_swap 43 = .ok (.getfield 107, 3) := by decide +kernel
theorem dX8_swap_46 : decode cX8_swap 46 = .ok (.if_icmp .ge 70, 3) := by decide +kernel
theorem dX8_swap_49 : decode cX8_swap 49 = .ok (.iload_n 2, 1) := by decide +kernel
theorem dX8_swap_50 : decode cX8_swap 50 = .ok (.iconst 1, 1) := by decide +kernel
theorem dX8_swap_51 : decode cX8_swap 51 = .ok (.iadd, 1) := by decide +kernel
theorem dX8_swap_52 : decode cX8_swap 52 = .ok (.istore_n 3, 1) := by decide +kernel
theorem dX8_swap_53 : decode cX8_swap 53 = .ok (.iload_n 3, 1) := by decide +kernel
theorem dX8_swap_54 : decode cX8_swap 54 = .ok (.aload_n 0, 1) := by decide +kernel
theorem dX8_swap_55 : decode cX8_swap 55 = .ok (.getfield 23, 3) := by decide +kernel
theorem dX8_swap_58 : decode cX8_swap 58 = .ok (.getfield 107, 3) := by decide +kernel
theorem dX8_swap_61 : decode cX8_swap 61 = .ok (.if_icmp .ge 49, 3) := by decide +kernel
theorem dX8_swap_64 : decode cX8_swap 64 = .ok (.aload_n 0, 1) := by decide +kernel
theorem dX8_swap_65 : decode cX8_swap 65 = .ok (.getfield 23, 3) := by decide +kernel
theorem dX8_swap_68 : decode cX8_swap 68 = .ok (.iload_n 2, 1) := by decide +kernel
theorem dX8_swap_69 : decode cX8_swap 69 = .ok (.iload_n 3, 1) := by decide +kernel
theorem dX8_swap_70 : decode cX8_swap 70 = .ok (.invokevirtual 274, 3) := by decide +kernel
theorem dX8_swap_73 : decode cX8_swap 73 = .ok (.aload_n 0, 1) := by decide +kernel
theorem dX8_swap_74 : decode cX8_swap 74 = .ok (.getfield 57, 3) := by decide +kernel
theorem dX8_swap_77 : decode cX8_swap 77 = .ok (.bipush 10, 2) := by decide +kernel
theorem dX8_swap_79 : decode cX8_swap 79 = .ok (.iload_n 2, 1) := by decide +kernel
theorem dX8_swap_80 : decode cX8_swap 80 = .ok (.imul, 1) := by decide +kernel
theorem dX8_swap_81 : decode cX8_swap 81 = .ok (.iload_n 3, 1) := by decide +kernel
theorem dX8_swap_82 : decode cX8_swap 82 = .ok (.iadd, 1) := by decide +kernel
theorem dX8_swap_83 : decode cX8_swap 83 = .ok (.aload_n 0, 1) := by decide +kernel
theorem dX8_swap_84 : decode cX8_swap 84 = .ok (.getfield 23, 3) := by decide +kernel
theorem dX8_swap_87 : decode cX8_swap 87 = .ok (.bipush 15, 2) := by decide +kernel
theorem dX8_swap_89 : decode cX8_swap 89 = .ok (.invokevirtual 122, 3) := by decide +kernel
theorem dX8_swap_92 : decode cX8_swap 92 = .ok (.invokevirtual 255, 3) := by decide +kernel
theorem dX8_swap_95 : decode cX8_swap 95 = .ok (.aload_n 0, 1) := by decide +kernel
theorem dX8_swap_96 : decode cX8_swap 96 = .ok (.getfield 23, 3) := by decide +kernel
theorem dX8_swap_99 : decode cX8_swap 99 = .ok (.iload_n 2, 1) := by decide +kernel
theorem dX8_swap_100 : decode cX8_swap 100 = .ok (.iload_n 3, 1) := by decide +kernel
theorem dX8_swap_101 : decode cX8_swap 101 = .ok (.invokevirtual 274, 3) := by decide +kernel
theorem dX8_swap_104 : decode cX8_swap 104 = .ok (.iinc 3 1, 3) := by decide +kernel
theorem dX8_swap_107 : decode cX8_swap 107 = .ok (.goto (-54), 3) := by decide +kernel
theorem dX8_swap_110 : decode cX8_swap 110 = .ok (.iinc 2 1, 3) := by decide +kernel
theorem dX8_swap_113 : decode cX8_swap 113 = .ok (.goto (-75), 3) := by decide +kernel
theorem dX8_swap_116 : decode cX8_swap 116 = .ok (.aload_n 0, 1) := by decide +kernel
theorem dX8_swap_117 : decode cX8_swap 117 = .ok (.getfield 57, 3) := by decide +kernel
theorem dX8_swap_120 : decode cX8_swap 120 = .ok (.iload_n 1, 1) := by decide +kernel
theorem dX8_swap_121 : decode cX8_swap 121 = .ok (.invokevirtual 258, 3) := by decide +kernel
theorem dX8_swap_124 : decode cX8_swap 124 = .ok (.ireturn, 1) := by decide +kernel
theorem dX8_spoil_0 : decode cX8_spoil 0 = .ok (.iload_n 1, 1) := by decide +kernel
theorem dX8_spoil_1 : decode cX8_spoil 1 = .ok (.iconst 1, 1) := by decide +kernel
theorem dX8_spoil_2 : decode cX8_spoil 2 = .ok (.bipush 59, 2) := by decide +kernel
theorem dX8_spoil_4 : decode cX8_spoil 4 = .ok (.invokestatic 70, 3) := by decide +kernel
theorem dX8_spoil_7 : decode cX8_spoil 7 = .ok (.ifCond .eq 10, 3) := by decide +kernel
theorem dX8_spoil_10 : decode cX8_spoil 10 = .ok (.iload_n 2, 1) := by decide +kernel
theorem dX8_spoil_11 : decode cX8_spoil 11 = .ok (.invokestatic 160, 3) := by decide +kernel
theorem dX8_spoil_14 : decode cX8_spoil 14 = .ok (.ifCond .ne 5, 3) := by decide +kernel
theorem dX8_spoil_17 : decode cX8_spoil 17 = .ok (.iconst (-1), 1) := by decide +kernel
theorem dX8_spoil_18 : decode cX8_spoil 18 = .ok (.ireturn, 1) := by decide +kernel
theorem dX8_spoil_19 : decode cX8_spoil 19 = .ok (.aload_n 0, 1) := by decide +kernel
theorem dX8_spoil_20 : decode cX8_spoil 20 = .ok (.getfield 23, 3) := by decide +kernel
theorem dX8_spoil_23 : decode cX8_spoil 23 = .ok (.aload_n 0, 1) := by decide +kernel
theorem dX8_spoil_24 : decode cX8_spoil 24 = .ok (.getfield 19, 3) := by decide +kernel
theorem dX8_spoil_27 : decode cX8_spoil 27 = .ok (.invokevirtual 97, 3) := by decide +kernel
theorem dX8_spoil_30 : decode cX8_spoil 30 = .ok (.aload_n 0, 1) := by decide +kernel
theorem dX8_spoil_31 : decode cX8_spoil 31 = .ok (.getfield 57, 3) := by decide +kernel
theorem dX8_spoil_34 : decode cX8_spoil 34 = .ok (.sipush (-1000), 3) := by decide +kernel
theorem dX8_spoil_37 : decode cX8_spoil 37 = .ok (.invokevirtual 246, 3) := by decide +kernel
theorem dX8_spoil_40 : decode cX8_spoil 40 = .ok (.iconst 0, 1) := by decide +kernel
theorem dX8_spoil_41 : decode cX8_spoil 41 = .ok (.istore_n 3, 1) := by decide +kernel
theorem dX8_spoil_42 : decode cX8_spoil 42 = .ok (.iload_n 3, 1) := by decide +kernel
theorem dX8_spoil_43 : decode cX8_spoil 43 = .ok (.bipush 60, 2) := by decide +kernel
theorem dX8_spoil_45 : decode cX8_spoil 45 = .ok (.if_icmp .ge 36, 3) := by decide +kernel
theorem dX8_spoil_48 : decode cX8_spoil 48 = .ok (.aload_n 0, 1) := by decide +kernel
theorem dX8_spoil_49 : decode cX8_spoil 49 = .ok (.getfield 23, 3) := by decide +kernel
theorem dX8_spoil_52 : decode cX8_spoil 52 = .ok (.iload_n 3, 1) := by decide +kernel
theorem dX8_spoil_53 : decode cX8_spoil 53 = .ok (.iload_n 1, 1) := by decide +kernel
theorem dX8_spoil_54 : decode cX8_spoil 54 = .ok (.invokevirtual 208, 3) := by decide +kernel
theorem dX8_spoil_57 : decode cX8_spoil 57 = .ok (.aload_n 0, 1) := by decide +kernel
theorem dX8_spoil_58 : decode cX8_spoil 58 = .ok (.getfield 57, 3) := by decide +kernel
theorem dX8_spoil_61 : decode cX8_spoil 61 = .ok (.iload_n 3, 1) := by decide +kernel
theorem dX8_spoil_62 : decode cX8_spoil 62 = .ok (.aload_n 0, 1) := by decide +kernel
theorem dX8_spoil_63 : decode cX8_spoil 63 = .ok (.getfield 23, 3) := by decide +kernel
theorem dX8_spoil_66 : decode cX8_spoil 66 = .ok (.bipush 15, 2) := by decide +kernel
theorem dX8_spoil_68 : decode cX8_spoil 68 = .ok (.invokevirtual 122, 3) := by decide +kernel
theorem dX8_spoil_71 : decode cX8_spoil 71 = .ok (.ineg, 1) := by decide +kernel
theorem dX8_spoil_72 : decode cX8_spoil 72 = .ok (.invokevirtual 255, 3) := by decide +kernel
theorem dX8_spoil_75 : decode cX8_spoil 75 = .ok (.iinc 3 1, 3) := by decide +kernel
theorem dX8_spoil_78 : decode cX8_spoil 78 = .ok (.goto (-36), 3) := by decide +kernel
theorem dX8_spoil_81 : decode cX8_spoil 81 = .ok (.aload_n 0, 1) := by decide +kernel
theorem dX8_spoil_82 : decode cX8_spoil 82 = .ok (.getfield 57, 3) := by decide +kernel
theorem dX8_spoil_85 : decode cX8_spoil 85 = .ok (.iload_n 2, 1) := by decide +kernel
theorem dX8_spoil_86 : decode cX8_spoil 86 = .ok (.invokevirtual 277, 3) := by decide +kernel
theorem dX8_spoil_89 : decode cX8_spoil 89 = .ok (.ireturn, 1) := by decide +kernel
theorem dX8_luck_0 : decode cX8_luck 0 = .ok (.aload_n 0, 1) := by decide +kernel
theorem dX8_luck_1 : decode cX8_luck 1 = .ok (.getfield 19, 3) := by decide +kernel
theorem dX8_luck_4 : decode cX8_luck 4 = .ok (.iload_n 2, 1) := by decide +kernel
theorem dX8_luck_5 : decode cX8_luck 5 = .ok (.invokevirtual 169, 3) := by decide +kernel
theorem dX8_luck_8 : decode cX8_luck 8 = .ok (.astore 5, 2) := by decide +kernel
theorem dX8_luck_10 : decode cX8_luck 10 = .ok (.iload_n 1, 1) := by decide +kernel
theorem dX8_luck_11 : decode cX8_luck 11 = .ok (.iconst 0, 1) := by decide +kernel
theorem dX8_luck_12 : decode cX8_luck 12 = .ok (.bipush 10, 2) := by decide +kernel
theorem dX8_luck_14 : decode cX8_luck 14 = .ok (.invokestatic 70, 3) := by decide +kernel
theorem dX8_luck_17 : decode cX8_luck 17 = .ok (.ifCond .eq 23, 3) := by decide +kernel
theorem dX8_luck_20 : decode cX8_luck 20 = .ok (.aload 5, 2) := by decide +kernel
theorem dX8_luck_22 : decode cX8_luck 22 = .ok (.ifnull 18, 3) := by decide +kernel
theorem dX8_luck_25 : decode cX8_luck 25 = .ok (.iload_n 3, 1) := by decide +kernel
theorem dX8_luck_26 : decode cX8_luck 26 = .ok (.invokestatic 182, 3) := by decide +kernel
theorem dX8_luck_29 : decode cX8_luck 29 = .ok (.ifCond .eq 11, 3) := by decide +kernel
theorem dX8_luck_32 : decode cX8_luck 32 = .ok (.iload 4, 2) := by decide +kernel
theorem dX8_luck_34 : decode cX8_luck 34 = .ok (.invokestatic 160, 3) := by decide +kernel
theorem dX8_luck_37 : decode cX8_luck 37 = .ok (.ifCond .ne 7, 3) := by decide +kernel
theorem dX8_luck_40 : decode cX8_luck 40 = .ok (.ldc2_w 280, 3) := by decide +kernel
theorem dX8_luck_43 : decode cX8_luck 43 = .ok (.lreturn, 1) := by decide +kernel
theorem dX8_luck_44 : decode cX8_luck 44 = .ok (.lconst 0, 1) := by decide +kernel
theorem dX8_luck_45 : decode cX8_luck 45 = .ok (.lstore 6, 2) := by decide +kernel
theorem dX8_luck_47 : decode cX8_luck 47 = .ok (.iconst 0, 1) := by decide +kernel
theorem dX8_luck_48 : decode cX8_luck 48 = .ok (.istore 8, 2) := by decide +kernel
theorem dX8_luck_50 : decode cX8_luck 50 = .ok (.iload 8, 2) := by decide +kernel
theorem dX8_luck_52 : decode cX8_luck 52 = .ok (.iconst 1, 1) := by decide +kernel
theorem dX8_luck_53 : decode cX8_luck 53 = .ok (.aload_n 0, 1) := by decide +kernel
theorem dX8_luck_54 : decode cX8_luck 54 = .ok (.getfield 19, 3) := by decide +kernel
theorem dX8_luck_57 : decode cX8_luck 57 = .ok (.getfield 107, 3) := by decide +kernel
theorem dX8_luck_60 : decode cX8_luck 60 = .ok (.ishl, 1) := by decide +kernel
theorem dX8_luck_61 : decode cX8_luck 61 = .ok (.if_icmp .ge 44, 3) := by decide +kernel
theorem dX8_luck_64 : decode cX8_luck 64 = .ok (.lload 6, 2) := by decide +kernel
theorem dX8_luck_66 : decode cX8_luck 66 = .ok (.aload_n 0, 1) := by decide +kernel
theorem dX8_luck_67 : decode cX8_luck 67 = .ok (.getfield 19, 3) := by decide +kernel
theorem dX8_luck_70 : decode cX8_luck 70 = .ok (.iload_n 1, 1) := by decide +kernel
theorem dX8_luck_71 : decode cX8_luck 71 = .ok (.iload 8, 2) := by decide +kernel
theorem dX8_luck_73 : decode cX8_luck 73 = .ok (.invokevirtual 282, 3) := by decide +kernel
theorem dX8_luck_76 : decode cX8_luck 76 = .ok (.aload_n 0, 1) := by decide +kernel
theorem dX8_luck_77 : decode cX8_luck 77 = .ok (.getfield 19, 3) := by decide +kernel
theorem dX8_luck_80 : decode cX8_luck 80 = .ok (.aload 5, 2) := by decide +kernel
theorem dX8_luck_82 : decode cX8_luck 82 = .ok (.ldc2_w 249, 3) := by decide +kernel
theorem dX8_luck_85 : decode cX8_luck 85 = .ok (.iload 8, 2) := by decide +kernel
theorem dX8_luck_87 : decode cX8_luck 87 = .ok (.invokevirtual 231, 3) := by decide +kernel
theorem dX8_luck_90 : decode cX8_luck 90 = .ok (.iload_n 3, 1) := by decide +kernel
theorem dX8_luck_91 : decode cX8_luck 91 = .ok (.ishr, 1) := by decide +kernel
theorem dX8_luck_92 : decode cX8_luck 92 = .ok (.iconst 1, 1) := by decide +kernel
theorem dX8_luck_93 : decode cX8_luck 93 = .ok (.iand, 1) := by decide +kernel
theorem dX8_luck_94 : decode cX8_luck 94 = .ok (.i2l, 1) := by decide +kernel
theorem dX8_luck_95 : decode cX8_luck 95 = .ok (.lmul, 1) := by decide +kernel
theorem dX8_luck_96 : decode cX8_luck 96 = .ok (.ladd, 1) := by decide +kernel
theorem dX8_luck_97 : decode cX8_luck 97 = .ok (.lstore 6, 2) := by decide +kernel
theorem dX8_luck_99 : decode cX8_luck 99 = .ok (.iinc 8 1, 3) := by decide +kernel
theorem dX8_luck_102 : decode cX8_luck 102 = .ok (.goto (-52), 3) := by decide +kernel
theorem dX8_luck_105 : decode cX8_luck 105 = .ok (.lload 6, 2) := by decide +kernel
theorem dX8_luck_107 : decode cX8_luck 107 = .ok (.aload_n 0, 1) := by decide +kernel
theorem dX8_luck_108 : decode cX8_luck 108 = .ok (.getfield 19, 3) := by decide +kernel
theorem dX8_luck_111 : decode cX8_luck 111 = .ok (.invokevirtual 285, 3) := by decide +kernel
theorem dX8_luck_114 : decode cX8_luck 114 = .ok (.iload 4, 2) := by decide +kernel
theorem dX8_luck_116 : decode cX8_luck 116 = .ok (.invokestatic 289, 3) := by decide +kernel
theorem dX8_luck_119 : decode cX8_luck 119 = .ok (.lreturn, 1) := by decide +kernel
theorem dX8_mean_0 : decode cX8_mean 0 = .ok (.iload_n 1, 1) := by decide +kernel
theorem dX8_mean_1 : decode cX8_mean 1 = .ok (.iconst 0, 1) := by decide +kernel
theorem dX8_mean_2 : decode cX8_mean 2 = .ok (.bipush 10, 2) := by decide +kernel
theorem dX8_mean_4 : decode cX8_mean 4 = .ok (.invokestatic 70, 3) := by decide +kernel
theorem dX8_mean_7 : decode cX8_mean 7 = .ok (.ifCond .eq 10, 3) := by decide +kernel
theorem dX8_mean_10 : decode cX8_mean 10 = .ok (.iload_n 2, 1) := by decide +kernel
theorem dX8_mean_11 : decode cX8_mean 11 = .ok (.invokestatic 160, 3) := by decide +kernel
theorem dX8_mean_14 : decode cX8_mean 14 = .ok (.ifCond .ne 7, 3) := by decide +kernel
theorem dX8_mean_17 : decode cX8_mean 17 = .ok (.ldc2_w 280, 3) := by decide +kernel
theorem dX8_mean_20 : decode cX8_mean 20 = .ok (.lreturn, 1) := by decide +kernel
theorem dX8_mean_21 : decode cX8_mean 21 = .ok (.lconst 0, 1) := by decide +kernel
theorem dX8_mean_22 : decode cX8_mean 22 = .ok (.lstore_n 3, 1) := by decide +kernel
theorem dX8_mean_23 : decode cX8_mean 23 = .ok (.iconst 0, 1) := by decide +kernel
theorem dX8_mean_24 : decode cX8_mean 24 = .ok (.istore 5, 2) := by decide +kernel
theorem dX8_mean_26 : decode cX8_mean 26 = .ok (.iload 5, 2) := by decide +kernel
theorem dX8_mean_28 : decode cX8_mean 28 = .ok (.iconst 1, 1) := by decide +kernel
theorem dX8_mean_29 : decode cX8_mean 29 = .ok (.aload_n 0, 1) := by decide +kernel
theorem dX8_mean_30 : decode cX8_mean 30 = .ok (.getfield 19, 3) := by decide +kernel
theorem dX8_mean_33 : decode cX8_mean 33 = .ok (.getfield 107, 3) := by decide +kernel
theorem dX8_mean_36 : decode cX8_mean 36 = .ok (.ishl, 1) := by decide +kernel
theorem dX8_mean_37 : decode cX8_mean 37 = .ok (.if_icmp .ge 33, 3) := by decide +kernel
theorem dX8_mean_40 : decode cX8_mean 40 = .ok (.lload_n 3, 1) := by decide +kernel
theorem dX8_mean_41 : decode cX8_mean 41 = .ok (.aload_n 0, 1) := by decide +kernel
theorem dX8_mean_42 : decode cX8_mean 42 = .ok (.getfield 19, 3) := by decide +kernel
theorem dX8_mean_45 : decode cX8_mean 45 = .ok (.iload_n 1, 1) := by decide +kernel
theorem dX8_mean_46 : decode cX8_mean 46 = .ok (.iload 5, 2) := by decide +kernel
theorem dX8_mean_48 : decode cX8_mean 48 = .ok (.invokevirtual 282, 3) := by decide +kernel
theorem dX8_mean_51 : decode cX8_mean 51 = .ok (.aload_n 0, 1) := by decide +kernel
theorem dX8_mean_52 : decode cX8_mean 52 = .ok (.getfield 19, 3) := by decide +kernel
theorem dX8_mean_55 : decode cX8_mean 55 = .ok (.iload 5, 2) := by decide +kernel
theorem dX8_mean_57 : decode cX8_mean 57 = .ok (.invokevirtual 122, 3) := by decide +kernel
theorem dX8_mean_60 : decode cX8_mean 60 = .ok (.i2l, 1) := by decide +kernel
theorem dX8_mean_61 : decode cX8_mean 61 = .ok (.lmul, 1) := by decide +kernel
theorem dX8_mean_62 : decode cX8_mean 62 = .ok (.ladd, 1) := by decide +kernel
theorem dX8_mean_63 : decode cX8_mean 63 = .ok (.lstore_n 3, 1) := by decide +kernel
theorem dX8_mean_64 : decode cX8_mean 64 = .ok (.iinc 5 1, 3) := by decide +kernel
theorem dX8_mean_67 : decode cX8_mean 67 = .ok (.goto (-41), 3) := by decide +kernel
theorem dX8_mean_70 : decode cX8_mean 70 = .ok (.lload_n 3, 1) := by decide +kernel
theorem dX8_mean_71 : decode cX8_mean 71 = .ok (.aload_n 0, 1) := by decide +kernel
theorem dX8_mean_72 : decode cX8_mean 72 = .ok (.getfield 19, 3) := by decide +kernel
theorem dX8_mean_75 : decode cX8_mean 75 = .ok (.invokevirtual 285, 3) := by decide +kernel
theorem dX8_mean_78 : decode cX8_mean 78 = .ok (.iload_n 2, 1) := by decide +kernel
theorem dX8_mean_79 : decode cX8_mean 79 = .ok (.invokestatic 289, 3) := by decide +kernel
theorem dX8_mean_82 : decode cX8_mean 82 = .ok (.lreturn, 1) := by decide +kernel
theorem dX8_see_0 : decode cX8_see 0 = .ok (.aload_n 0, 1) := by decide +kernel
theorem dX8_see_1 : decode cX8_see 1 = .ok (.getfield 19, 3) := by decide +kernel
theorem dX8_see_4 : decode cX8_see 4 = .ok (.iload_n 1, 1) := by decide +kernel
theorem dX8_see_5 : decode cX8_see 5 = .ok (.invokevirtual 169, 3) := by decide +kernel
theorem dX8_see_8 : decode cX8_see 8 = .ok (.ifnull 17, 3) := by decide +kernel
theorem dX8_see_11 : decode cX8_see 11 = .ok (.iload_n 2, 1) := by decide +kernel
theorem dX8_see_12 : decode cX8_see 12 = .ok (.invokestatic 182, 3) := by decide +kernel
theorem dX8_see_15 : decode cX8_see 15 = .ok (.ifCond .eq 10, 3) := by decide +kernel
theorem dX8_see_18 : decode cX8_see 18 = .ok (.iload_n 3, 1) := by decide +kernel
theorem dX8_see_19 : decode cX8_see 19 = .ok (.invokestatic 205, 3) := by decide +kernel
theorem dX8_see_22 : decode cX8_see 22 = .ok (.ifCond .ne 5, 3) := by decide +kernel
theorem dX8_see_25 : decode cX8_see 25 = .ok (.iconst (-1), 1) := by decide +kernel
theorem dX8_see_26 : decode cX8_see 26 = .ok (.ireturn, 1) := by decide +kernel
theorem dX8_see_27 : decode cX8_see 27 = .ok (.aload_n 0, 1) := by decide +kernel
theorem dX8_see_28 : decode cX8_see 28 = .ok (.getfield 37, 3) := by decide +kernel
theorem dX8_see_31 : decode cX8_see 31 = .ok (.iload_n 1, 1) := by decide +kernel
theorem dX8_see_32 : decode cX8_see 32 = .ok (.iload_n 2, 1) := by decide +kernel
theorem dX8_see_33 : decode cX8_see 33 = .ok (.iload_n 3, 1) := by decide +kernel
theorem dX8_see_34 : decode cX8_see 34 = .ok (.iload 4, 2) := by decide +kernel
theorem dX8_see_36 : decode cX8_see 36 = .ok (.invokevirtual 293, 3) := by decide +kernel
theorem dX8_see_39 : decode cX8_see 39 = .ok (.ifCond .eq 13, 3) := by decide +kernel
theorem dX8_see_42 : decode cX8_see 42 = .ok (.aload_n 0, 1) := by decide +kernel
theorem dX8_see_43 : decode cX8_see 43 = .ok (.getfield 37, 3) := by decide +kernel
theorem dX8_see_46 : decode cX8_see 46 = .ok (.getfield 101, 3) := by decide +kernel
theorem dX8_see_49 : decode cX8_see 49 = .ok (.goto 5, 3) := by decide +kernel
theorem dX8_see_52 : decode cX8_see 52 = .ok (.bipush (-3), 2) := by decide +kernel
theorem dX8_see_54 : decode cX8_see 54 = .ok (.ireturn, 1) := by decide +kernel
theorem dX8_forget_0 : decode cX8_forget 0 = .ok (.iload_n 1, 1) := by decide +kernel
theorem dX8_forget_1 : decode cX8_forget 1 = .ok (.iconst 0, 1) := by decide +kernel
theorem dX8_forget_2 : decode cX8_forget 2 = .ok (.aload_n 0, 1) := by decide +kernel
theorem dX8_forget_3 : decode cX8_forget 3 = .ok (.getfield 37, 3) := by decide +kernel
theorem dX8_forget_6 : decode cX8_forget 6 = .ok (.getfield 101, 3) := by decide +kernel
theorem dX8_forget_9 : decode cX8_forget 9 = .ok (.invokestatic 70, 3) := by decide +kernel
theorem dX8_forget_12 : decode cX8_forget 12 = .ok (.ifCond .ne 5, 3) := by decide +kernel
theorem dX8_forget_15 : decode cX8_forget 15 = .ok (.iconst (-1), 1) := by decide +kernel
theorem dX8_forget_16 : decode cX8_forget 16 = .ok (.ireturn, 1) := by decide +kernel
theorem dX8_forget_17 : decode cX8_forget 17 = .ok (.aload_n 0, 1) := by decide +kernel
theorem dX8_forget_18 : decode cX8_forget 18 = .ok (.getfield 37, 3) := by decide +kernel
theorem dX8_forget_21 : decode cX8_forget 21 = .ok (.getfield 101, 3) := by decide +kernel
theorem dX8_forget_24 : decode cX8_forget 24 = .ok (.istore_n 2, 1) := by decide +kernel
theorem dX8_forget_25 : decode cX8_forget 25 = .ok (.aload_n 0, 1) := by decide +kernel
theorem dX8_forget_26 : decode cX8_forget 26 = .ok (.getfield 37, 3) := by decide +kernel
theorem dX8_forget_29 : decode cX8_forget 29 = .ok (.iload_n 1, 1) := by decide +kernel
theorem dX8_forget_30 : decode cX8_forget 30 = .ok (.putfield 101, 3) := by decide +kernel
theorem dX8_forget_33 : decode cX8_forget 33 = .ok (.iload_n 2, 1) := by decide +kernel
theorem dX8_forget_34 : decode cX8_forget 34 = .ok (.ireturn, 1) := by decide +kernel
theorem dX8_kinds_0 : decode cX8_kinds 0 = .ok (.aload_n 0, 1) := by decide +kernel
theorem dX8_kinds_1 : decode cX8_kinds 1 = .ok (.getfield 19, 3) := by decide +kernel
theorem dX8_kinds_4 : decode cX8_kinds 4 = .ok (.iload_n 1, 1) := by decide +kernel
theorem dX8_kinds_5 : decode cX8_kinds 5 = .ok (.invokevirtual 126, 3) := by decide +kernel
theorem dX8_kinds_8 : decode cX8_kinds 8 = .ok (.ifnonnull 7, 3) := by decide +kernel
theorem dX8_kinds_11 : decode cX8_kinds 11 = .ok (.iconst (-1), 1) := by decide +kernel
theorem dX8_kinds_12 : decode cX8_kinds 12 = .ok (.goto 8, 3) := by decide +kernel
theorem dX8_kinds_15 : decode cX8_kinds 15 = .ok (.aload_n 0, 1) := by decide +kernel
theorem dX8_kinds_16 : decode cX8_kinds 16 = .ok (.iload_n 1, 1) := by decide +kernel
theorem dX8_kinds_17 : decode cX8_kinds 17 = .ok (.invokevirtual 297, 3) := by decide +kernel
theorem dX8_kinds_20 : decode cX8_kinds 20 = .ok (.ireturn, 1) := by decide +kernel
theorem dX8_news_0 : decode cX8_news 0 = .ok (.aload_n 0, 1) := by decide +kernel
theorem dX8_news_1 : decode cX8_news 1 = .ok (.getfield 23, 3) := by decide +kernel
theorem dX8_news_4 : decode cX8_news 4 = .ok (.aload_n 0, 1) := by decide +kernel
theorem dX8_news_5 : decode cX8_news 5 = .ok (.getfield 19, 3) := by decide +kernel
theorem dX8_news_8 : decode cX8_news 8 = .ok (.invokevirtual 97, 3) := by decide +kernel
theorem dX8_news_11 : decode cX8_news 11 = .ok (.aload_n 0, 1) := by decide +kernel
theorem dX8_news_12 : decode cX8_news 12 = .ok (.getfield 23, 3) := by decide +kernel
theorem dX8_news_15 : decode cX8_news 15 = .ok (.iload_n 1, 1) := by decide +kernel
theorem dX8_news_16 : decode cX8_news 16 = .ok (.invokevirtual 126, 3) := by decide +kernel
theorem dX8_news_19 : decode cX8_news 19 = .ok (.astore_n 2, 1) := by decide +kernel
theorem dX8_news_20 : decode cX8_news 20 = .ok (.aload_n 2, 1) := by decide +kernel
theorem dX8_news_21 : decode cX8_news 21 = .ok (.ifnonnull 5, 3) := by decide +kernel
theorem dX8_news_24 : decode cX8_news 24 = .ok (.iconst (-1), 1) := by decide +kernel
theorem dX8_news_25 : decode cX8_news 25 = .ok (.ireturn, 1) := by decide +kernel
theorem dX8_news_26 : decode cX8_news 26 = .ok (.iconst 0, 1) := by decide +kernel
theorem dX8_news_27 : decode cX8_news 27 = .ok (.istore_n 3, 1) := by decide +kernel
theorem dX8_news_28 : decode cX8_news 28 = .ok (.iconst 0, 1) := by decide +kernel
theorem dX8_news_29 : decode cX8_news 29 = .ok (.istore 4, 2) := by decide +kernel
theorem dX8_news_31 : decode cX8_news 31 = .ok (.iload 4, 2) := by decide +kernel
theorem dX8_news_33 : decode cX8_news 33 = .ok (.bipush 10, 2) := by decide +kernel
theorem dX8_news_35 : decode cX8_news 35 = .ok (.if_icmp .ge 36, 3) := by decide +kernel
theorem dX8_news_38 : decode cX8_news 38 = .ok (.aload_n 2, 1) := by decide +kernel
theorem dX8_news_39 : decode cX8_news 39 = .ok (.iload 4, 2) := by decide +kernel
theorem dX8_news_41 : decode cX8_news 41 = .ok (.putfield 135, 3) := by decide +kernel
theorem dX8_news_44 : decode cX8_news 44 = .ok (.aload_n 0, 1) := by decide +kernel
theorem dX8_news_45 : decode cX8_news 45 = .ok (.getfield 37, 3) := by decide +kernel
theorem dX8_news_48 : decode cX8_news 48 = .ok (.aload_n 0, 1) := by decide +kernel
theorem dX8_news_49 : decode cX8_news 49 = .ok (.getfield 23, 3) := by decide +kernel
theorem dX8_news_52 : decode cX8_news 52 = .ok (.invokevirtual 300, 3) := by decide +kernel
theorem dX8_news_55 : decode cX8_news 55 = .ok (.ifCond .eq 10, 3) := by decide +kernel
theorem dX8_news_58 : decode cX8_news 58 = .ok (.iload_n 3, 1) := by decide +kernel
theorem dX8_news_59 : decode cX8_news 59 = .ok (.iconst 1, 1) := by decide +kernel
theorem dX8_news_60 : decode cX8_news 60 = .ok (.iload 4, 2) := by decide +kernel
theorem dX8_news_62 : decode cX8_news 62 = .ok (.ishl, 1) := by decide +kernel
theorem dX8_news_63 : decode cX8_news 63 = .ok (.ior, 1) := by decide +kernel
theorem dX8_news_64 : decode cX8_news 64 = .ok (.istore_n 3, 1) := by decide +kernel
theorem dX8_news_65 : decode cX8_news 65 = .ok (.iinc 4 1, 3) := by decide +kernel
theorem dX8_news_68 : decode cX8_news 68 = .ok (.goto (-37), 3) := by decide +kernel
theorem dX8_news_71 : decode cX8_news 71 = .ok (.iload_n 3, 1) := by decide +kernel
theorem dX8_news_72 : decode cX8_news 72 = .ok (.ireturn, 1) := by decide +kernel
theorem dX8_ask_0 : decode cX8_ask 0 = .ok (.aload_n 0, 1) := by decide +kernel
theorem dX8_ask_1 : decode cX8_ask 1 = .ok (.getfield 19, 3) := by decide +kernel
theorem dX8_ask_4 : decode cX8_ask 4 = .ok (.iload_n 1, 1) := by decide +kernel
theorem dX8_ask_5 : decode cX8_ask 5 = .ok (.invokevirtual 126, 3) := by decide +kernel
theorem dX8_ask_8 : decode cX8_ask 8 = .ok (.ifnull 10, 3) := by decide +kernel
theorem dX8_ask_11 : decode cX8_ask 11 = .ok (.iload_n 2, 1) := by decide +kernel
theorem dX8_ask_12 : decode cX8_ask 12 = .ok (.invokestatic 160, 3) := by decide +kernel
theorem dX8_ask_15 : decode cX8_ask 15 = .ok (.ifCond .ne 5, 3) := by decide +kernel
theorem dX8_ask_18 : decode cX8_ask 18 = .ok (.iconst (-1), 1) := by decide +kernel
theorem dX8_ask_19 : decode cX8_ask 19 = .ok (.ireturn, 1) := by decide +kernel
theorem dX8_ask_20 : decode cX8_ask 20 = .ok (.aload_n 0, 1) := by decide +kernel
theorem dX8_ask_21 : decode cX8_ask 21 = .ok (.iload_n 1, 1) := by decide +kernel
theorem dX8_ask_22 : decode cX8_ask 22 = .ok (.invokevirtual 297, 3) := by decide +kernel
theorem dX8_ask_25 : decode cX8_ask 25 = .ok (.istore_n 3, 1) := by decide +kernel
theorem dX8_ask_26 : decode cX8_ask 26 = .ok (.iload_n 3, 1) := by decide +kernel
theorem dX8_ask_27 : decode cX8_ask 27 = .ok (.invokestatic 251, 3) := by decide +kernel
theorem dX8_ask_30 : decode cX8_ask 30 = .ok (.istore 4, 2) := by decide +kernel
theorem dX8_ask_32 : decode cX8_ask 32 = .ok (.aload_n 0, 1) := by decide +kernel
theorem dX8_ask_33 : decode cX8_ask 33 = .ok (.getfield 57, 3) := by decide +kernel
theorem dX8_ask_36 : decode cX8_ask 36 = .ok (.iload 4, 2) := by decide +kernel
theorem dX8_ask_38 : decode cX8_ask 38 = .ok (.ineg, 1) := by decide +kernel
theorem dX8_ask_39 : decode cX8_ask 39 = .ok (.invokevirtual 246, 3) := by decide +kernel
theorem dX8_ask_42 : decode cX8_ask 42 = .ok (.iconst 0, 1) := by decide +kernel
theorem dX8_ask_43 : decode cX8_ask 43 = .ok (.istore 5, 2) := by decide +kernel
theorem dX8_ask_45 : decode cX8_ask 45 = .ok (.iload 5, 2) := by decide +kernel
theorem dX8_ask_47 : decode cX8_ask 47 = .ok (.aload_n 0, 1) := by decide +kernel
theorem dX8_ask_48 : decode cX8_ask 48 = .ok (.getfield 19, 3) := by decide +kernel
theorem dX8_ask_51 : decode cX8_ask 51 = .ok (.getfield 113, 3) := by decide +kernel
theorem dX8_ask_54 : decode cX8_ask 54 = .ok (.if_icmp .ge 67, 3) := by decide +kernel
theorem dX8_ask_57 : decode cX8_ask 57 = .ok (.aload_n 0, 1) := by decide +kernel
theorem dX8_ask_58 : decode cX8_ask 58 = .ok (.iload_n 1, 1) := by decide +kernel
theorem dX8_ask_59 : decode cX8_ask 59 = .ok (.iload 5, 2) := by decide +kernel
theorem dX8_ask_61 : decode cX8_ask 61 = .ok (.invokevirtual 304, 3) := by decide +kernel
theorem dX8_ask_64 : decode cX8_ask 64 = .ok (.iconst 0, 1) := by decide +kernel
theorem dX8_ask_65 : decode cX8_ask 65 = .ok (.istore 6, 2) := by decide +kernel
theorem dX8_ask_67 : decode cX8_ask 67 = .ok (.iload 6, 2) := by decide +kernel
theorem dX8_ask_69 : decode cX8_ask 69 = .ok (.bipush 60, 2) := by decide +kernel
theorem dX8_ask_71 : decode cX8_ask 71 = .ok (.if_icmp .ge 44, 3) := by decide +kernel
theorem dX8_ask_74 : decode cX8_ask 74 = .ok (.aload_n 0, 1) := by decide +kernel
theorem dX8_ask_75 : decode cX8_ask 75 = .ok (.iload_n 3, 1) := by decide +kernel
theorem dX8_ask_76 : decode cX8_ask 76 = .ok (.iload 6, 2) := by decide +kernel
theorem dX8_ask_78 : decode cX8_ask 78 = .ok (.invokevirtual 307, 3) := by decide +kernel
theorem dX8_ask_81 : decode cX8_ask 81 = .ok (.istore 7, 2) := by decide +kernel
theorem dX8_ask_83 : decode cX8_ask 83 = .ok (.aload_n 0, 1) := by decide +kernel
theorem dX8_ask_84 : decode cX8_ask 84 = .ok (.getfield 57, 3) := by decide +kernel
theorem dX8_ask_87 : decode cX8_ask 87 = .ok (.bipush 100, 2) := by decide +kernel
theorem dX8_ask_89 : decode cX8_ask 89 = .ok (.iload 5, 2) := by decide +kernel
theorem dX8_ask_91 : decode cX8_ask 91 = .ok (.imul, 1) := by decide +kernel
theorem dX8_ask_92 : decode cX8_ask 92 = .ok (.iload 6, 2) := by decide +kernel
theorem dX8_ask_94 : decode cX8_ask 94 = .ok (.iadd, 1) := by decide +kernel
theorem dX8_ask_95 : decode cX8_ask 95 = .ok (.iload 7, 2) := by decide +kernel
theorem dX8_ask_97 : decode cX8_ask 97 = .ok (.iload 4, 2) := by decide +kernel
theorem dX8_ask_99 : decode cX8_ask 99 = .ok (.iload 7, 2) := by decide +kernel
theorem dX8_ask_101 : decode cX8_ask 101 = .ok (.isub, 1) := by decide +kernel
theorem dX8_ask_102 : decode cX8_ask 102 = .ok (.invokestatic 310, 3) := by decide +kernel
theorem dX8_ask_105 : decode cX8_ask 105 = .ok (.ineg, 1) := by decide +kernel
theorem dX8_ask_106 : decode cX8_ask 106 = .ok (.invokevirtual 255, 3) := by decide +kernel
theorem dX8_ask_109 : decode cX8_ask 109 = .ok (.iinc 6 1, 3) := by decide +kernel
theorem dX8_ask_112 : decode cX8_ask 112 = .ok (.goto (-45), 3) := by decide +kernel
theorem dX8_ask_115 : decode cX8_ask 115 = .ok (.iinc 5 1, 3) := by decide +kernel
theorem dX8_ask_118 : decode cX8_ask 118 = .ok (.goto (-73), 3) := by decide +kernel
theorem dX8_ask_121 : decode cX8_ask 121 = .ok (.aload_n 0, 1) := by decide +kernel
theorem dX8_ask_122 : decode cX8_ask 122 = .ok (.getfield 57, 3) := by decide +kernel
theorem dX8_ask_125 : decode cX8_ask 125 = .ok (.iload_n 2, 1) := by decide +kernel
theorem dX8_ask_126 : decode cX8_ask 126 = .ok (.invokevirtual 277, 3) := by decide +kernel
theorem dX8_ask_129 : decode cX8_ask 129 = .ok (.ireturn, 1) := by decide +kernel
theorem dX8_drift_0 : decode cX8_drift 0 = .ok (.iload_n 2, 1) := by decide +kernel
theorem dX8_drift_1 : decode cX8_drift 1 = .ok (.iconst 1, 1) := by decide +kernel
theorem dX8_drift_2 : decode cX8_drift 2 = .ok (.bipush 60, 2) := by decide +kernel
theorem dX8_drift_4 : decode cX8_drift 4 = .ok (.invokestatic 70, 3) := by decide +kernel
theorem dX8_drift_7 : decode cX8_drift 7 = .ok (.ifCond .eq 10, 3) := by decide +kernel
theorem dX8_drift_10 : decode cX8_drift 10 = .ok (.iload_n 3, 1) := by decide +kernel
theorem dX8_drift_11 : decode cX8_drift 11 = .ok (.invokestatic 160, 3) := by decide +kernel
theorem dX8_drift_14 : decode cX8_drift 14 = .ok (.ifCond .ne 5, 3) := by decide +kernel
theorem dX8_drift_17 : decode cX8_drift 17 = .ok (.iconst (-1), 1) := by decide +kernel
theorem dX8_drift_18 : decode cX8_drift 18 = .ok (.ireturn, 1) := by decide +kernel
theorem dX8_drift_19 : decode cX8_drift 19 = .ok (.aload_n 0, 1) := by decide +kernel
theorem dX8_drift_20 : decode cX8_drift 20 = .ok (.getfield 19, 3) := by decide +kernel
theorem dX8_drift_23 : decode cX8_drift 23 = .ok (.getfield 107, 3) := by decide +kernel
theorem dX8_drift_26 : decode cX8_drift 26 = .ok (.iconst 1, 1) := by decide +kernel
theorem dX8_drift_27 : decode cX8_drift 27 = .ok (.if_icmp .ge 6, 3) := by decide +kernel
theorem dX8_drift_30 : decode cX8_drift 30 = .ok (.bipush (-2), 2) := by decide +kernel
theorem dX8_drift_32 : decode cX8_drift 32 = .ok (.ireturn, 1) := by decide +kernel
theorem dX8_drift_33 : decode cX8_drift 33 = .ok (.aload_n 0, 1) := by decide +kernel
theorem dX8_drift_34 : decode cX8_drift 34 = .ok (.getfield 23, 3) := by decide +kernel
theorem dX8_drift_37 : decode cX8_drift 37 = .ok (.aload_n 0, 1) := by decide +kernel
theorem dX8_drift_38 : decode cX8_drift 38 = .ok (.getfield 19, 3) := by decide +kernel
theorem dX8_drift_41 : decode cX8_drift 41 = .ok (.invokevirtual 97, 3) := by decide +kernel
theorem dX8_drift_44 : decode cX8_drift 44 = .ok (.iconst 0, 1) := by decide +kernel
theorem dX8_drift_45 : decode cX8_drift 45 = .ok (.istore 4, 2) := by decide +kernel
theorem dX8_drift_47 : decode cX8_drift 47 = .ok (.iconst 0, 1) := by decide +kernel
theorem dX8_drift_48 : decode cX8_drift 48 = .ok (.istore 5, 2) := by decide +kernel
theorem dX8_drift_50 : decode cX8_drift 50 = .ok (.iconst 0, 1) := by decide +kernel
theorem dX8_drift_51 : decode cX8_drift 51 = .ok (.istore 6, 2) := by decide +kernel
theorem dX8_drift_53 : decode cX8_drift 53 = .ok (.iload 6, 2) := by decide +kernel
theorem dX8_drift_55 : decode cX8_drift 55 = .ok (.iload_n 2, 1) := by decide +kernel
theorem dX8_drift_56 : decode cX8_drift 56 = .ok (.if_icmp .ge 52, 3) := by decide +kernel
theorem dX8_drift_59 : decode cX8_drift 59 = .ok (.iload_n 1, 1) := by decide +kernel
theorem dX8_drift_60 : decode cX8_drift 60 = .ok (.ldc_w 313, 3) := by decide +kernel
theorem dX8_drift_63 : decode cX8_drift 63 = .ok (.imul, 1) := by decide +kernel
theorem dX8_drift_64 : decode cX8_drift 64 = .ok (.sipush 12345, 3) := by decide +kernel
theorem dX8_drift_67 : decode cX8_drift 67 = .ok (.iadd, 1) := by decide +kernel
theorem dX8_drift_68 : decode cX8_drift 68 = .ok (.istore_n 1, 1) := by decide +kernel
theorem dX8_drift_69 : decode cX8_drift 69 = .ok (.aload_n 0, 1) := by decide +kernel
theorem dX8_drift_70 : decode cX8_drift 70 = .ok (.getfield 23, 3) := by decide +kernel
theorem dX8_drift_73 : decode cX8_drift 73 = .ok (.iload_n 1, 1) := by decide +kernel
theorem dX8_drift_74 : decode cX8_drift 74 = .ok (.bipush 16, 2) := by decide +kernel
theorem dX8_drift_76 : decode cX8_drift 76 = .ok (.iushr, 1) := by decide +kernel
theorem dX8_drift_77 : decode cX8_drift 77 = .ok (.sipush 32767, 3) := by decide +kernel
theorem dX8_drift_80 : decode cX8_drift 80 = .ok (.iand, 1) := by decide +kernel
theorem dX8_drift_81 : decode cX8_drift 81 = .ok (.invokevirtual 314, 3) := by decide +kernel
theorem dX8_drift_84 : decode cX8_drift 84 = .ok (.aload_n 0, 1) := by decide +kernel
theorem dX8_drift_85 : decode cX8_drift 85 = .ok (.getfield 23, 3) := by decide +kernel
theorem dX8_drift_88 : decode cX8_drift 88 = .ok (.bipush 15, 2) := by decide +kernel
theorem dX8_drift_90 : decode cX8_drift 90 = .ok (.invokevirtual 122, 3) := by decide +kernel
theorem dX8_drift_93 : decode cX8_drift 93 = .ok (.istore 5, 2) := by decide +kernel
theorem dX8_drift_95 : decode cX8_drift 95 = .ok (.iload 4, 2) := by decide +kernel
theorem dX8_drift_97 : decode cX8_drift 97 = .ok (.iload 5, 2) := by decide +kernel
theorem dX8_drift_99 : decode cX8_drift 99 = .ok (.iadd, 1) := by decide +kernel
theorem dX8_drift_100 : decode cX8_drift 100 = .ok (.istore 4, 2) := by decide +kernel
theorem dX8_drift_102 : decode cX8_drift 102 = .ok (.iinc 6 1, 3) := by decide +kernel
theorem dX8_drift_105 : decode cX8_drift 105 = .ok (.goto (-52), 3) := by decide +kernel
theorem dX8_drift_108 : decode cX8_drift 108 = .ok (.iload_n 3, 1) := by decide +kernel
theorem dX8_drift_109 : decode cX8_drift 109 = .ok (.ifCond .ne 8, 3) := by decide +kernel
theorem dX8_drift_112 : decode cX8_drift 112 = .ok (.iload 4, 2) := by decide +kernel
theorem dX8_drift_114 : decode cX8_drift 114 = .ok (.goto 5, 3) := by decide +kernel
theorem dX8_drift_117 : decode cX8_drift 117 = .ok (.iload 5, 2) := by decide +kernel
theorem dX8_drift_119 : decode cX8_drift 119 = .ok (.ireturn, 1) := by decide +kernel
theorem dX8_keep_0 : decode cX8_keep 0 = .ok (.iload_n 1, 1) := by decide +kernel
theorem dX8_keep_1 : decode cX8_keep 1 = .ok (.iconst 0, 1) := by decide +kernel
theorem dX8_keep_2 : decode cX8_keep 2 = .ok (.iconst 1, 1) := by decide +kernel
theorem dX8_keep_3 : decode cX8_keep 3 = .ok (.invokestatic 70, 3) := by decide +kernel
theorem dX8_keep_6 : decode cX8_keep 6 = .ok (.ifCond .ne 5, 3) := by decide +kernel
theorem dX8_keep_9 : decode cX8_keep 9 = .ok (.iconst (-1), 1) := by decide +kernel
theorem dX8_keep_10 : decode cX8_keep 10 = .ok (.ireturn, 1) := by decide +kernel
theorem dX8_keep_11 : decode cX8_keep 11 = .ok (.aload_n 0, 1) := by decide +kernel
theorem dX8_keep_12 : decode cX8_keep 12 = .ok (.getfield 30, 3) := by decide +kernel
theorem dX8_keep_15 : decode cX8_keep 15 = .ok (.iload_n 1, 1) := by decide +kernel
theorem dX8_keep_16 : decode cX8_keep 16 = .ok (.baload, 1) := by decide +kernel
theorem dX8_keep_17 : decode cX8_keep 17 = .ok (.ifCond .eq 7, 3) := by decide +kernel
theorem dX8_keep_20 : decode cX8_keep 20 = .ok (.iconst 1, 1) := by decide +kernel
theorem dX8_keep_21 : decode cX8_keep 21 = .ok (.goto 4, 3) := by decide +kernel
theorem dX8_keep_24 : decode cX8_keep 24 = .ok (.iconst 0, 1) := by decide +kernel
theorem dX8_keep_25 : decode cX8_keep 25 = .ok (.istore_n 2, 1) := by decide +kernel
theorem dX8_keep_26 : decode cX8_keep 26 = .ok (.aload_n 0, 1) := by decide +kernel
theorem dX8_keep_27 : decode cX8_keep 27 = .ok (.getfield 26, 3) := by decide +kernel
theorem dX8_keep_30 : decode cX8_keep 30 = .ok (.iload_n 1, 1) := by decide +kernel
theorem dX8_keep_31 : decode cX8_keep 31 = .ok (.aaload, 1) := by decide +kernel
theorem dX8_keep_32 : decode cX8_keep 32 = .ok (.aload_n 0, 1) := by decide +kernel
theorem dX8_keep_33 : decode cX8_keep 33 = .ok (.getfield 19, 3) := by decide +kernel
theorem dX8_keep_36 : decode cX8_keep 36 = .ok (.invokevirtual 97, 3) := by decide +kernel
theorem dX8_keep_39 : decode cX8_keep 39 = .ok (.aload_n 0, 1) := by decide +kernel
theorem dX8_keep_40 : decode cX8_keep 40 = .ok (.getfield 30, 3) := by decide +kernel
theorem dX8_keep_43 : decode cX8_keep 43 = .ok (.iload_n 1, 1) := by decide +kernel
theorem dX8_keep_44 : decode cX8_keep 44 = .ok (.iconst 1, 1) := by decide +kernel
theorem dX8_keep_45 : decode cX8_keep 45 = .ok (.bastore, 1) := by decide +kernel
theorem dX8_keep_46 : decode cX8_keep 46 = .ok (.iload_n 2, 1) := by decide +kernel
theorem dX8_keep_47 : decode cX8_keep 47 = .ok (.ireturn, 1) := by decide +kernel
theorem dX8_back_0 : decode cX8_back 0 = .ok (.iload_n 1, 1) := by decide +kernel
theorem dX8_back_1 : decode cX8_back 1 = .ok (.iconst 0, 1) := by decide +kernel
theorem dX8_back_2 : decode cX8_back 2 = .ok (.iconst 1, 1) := by decide +kernel
theorem dX8_back_3 : decode cX8_back 3 = .ok (.invokestatic 70, 3) := by decide +kernel
theorem dX8_back_6 : decode cX8_back 6 = .ok (.ifCond .ne 5, 3) := by decide +kernel
theorem dX8_back_9 : decode cX8_back 9 = .ok (.iconst (-1), 1) := by decide +kernel
theorem dX8_back_10 : decode cX8_back 10 = .ok (.ireturn, 1) := by decide +kernel
theorem dX8_back_11 : decode cX8_back 11 = .ok (.aload_n 0, 1) := by decide +kernel
theorem dX8_back_12 : decode cX8_back 12 = .ok (.getfield 30, 3) := by decide +kernel
theorem dX8_back_15 : decode cX8_back 15 = .ok (.iload_n 1, 1) := by decide +kernel
theorem dX8_back_16 : decode cX8_back 16 = .ok (.baload, 1) := by decide +kernel
theorem dX8_back_17 : decode cX8_back 17 = .ok (.ifCond .ne 6, 3) := by decide +kernel
theorem dX8_back_20 : decode cX8_back 20 = .ok (.bipush (-2), 2) := by decide +kernel
theorem dX8_back_22 : decode cX8_back 22 = .ok (.ireturn, 1) := by decide +kernel
theorem dX8_back_23 : decode cX8_back 23 = .ok (.aload_n 0, 1) := by decide +kernel
theorem dX8_back_24 : decode cX8_back 24 = .ok (.getfield 19, 3) := by decide +kernel
theorem dX8_back_27 : decode cX8_back 27 = .ok (.aload_n 0, 1) := by decide +kernel
theorem dX8_back_28 : decode cX8_back 28 = .ok (.getfield 26, 3) := by decide +kernel
theorem dX8_back_31 : decode cX8_back 31 = .ok (.iload_n 1, 1) := by decide +kernel
theorem dX8_back_32 : decode cX8_back 32 = .ok (.aaload, 1) := by decide +kernel
theorem dX8_back_33 : decode cX8_back 33 = .ok (.invokevirtual 97, 3) := by decide +kernel
theorem dX8_back_36 : decode cX8_back 36 = .ok (.aload_n 0, 1) := by decide +kernel
theorem dX8_back_37 : decode cX8_back 37 = .ok (.getfield 19, 3) := by decide +kernel
theorem dX8_back_40 : decode cX8_back 40 = .ok (.bipush 15, 2) := by decide +kernel
theorem dX8_back_42 : decode cX8_back 42 = .ok (.invokevirtual 122, 3) := by decide +kernel
theorem dX8_back_45 : decode cX8_back 45 = .ok (.ireturn, 1) := by decide +kernel
theorem dX8_sheet_0 : decode cX8_sheet 0 = .ok (.iload_n 1, 1) := by decide +kernel
theorem dX8_sheet_1 : decode cX8_sheet 1 = .ok (.invokestatic 317, 3) := by decide +kernel
theorem dX8_sheet_4 : decode cX8_sheet 4 = .ok (.ifCond .eq 16, 3) := by decide +kernel
theorem dX8_sheet_7 : decode cX8_sheet 7 = .ok (.iload_n 2, 1) := by decide +kernel
theorem dX8_sheet_8 : decode cX8_sheet 8 = .ok (.invokestatic 320, 3) := by decide +kernel
theorem dX8_sheet_11 : decode cX8_sheet 11 = .ok (.ifCond .eq 9, 3) := by decide +kernel
theorem dX8_sheet_14 : decode cX8_sheet 14 = .ok (.iload_n 3, 1) := by decide +kernel
theorem dX8_sheet_15 : decode cX8_sheet 15 = .ok (.bipush 40, 2) := by decide +kernel
theorem dX8_sheet_17 : decode cX8_sheet 17 = .ok (.if_icmp .le 5, 3) := by decide +kernel
theorem dX8_sheet_20 : decode cX8_sheet 20 = .ok (.iconst (-1), 1) := by decide +kernel
theorem dX8_sheet_21 : decode cX8_sheet 21 = .ok (.ireturn, 1) := by decide +kernel
theorem dX8_sheet_22 : decode cX8_sheet 22 = .ok (.iload_n 3, 1) := by decide +kernel
theorem dX8_sheet_23 : decode cX8_sheet 23 = .ok (.ifCond .ge 6, 3) := by decide +kernel
theorem dX8_sheet_26 : decode cX8_sheet 26 = .ok (.bipush (-14), 2) := by decide +kernel
theorem dX8_sheet_28 : decode cX8_sheet 28 = .ok (.ireturn, 1) := by decide +kernel
theorem dX8_sheet_29 : decode cX8_sheet 29 = .ok (.aload_n 0, 1) := by decide +kernel
theorem dX8_sheet_30 : decode cX8_sheet 30 = .ok (.getfield 43, 3) := by decide +kernel
theorem dX8_sheet_33 : decode cX8_sheet 33 = .ok (.iload_n 1, 1) := by decide +kernel
theorem dX8_sheet_34 : decode cX8_sheet 34 = .ok (.aaload, 1) := by decide +kernel
theorem dX8_sheet_35 : decode cX8_sheet 35 = .ok (.iload_n 2, 1) := by decide +kernel
theorem dX8_sheet_36 : decode cX8_sheet 36 = .ok (.iload_n 3, 1) := by decide +kernel
theorem dX8_sheet_37 : decode cX8_sheet 37 = .ok (.invokevirtual 323, 3) := by decide +kernel
theorem dX8_sheet_40 : decode cX8_sheet 40 = .ok (.iconst 1, 1) := by decide +kernel
theorem dX8_sheet_41 : decode cX8_sheet 41 = .ok (.ireturn, 1) := by decide +kernel
theorem dX8_lay_0 : decode cX8_lay 0 = .ok (.iload_n 1, 1) := by decide +kernel
theorem dX8_lay_1 : decode cX8_lay 1 = .ok (.invokestatic 317, 3) := by decide +kernel
theorem dX8_lay_4 : decode cX8_lay 4 = .ok (.ifCond .ne 5, 3) := by decide +kernel
theorem dX8_lay_7 : decode cX8_lay 7 = .ok (.iconst (-1), 1) := by decide +kernel
theorem dX8_lay_8 : decode cX8_lay 8 = .ok (.ireturn, 1) := by decide +kernel
theorem dX8_lay_9 : decode cX8_lay 9 = .ok (.aload_n 0, 1) := by decide +kernel
theorem dX8_lay_10 : decode cX8_lay 10 = .ok (.getfield 43, 3) := by decide +kernel
theorem dX8_lay_13 : decode cX8_lay 13 = .ok (.iload_n 1, 1) := by decide +kernel
theorem dX8_lay_14 : decode cX8_lay 14 = .ok (.aaload, 1) := by decide +kernel
theorem dX8_lay_15 : decode cX8_lay 15 = .ok (.astore 4, 2) := by decide +kernel
theorem dX8_lay_17 : decode cX8_lay 17 = .ok (.aload 4, 2) := by decide +kernel
theorem dX8_lay_19 : decode cX8_lay 19 = .ok (.aload 4, 2) := by decide +kernel
theorem dX8_lay_21 : decode cX8_lay 21 = .ok (.getfield 326, 3) := by decide +kernel
theorem dX8_lay_24 : decode cX8_lay 24 = .ok (.iload_n 2, 1) := by decide +kernel
theorem dX8_lay_25 : decode cX8_lay 25 = .ok (.invokevirtual 329, 3) := by decide +kernel
theorem dX8_lay_28 : decode cX8_lay 28 = .ok (.istore 5, 2) := by decide +kernel
theorem dX8_lay_30 : decode cX8_lay 30 = .ok (.iload 5, 2) := by decide +kernel
theorem dX8_lay_32 : decode cX8_lay 32 = .ok (.ifCond .eq 9, 3) := by decide +kernel
theorem dX8_lay_35 : decode cX8_lay 35 = .ok (.bipush (-10), 2) := by decide +kernel
theorem dX8_lay_37 : decode cX8_lay 37 = .ok (.iload 5, 2) := by decide +kernel
theorem dX8_lay_39 : decode cX8_lay 39 = .ok (.isub, 1) := by decide +kernel
theorem dX8_lay_40 : decode cX8_lay 40 = .ok (.ireturn, 1) := by decide +kernel
theorem dX8_lay_41 : decode cX8_lay 41 = .ok (.aload 4, 2) := by decide +kernel
theorem dX8_lay_43 : decode cX8_lay 43 = .ok (.iload_n 2, 1) := by decide +kernel
theorem dX8_lay_44 : decode cX8_lay 44 = .ok (.iload_n 3, 1) := by decide +kernel
theorem dX8_lay_45 : decode cX8_lay 45 = .ok (.invokevirtual 332, 3) := by decide +kernel
theorem dX8_lay_48 : decode cX8_lay 48 = .ok (.iconst 1, 1) := by decide +kernel
theorem dX8_lay_49 : decode cX8_lay 49 = .ok (.ireturn, 1) := by decide +kernel
theorem dX8_read_0 : decode cX8_read 0 = .ok (.iload_n 1, 1) := by decide +kernel
theorem dX8_read_1 : decode cX8_read 1 = .ok (.invokestatic 317, 3) := by decide +kernel
theorem dX8_read_4 : decode cX8_read 4 = .ok (.ifCond .eq 21, 3) := by decide +kernel
theorem dX8_read_7 : decode cX8_read 7 = .ok (.iload_n 2, 1) := by decide +kernel
theorem dX8_read_8 : decode cX8_read 8 = .ok (.invokestatic 320, 3) := by decide +kernel
theorem dX8_read_11 : decode cX8_read 11 = .ok (.ifCond .eq 14, 3) := by decide +kernel
theorem dX8_read_14 : decode cX8_read 14 = .ok (.iload 4, 2) := by decide +kernel
theorem dX8_read_16 : decode cX8_read 16 = .ok (.iconst 0, 1) := by decide +kernel
theorem dX8_read_17 : decode cX8_read 17 = .ok (.bipush 20, 2) := by decide +kernel
theorem dX8_read_19 : decode cX8_read 19 = .ok (.invokestatic 70, 3) := by decide +kernel
theorem dX8_read_22 : decode cX8_read 22 = .ok (.ifCond .ne 5, 3) := by decide +kernel
theorem dX8_read_25 : decode cX8_read 25 = .ok (.iconst (-1), 1) := by decide +kernel
theorem dX8_read_26 : decode cX8_read 26 = .ok (.ireturn, 1) := by decide +kernel
theorem dX8_read_27 : decode cX8_read 27 = .ok (.aload_n 0, 1) := by decide +kernel
theorem dX8_read_28 : decode cX8_read 28 = .ok (.getfield 43, 3) := by decide +kernel
theorem dX8_read_31 : decode cX8_read 31 = .ok (.iload_n 1, 1) := by decide +kernel
theorem dX8_read_32 : decode cX8_read 32 = .ok (.aaload, 1) := by decide +kernel
theorem dX8_read_33 : decode cX8_read 33 = .ok (.astore 5, 2) := by decide +kernel
theorem dX8_read_35 : decode cX8_read 35 = .ok (.iconst 0, 1) := by decide +kernel
theorem dX8_read_36 : decode cX8_read 36 = .ok (.istore 6, 2) := by decide +kernel
theorem dX8_read_38 : decode cX8_read 38 = .ok (.iconst 0, 1) := by decide +kernel
theorem dX8_read_39 : decode cX8_read 39 = .ok (.istore 7, 2) := by decide +kernel
theorem dX8_read_41 : decode cX8_read 41 = .ok (.iconst 0, 1) := by decide +kernel
theorem dX8_read_42 : decode cX8_read 42 = .ok (.istore 8, 2) := by decide +kernel
theorem dX8_read_44 : decode cX8_read 44 = .ok (.iload 8, 2) := by decide +kernel
theorem dX8_read_46 : decode cX8_read 46 = .ok (.iload 4, 2) := by decide +kernel
theorem dX8_read_48 : decode cX8_read 48 = .ok (.if_icmp .ge 62, 3) := by decide +kernel
theorem dX8_read_51 : decode cX8_read 51 = .ok (.iload 6, 2) := by decide +kernel
theorem dX8_read_53 : decode cX8_read 53 = .ok (.ifCond .ne 57, 3) := by decide +kernel
theorem dX8_read_56 : decode cX8_read 56 = .ok (.aload 5, 2) := by decide +kernel
theorem dX8_read_58 : decode cX8_read 58 = .ok (.iload_n 2, 1) := by decide +kernel
theorem dX8_read_59 : decode cX8_read 59 = .ok (.iload_n 3, 1) := by decide +kernel
theorem dX8_read_60 : decode cX8_read 60 = .ok (.iconst 2, 1) := by decide +kernel
theorem dX8_read_61 : decode cX8_read 61 = .ok (.iload 8, 2) := by decide +kernel
theorem dX8_read_63 : decode cX8_read 63 = .ok (.imul, 1) := by decide +kernel
theorem dX8_read_64 : decode cX8_read 64 = .ok (.iadd, 1) := by decide +kernel
theorem dX8_read_65 : decode cX8_read 65 = .ok (.invokevirtual 335, 3) := by decide +kernel
theorem dX8_read_68 : decode cX8_read 68 = .ok (.istore 6, 2) := by decide +kernel
theorem dX8_read_70 : decode cX8_read 70 = .ok (.iload 6, 2) := by decide +kernel
theorem dX8_read_72 : decode cX8_read 72 = .ok (.ifCond .ne 24, 3) := by decide +kernel
theorem dX8_read_75 : decode cX8_read 75 = .ok (.aload_n 0, 1) := by decide +kernel
theorem dX8_read_76 : decode cX8_read 76 = .ok (.aload 5, 2) := by decide +kernel
theorem dX8_read_78 : decode cX8_read 78 = .ok (.iload_n 3, 1) := by decide +kernel
theorem dX8_read_79 : decode cX8_read 79 = .ok (.iconst 2, 1) := by decide +kernel
theorem dX8_read_80 : decode cX8_read 80 = .ok (.iload 8, 2) := by decide +kernel
theorem dX8_read_82 : decode cX8_read 82 = .ok (.imul, 1) := by decide +kernel
theorem dX8_read_83 : decode cX8_read 83 = .ok (.iadd, 1) := by decide +kernel
theorem dX8_read_84 : decode cX8_read 84 = .ok (.invokevirtual 338, 3) := by decide +kernel
theorem dX8_read_87 : decode cX8_read 87 = .ok (.ifCond .ne 9, 3) := by decide +kernel
theorem dX8_read_90 : decode cX8_read 90 = .ok (.bipush (-20), 2) := by decide +kernel
theorem dX8_read_92 : decode cX8_read 92 = .ok (.iload 8, 2) := by decide +kernel
theorem dX8_read_94 : decode cX8_read 94 = .ok (.isub, 1) := by decide +kernel
theorem dX8_read_95 : decode cX8_read 95 = .ok (.ireturn, 1) := by decide +kernel
theorem dX8_read_96 : decode cX8_read 96 = .ok (.iload 6, 2) := by decide +kernel
theorem dX8_read_98 : decode cX8_read 98 = .ok (.ifCond .ne 6, 3) := by decide +kernel
theorem dX8_read_101 : decode cX8_read 101 = .ok (.iinc 7 1, 3) := by decide +kernel
theorem dX8_read_104 : decode cX8_read 104 = .ok (.iinc 8 1, 3) := by decide +kernel
theorem dX8_read_107 : decode cX8_read 107 = .ok (.goto (-63), 3) := by decide +kernel
theorem dX8_read_110 : decode cX8_read 110 = .ok (.iconst 0, 1) := by decide +kernel
theorem dX8_read_111 : decode cX8_read 111 = .ok (.istore 8, 2) := by decide +kernel
theorem dX8_read_113 : decode cX8_read 113 = .ok (.iload 8, 2) := by decide +kernel
theorem dX8_read_115 : decode cX8_read 115 = .ok (.iload 7, 2) := by decide +kernel
theorem dX8_read_117 : decode cX8_read 117 = .ok (.if_icmp .ge 39, 3) := by decide +kernel
theorem dX8_read_120 : decode cX8_read 120 = .ok (.aload_n 0, 1) := by decide +kernel
theorem dX8_read_121 : decode cX8_read 121 = .ok (.aload 5, 2) := by decide +kernel
theorem dX8_read_123 : decode cX8_read 123 = .ok (.iload_n 3, 1) := by decide +kernel
theorem dX8_read_124 : decode cX8_read 124 = .ok (.iconst 2, 1) := by decide +kernel
theorem dX8_read_125 : decode cX8_read 125 = .ok (.iload 8, 2) := by decide +kernel
theorem dX8_read_127 : decode cX8_read 127 = .ok (.imul, 1) := by decide +kernel
theorem dX8_read_128 : decode cX8_read 128 = .ok (.iadd, 1) := by decide +kernel
theorem dX8_read_129 : decode cX8_read 129 = .ok (.invokevirtual 342, 3) := by decide +kernel
theorem dX8_read_132 : decode cX8_read 132 = .ok (.iconst 0, 1) := by decide +kernel
theorem dX8_read_133 : decode cX8_read 133 = .ok (.aload 5, 2) := by decide +kernel
theorem dX8_read_135 : decode cX8_read 135 = .ok (.iload_n 3, 1) := by decide +kernel
theorem dX8_read_136 : decode cX8_read 136 = .ok (.iconst 2, 1) := by decide +kernel
theorem dX8_read_137 : decode cX8_read 137 = .ok (.iload 8, 2) := by decide +kernel
theorem dX8_read_139 : decode cX8_read 139 = .ok (.imul, 1) := by decide +kernel
theorem dX8_read_140 : decode cX8_read 140 = .ok (.iadd, 1) := by decide +kernel
theorem dX8_read_141 : decode cX8_read 141 = .ok (.iconst 1, 1) := by decide +kernel
theorem dX8_read_142 : decode cX8_read 142 = .ok (.iadd, 1) := by decide +kernel
theorem dX8_read_143 : decode cX8_read 143 = .ok (.invokevirtual 342, 3) := by decide +kernel
theorem dX8_read_146 : decode cX8_read 146 = .ok (.invokevirtual 345, 3) := by decide +kernel
theorem dX8_read_149 : decode cX8_read 149 = .ok (.pop, 1) := by decide +kernel
theorem dX8_read_150 : decode cX8_read 150 = .ok (.iinc 8 1, 3) := by decide +kernel
theorem dX8_read_153 : decode cX8_read 153 = .ok (.goto (-40), 3) := by decide +kernel
theorem dX8_read_156 : decode cX8_read 156 = .ok (.aload_n 0, 1) := by decide +kernel
theorem dX8_read_157 : decode cX8_read 157 = .ok (.iload 6, 2) := by decide +kernel
theorem dX8_read_159 : decode cX8_read 159 = .ok (.putfield 65, 3) := by decide +kernel
theorem dX8_read_162 : decode cX8_read 162 = .ok (.iload 7, 2) := by decide +kernel
theorem dX8_read_164 : decode cX8_read 164 = .ok (.ireturn, 1) := by decide +kernel
theorem dX8_torn_0 : decode cX8_torn 0 = .ok (.aload_n 0, 1) := by decide +kernel
theorem dX8_torn_1 : decode cX8_torn 1 = .ok (.getfield 65, 3) := by decide +kernel
theorem dX8_torn_4 : decode cX8_torn 4 = .ok (.ireturn, 1) := by decide +kernel
theorem dX8_count_0 : decode cX8_count 0 = .ok (.iload_n 1, 1) := by decide +kernel
theorem dX8_count_1 : decode cX8_count 1 = .ok (.tableswitch 133 0 5 #[39, 47, 77, 88, 117, 125], 39) := by decide +kernel
theorem dX8_count_40 : decode cX8_count 40 = .ok (.aload_n 0, 1) := by decide +kernel
theorem dX8_count_41 : decode cX8_count 41 = .ok (.getfield 37, 3) := by decide +kernel
theorem dX8_count_44 : decode cX8_count 44 = .ok (.getfield 101, 3) := by decide +kernel
theorem dX8_count_47 : decode cX8_count 47 = .ok (.ireturn, 1) := by decide +kernel
theorem dX8_count_48 : decode cX8_count 48 = .ok (.aload_n 0, 1) := by decide +kernel
theorem dX8_count_49 : decode cX8_count 49 = .ok (.getfield 30, 3) := by decide +kernel
theorem dX8_count_52 : decode cX8_count 52 = .ok (.iconst 0, 1) := by decide +kernel
theorem dX8_count_53 : decode cX8_count 53 = .ok (.baload, 1) := by decide +kernel
theorem dX8_count_54 : decode cX8_count 54 = .ok (.ifCond .eq 7, 3) := by decide +kernel
theorem dX8_count_57 : decode cX8_count 57 = .ok (.iconst 1, 1) := by decide +kernel
theorem dX8_count_58 : decode cX8_count 58 = .ok (.goto 4, 3) := by decide +kernel
theorem dX8_count_61 : decode cX8_count 61 = .ok (.iconst 0, 1) := by decide +kernel
theorem dX8_count_62 : decode cX8_count 62 = .ok (.aload_n 0, 1) := by decide +kernel
theorem dX8_count_63 : decode cX8_count 63 = .ok (.getfield 30, 3) := by decide +kernel
theorem dX8_count_66 : decode cX8_count 66 = .ok (.iconst 1, 1) := by decide +kernel
theorem dX8_count_67 : decode cX8_count 67 = .ok (.baload, 1) := by decide +kernel
theorem dX8_count_68 : decode cX8_count 68 = .ok (.ifCond .eq 7, 3) := by decide +kernel
theorem dX8_count_71 : decode cX8_count 71 = .ok (.iconst 1, 1) := by decide +kernel
theorem dX8_count_72 : decode cX8_count 72 = .ok (.goto 4, 3) := by decide +kernel
theorem dX8_count_75 : decode cX8_count 75 = .ok (.iconst 0, 1) := by decide +kernel
theorem dX8_count_76 : decode cX8_count 76 = .ok (.iadd, 1) := by decide +kernel
theorem dX8_count_77 : decode cX8_count 77 = .ok (.ireturn, 1) := by decide +kernel
theorem dX8_count_78 : decode cX8_count 78 = .ok (.aload_n 0, 1) := by decide +kernel
theorem dX8_count_79 : decode cX8_count 79 = .ok (.getfield 12, 3) := by decide +kernel
theorem dX8_count_82 : decode cX8_count 82 = .ok (.getfield 74, 3) := by decide +kernel
theorem dX8_count_85 : decode cX8_count 85 = .ok (.getfield 84, 3) := by decide +kernel
theorem dX8_count_88 : decode cX8_count 88 = .ok (.ireturn, 1) := by decide +kernel
theorem dX8_count_89 : decode cX8_count 89 = .ok (.aload_n 0, 1) := by decide +kernel
theorem dX8_count_90 : decode cX8_count 90 = .ok (.getfield 43, 3) := by decide +kernel
theorem dX8_count_93 : decode cX8_count 93 = .ok (.iconst 0, 1) := by decide +kernel
theorem dX8_count_94 : decode cX8_count 94 = .ok (.aaload, 1) := by decide +kernel
theorem dX8_count_95 : decode cX8_count 95 = .ok (.getfield 326, 3) := by decide +kernel
theorem dX8_count_98 : decode cX8_count 98 = .ok (.bipush (-4), 2) := by decide +kernel
theorem dX8_count_100 : decode cX8_count 100 = .ok (.if_icmp .ne 8, 3) := by decide +kernel
theorem dX8_count_103 : decode cX8_count 103 = .ok (.bipush (-4), 2) := by decide +kernel
theorem dX8_count_105 : decode cX8_count 105 = .ok (.goto 12, 3) := by decide +kernel
theorem dX8_count_108 : decode cX8_count 108 = .ok (.aload_n 0, 1) := by decide +kernel
theorem dX8_count_109 : decode cX8_count 109 = .ok (.getfield 43, 3) := by decide +kernel
theorem dX8_count_112 : decode cX8_count 112 = .ok (.iconst 0, 1) := by decide +kernel
theorem dX8_count_113 : decode cX8_count 113 = .ok (.aaload, 1) := by decide +kernel
theorem dX8_count_114 : decode cX8_count 114 = .ok (.getfield 349, 3) := by decide +kernel
theorem dX8_count_117 : decode cX8_count 117 = .ok (.ireturn, 1) := by decide +kernel
theorem dX8_count_118 : decode cX8_count 118 = .ok (.aload_n 0, 1) := by decide +kernel
theorem dX8_count_119 : decode cX8_count 119 = .ok (.getfield 19, 3) := by decide +kernel
theorem dX8_count_122 : decode cX8_count 122 = .ok (.invokevirtual 352, 3) := by decide +kernel
theorem dX8_count_125 : decode cX8_count 125 = .ok (.ireturn, 1) := by decide +kernel
theorem dX8_count_126 : decode cX8_count 126 = .ok (.aload_n 0, 1) := by decide +kernel
theorem dX8_count_127 : decode cX8_count 127 = .ok (.getfield 19, 3) := by decide +kernel
theorem dX8_count_130 : decode cX8_count 130 = .ok (.invokevirtual 355, 3) := by decide +kernel
theorem dX8_count_133 : decode cX8_count 133 = .ok (.ireturn, 1) := by decide +kernel
theorem dX8_count_134 : decode cX8_count 134 = .ok (.iconst (-1), 1) := by decide +kernel
theorem dX8_count_135 : decode cX8_count 135 = .ok (.ireturn, 1) := by decide +kernel
theorem dX8_possibleKinds_0 : decode cX8_possibleKinds 0 = .ok (.aload_n 0, 1) := by decide +kernel
theorem dX8_possibleKinds_1 : decode cX8_possibleKinds 1 = .ok (.getfield 23, 3) := by decide +kernel
theorem dX8_possibleKinds_4 : decode cX8_possibleKinds 4 = .ok (.aload_n 0, 1) := by decide +kernel
theorem dX8_possibleKinds_5 : decode cX8_possibleKinds 5 = .ok (.getfield 19, 3) := by decide +kernel
theorem dX8_possibleKinds_8 : decode cX8_possibleKinds 8 = .ok (.invokevirtual 97, 3) := by decide +kernel
theorem dX8_possibleKinds_11 : decode cX8_possibleKinds 11 = .ok (.aload_n 0, 1) := by decide +kernel
theorem dX8_possibleKinds_12 : decode cX8_possibleKinds 12 = .ok (.getfield 23, 3) := by decide +kernel
theorem dX8_possibleKinds_15 : decode cX8_possibleKinds 15 = .ok (.iload_n 1, 1) := by decide +kernel
theorem dX8_possibleKinds_16 : decode cX8_possibleKinds 16 = .ok (.invokevirtual 126, 3) := by decide +kernel
theorem dX8_possibleKinds_19 : decode cX8_possibleKinds 19 = .ok (.astore_n 2, 1) := by decide +kernel
theorem dX8_possibleKinds_20 : decode cX8_possibleKinds 20 = .ok (.iconst 0, 1) := by decide +kernel
theorem dX8_possibleKinds_21 : decode cX8_possibleKinds 21 = .ok (.istore_n 3, 1) := by decide +kernel
theorem dX8_possibleKinds_22 : decode cX8_possibleKinds 22 = .ok (.iconst 0, 1) := by decide +kernel
theorem dX8_possibleKinds_23 : decode cX8_possibleKinds 23 = .ok (.istore 4, 2) := by decide +kernel
theorem dX8_possibleKinds_25 : decode cX8_possibleKinds 25 = .ok (.aload_n 2, 1) := by decide +kernel
theorem dX8_possibleKinds_26 : decode cX8_possibleKinds 26 = .ok (.ifnull 42, 3) := by decide +kernel
theorem dX8_possibleKinds_29 : decode cX8_possibleKinds 29 = .ok (.iload 4, 2) := by decide +kernel
theorem dX8_possibleKinds_31 : decode cX8_possibleKinds 31 = .ok (.iconst 4, 1) := by decide +kernel
theorem dX8_possibleKinds_32 : decode cX8_possibleKinds 32 = .ok (.if_icmp .ge 36, 3) := by decide +kernel
theorem dX8_possibleKinds_35 : decode cX8_possibleKinds 35 = .ok (.aload_n 2, 1) := by decide +kernel
theorem dX8_possibleKinds_36 : decode cX8_possibleKinds 36 = .ok (.iload 4, 2) := by decide +kernel
theorem dX8_possibleKinds_38 : decode cX8_possibleKinds 38 = .ok (.putfield 130, 3) := by decide +kernel
theorem dX8_possibleKinds_41 : decode cX8_possibleKinds 41 = .ok (.aload_n 0, 1) := by decide +kernel
theorem dX8_possibleKinds_42 : decode cX8_possibleKinds 42 = .ok (.getfield 37, 3) := by decide +kernel
theorem dX8_possibleKinds_45 : decode cX8_possibleKinds 45 = .ok (.aload_n 0, 1) := by decide +kernel
theorem dX8_possibleKinds_46 : decode cX8_possibleKinds 46 = .ok (.getfield 23, 3) := by decide +kernel
theorem dX8_possibleKinds_49 : decode cX8_possibleKinds 49 = .ok (.invokevirtual 300, 3) := by decide +kernel
theorem dX8_possibleKinds_52 : decode cX8_possibleKinds 52 = .ok (.ifCond .eq 10, 3) := by decide +kernel
theorem dX8_possibleKinds_55 : decode cX8_possibleKinds 55 = .ok (.iload_n 3, 1) := by decide +kernel
theorem dX8_possibleKinds_56 : decode cX8_possibleKinds 56 = .ok (.iconst 1, 1) := by decide +kernel
theorem dX8_possibleKinds_57 : decode cX8_possibleKinds 57 = .ok (.iload 4, 2) := by decide +kernel
theorem dX8_possibleKinds_59 : decode cX8_possibleKinds 59 = .ok (.ishl, 1) := by decide +kernel
theorem dX8_possibleKinds_60 : decode cX8_possibleKinds 60 = .ok (.ior, 1) := by decide +kernel
theorem dX8_possibleKinds_61 : decode cX8_possibleKinds 61 = .ok (.istore_n 3, 1) := by decide +kernel
theorem dX8_possibleKinds_62 : decode cX8_possibleKinds 62 = .ok (.iinc 4 1, 3) := by decide +kernel
theorem dX8_possibleKinds_65 : decode cX8_possibleKinds 65 = .ok (.goto (-40), 3) := by decide +kernel
theorem dX8_possibleKinds_68 : decode cX8_possibleKinds 68 = .ok (.iload_n 3, 1) := by decide +kernel
theorem dX8_possibleKinds_69 : decode cX8_possibleKinds 69 = .ok (.ireturn, 1) := by decide +kernel
theorem dX8_noteWhenKnown_0 : decode cX8_noteWhenKnown 0 = .ok (.aload_n 0, 1) := by decide +kernel
theorem dX8_noteWhenKnown_1 : decode cX8_noteWhenKnown 1 = .ok (.getfield 23, 3) := by decide +kernel
theorem dX8_noteWhenKnown_4 : decode cX8_noteWhenKnown 4 = .ok (.aload_n 0, 1) := by decide +kernel
theorem dX8_noteWhenKnown_5 : decode cX8_noteWhenKnown 5 = .ok (.getfield 19, 3) := by decide +kernel
theorem dX8_noteWhenKnown_8 : decode cX8_noteWhenKnown 8 = .ok (.invokevirtual 97, 3) := by decide +kernel
theorem dX8_noteWhenKnown_11 : decode cX8_noteWhenKnown 11 = .ok (.aload_n 0, 1) := by decide +kernel
theorem dX8_noteWhenKnown_12 : decode cX8_noteWhenKnown 12 = .ok (.getfield 23, 3) := by decide +kernel
theorem dX8_noteWhenKnown_15 : decode cX8_noteWhenKnown 15 = .ok (.iload_n 1, 1) := by decide +kernel
theorem dX8_noteWhenKnown_16 : decode cX8_noteWhenKnown 16 = .ok (.invokevirtual 126, 3) := by decide +kernel
theorem dX8_noteWhenKnown_19 : decode cX8_noteWhenKnown 19 = .ok (.astore_n 3, 1) := by decide +kernel
theorem dX8_noteWhenKnown_20 : decode cX8_noteWhenKnown 20 = .ok (.aload_n 0, 1) := by decide +kernel
theorem dX8_noteWhenKnown_21 : decode cX8_noteWhenKnown 21 = .ok (.getfield 23, 3) := by decide +kernel
theorem dX8_noteWhenKnown_24 : decode cX8_noteWhenKnown 24 = .ok (.iload_n 2, 1) := by decide +kernel
theorem dX8_noteWhenKnown_25 : decode cX8_noteWhenKnown 25 = .ok (.invokevirtual 169, 3) := by decide +kernel
theorem dX8_noteWhenKnown_28 : decode cX8_noteWhenKnown 28 = .ok (.astore 4, 2) := by decide +kernel
theorem dX8_noteWhenKnown_30 : decode cX8_noteWhenKnown 30 = .ok (.iconst 0, 1) := by decide +kernel
theorem dX8_noteWhenKnown_31 : decode cX8_noteWhenKnown 31 = .ok (.istore 5, 2) := by decide +kernel
theorem dX8_noteWhenKnown_33 : decode cX8_noteWhenKnown 33 = .ok (.aload_n 3, 1) := by decide +kernel
theorem dX8_noteWhenKnown_34 : decode cX8_noteWhenKnown 34 = .ok (.ifnull 46, 3) := by decide +kernel
theorem dX8_noteWhenKnown_37 : decode cX8_noteWhenKnown 37 = .ok (.aload 4, 2) := by decide +kernel
theorem dX8_noteWhenKnown_39 : decode cX8_noteWhenKnown 39 = .ok (.ifnull 41, 3) := by decide +kernel
theorem dX8_noteWhenKnown_42 : decode cX8_noteWhenKnown 42 = .ok (.iload 5, 2) := by decide +kernel
theorem dX8_noteWhenKnown_44 : decode cX8_noteWhenKnown 44 = .ok (.iconst 4, 1) := by decide +kernel
theorem dX8_noteWhenKnown_45 : decode cX8_noteWhenKnown 45 = .ok (.if_icmp .ge 35, 3) := by decide +kernel
theorem dX8_noteWhenKnown_48 : decode cX8_noteWhenKnown 48 = .ok (.aload_n 3, 1) := by decide +kernel
theorem dX8_noteWhenKnown_49 : decode cX8_noteWhenKnown 49 = .ok (.iload 5, 2) := by decide +kernel
theorem dX8_noteWhenKnown_51 : decode cX8_noteWhenKnown 51 = .ok (.putfield 130, 3) := by decide +kernel
theorem dX8_noteWhenKnown_54 : decode cX8_noteWhenKnown 54 = .ok (.aload_n 0, 1) := by decide +kernel
theorem dX8_noteWhenKnown_55 : decode cX8_noteWhenKnown 55 = .ok (.getfield 61, 3) := by decide +kernel
theorem dX8_noteWhenKnown_58 : decode cX8_noteWhenKnown 58 = .ok (.iload 5, 2) := by decide +kernel
theorem dX8_noteWhenKnown_60 : decode cX8_noteWhenKnown 60 = .ok (.aload_n 0, 1) := by decide +kernel
theorem dX8_noteWhenKnown_61 : decode cX8_noteWhenKnown 61 = .ok (.getfield 23, 3) := by decide +kernel
theorem dX8_noteWhenKnown_64 : decode cX8_noteWhenKnown 64 = .ok (.aload 4, 2) := by decide +kernel
theorem dX8_noteWhenKnown_66 : decode cX8_noteWhenKnown 66 = .ok (.aload_n 3, 1) := by decide +kernel
theorem dX8_noteWhenKnown_67 : decode cX8_noteWhenKnown 67 = .ok (.getfield 135, 3) := by decide +kernel
theorem dX8_noteWhenKnown_70 : decode cX8_noteWhenKnown 70 = .ok (.invokevirtual 235, 3) := by decide +kernel
theorem dX8_noteWhenKnown_73 : decode cX8_noteWhenKnown 73 = .ok (.iastore, 1) := by decide +kernel
theorem dX8_noteWhenKnown_74 : decode cX8_noteWhenKnown 74 = .ok (.iinc 5 1, 3) := by decide +kernel
theorem dX8_noteWhenKnown_77 : decode cX8_noteWhenKnown 77 = .ok (.goto (-44), 3) := by decide +kernel
theorem dX8_noteWhenKnown_80 : decode cX8_noteWhenKnown 80 = .ok (.return_, 1) := by decide +kernel
theorem dX8_kindsKnownBy_0 : decode cX8_kindsKnownBy 0 = .ok (.iconst 0, 1) := by decide +kernel
theorem dX8_kindsKnownBy_1 : decode cX8_kindsKnownBy 1 = .ok (.istore_n 3, 1) := by decide +kernel
theorem dX8_kindsKnownBy_2 : decode cX8_kindsKnownBy 2 = .ok (.iconst 0, 1) := by decide +kernel
theorem dX8_kindsKnownBy_3 : decode cX8_kindsKnownBy 3 = .ok (.istore 4, 2) := by decide +kernel
theorem dX8_kindsKnownBy_5 : decode cX8_kindsKnownBy 5 = .ok (.iload 4, 2) := by decide +kernel
theorem dX8_kindsKnownBy_7 : decode cX8_kindsKnownBy 7 = .ok (.iconst 4, 1) := by decide +kernel
theorem dX8_kindsKnownBy_8 : decode cX8_kindsKnownBy 8 = .ok (.if_icmp .ge 37, 3) := by decide +kernel
theorem dX8_kindsKnownBy_11 : decode cX8_kindsKnownBy 11 = .ok (.iload_n 1, 1) := by decide +kernel
theorem dX8_kindsKnownBy_12 : decode cX8_kindsKnownBy 12 = .ok (.iload 4, 2) := by decide +kernel
theorem dX8_kindsKnownBy_14 : decode cX8_kindsKnownBy 14 = .ok (.ishr, 1) := by decide +kernel
theorem dX8_kindsKnownBy_15 : decode cX8_kindsKnownBy 15 = .ok (.iconst 1, 1) := by decide +kernel
theorem dX8_kindsKnownBy_16 : decode cX8_kindsKnownBy 16 = .ok (.iand, 1) := by decide +kernel
theorem dX8_kindsKnownBy_17 : decode cX8_kindsKnownBy 17 = .ok (.iconst 1, 1) := by decide +kernel
theorem dX8_kindsKnownBy_18 : decode cX8_kindsKnownBy 18 = .ok (.if_icmp .ne 21, 3) := by decide +kernel
theorem dX8_kindsKnownBy_21 : decode cX8_kindsKnownBy 21 = .ok (.aload_n 0, 1) := by decide +kernel
theorem dX8_kindsKnownBy_22 : decode cX8_kindsKnownBy 22 = .ok (.getfield 61, 3) := by decide +kernel
theorem dX8_kindsKnownBy_25 : decode cX8_kindsKnownBy 25 = .ok (.iload 4, 2) := by decide +kernel
theorem dX8_kindsKnownBy_27 : decode cX8_kindsKnownBy 27 = .ok (.iaload, 1) := by decide +kernel
theorem dX8_kindsKnownBy_28 : decode cX8_kindsKnownBy 28 = .ok (.iconst 0, 1) := by decide +kernel
theorem dX8_kindsKnownBy_29 : decode cX8_kindsKnownBy 29 = .ok (.iload_n 2, 1) := by decide +kernel
theorem dX8_kindsKnownBy_30 : decode cX8_kindsKnownBy 30 = .ok (.invokestatic 70, 3) := by decide +kernel
theorem dX8_kindsKnownBy_33 : decode cX8_kindsKnownBy 33 = .ok (.ifCond .eq 6, 3) := by decide +kernel
theorem dX8_kindsKnownBy_36 : decode cX8_kindsKnownBy 36 = .ok (.iinc 3 1, 3) := by decide +kernel
theorem dX8_kindsKnownBy_39 : decode cX8_kindsKnownBy 39 = .ok (.iinc 4 1, 3) := by decide +kernel
theorem dX8_kindsKnownBy_42 : decode cX8_kindsKnownBy 42 = .ok (.goto (-37), 3) := by decide +kernel
theorem dX8_kindsKnownBy_45 : decode cX8_kindsKnownBy 45 = .ok (.iload_n 3, 1) := by decide +kernel
theorem dX8_kindsKnownBy_46 : decode cX8_kindsKnownBy 46 = .ok (.ireturn, 1) := by decide +kernel
theorem dX8_canStand_0 : decode cX8_canStand 0 = .ok (.aload_n 0, 1) := by decide +kernel
theorem dX8_canStand_1 : decode cX8_canStand 1 = .ok (.getfield 19, 3) := by decide +kernel
theorem dX8_canStand_4 : decode cX8_canStand 4 = .ok (.aload_n 1, 1) := by decide +kernel
theorem dX8_canStand_5 : decode cX8_canStand 5 = .ok (.iload_n 2, 1) := by decide +kernel
theorem dX8_canStand_6 : decode cX8_canStand 6 = .ok (.invokevirtual 342, 3) := by decide +kernel
theorem dX8_canStand_9 : decode cX8_canStand 9 = .ok (.invokevirtual 169, 3) := by decide +kernel
theorem dX8_canStand_12 : decode cX8_canStand 12 = .ok (.ifnull 20, 3) := by decide +kernel
theorem dX8_canStand_15 : decode cX8_canStand 15 = .ok (.aload_n 1, 1) := by decide +kernel
theorem dX8_canStand_16 : decode cX8_canStand 16 = .ok (.iload_n 2, 1) := by decide +kernel
theorem dX8_canStand_17 : decode cX8_canStand 17 = .ok (.iconst 1, 1) := by decide +kernel
theorem dX8_canStand_18 : decode cX8_canStand 18 = .ok (.iadd, 1) := by decide +kernel
theorem dX8_canStand_19 : decode cX8_canStand 19 = .ok (.invokevirtual 342, 3) := by decide +kernel
theorem dX8_canStand_22 : decode cX8_canStand 22 = .ok (.invokestatic 185, 3) := by decide +kernel
theorem dX8_canStand_25 : decode cX8_canStand 25 = .ok (.ifCond .eq 7, 3) := by decide +kernel
theorem dX8_canStand_28 : decode cX8_canStand 28 = .ok (.iconst 1, 1) := by decide +kernel
theorem dX8_canStand_29 : decode cX8_canStand 29 = .ok (.goto 4, 3) := by decide +kernel
theorem dX8_canStand_32 : decode cX8_canStand 32 = .ok (.iconst 0, 1) := by decide +kernel
theorem dX8_canStand_33 : decode cX8_canStand 33 = .ok (.ireturn, 1) := by decide +kernel
theorem dX8_isWithin_0 : decode cX8_isWithin 0 = .ok (.iload_n 0, 1) := by decide +kernel
theorem dX8_isWithin_1 : decode cX8_isWithin 1 = .ok (.iload_n 1, 1) := by decide +kernel
theorem dX8_isWithin_2 : decode cX8_isWithin 2 = .ok (.if_icmp .lt 12, 3) := by decide +kernel
theorem dX8_isWithin_5 : decode cX8_isWithin 5 = .ok (.iload_n 0, 1) := by decide +kernel
theorem dX8_isWithin_6 : decode cX8_isWithin 6 = .ok (.iload_n 2, 1) := by decide +kernel
theorem dX8_isWithin_7 : decode cX8_isWithin 7 = .ok (.if_icmp .gt 7, 3) := by decide +kernel
theorem dX8_isWithin_10 : decode cX8_isWithin 10 = .ok (.iconst 1, 1) := by decide +kernel
theorem dX8_isWithin_11 : decode cX8_isWithin 11 = .ok (.goto 4, 3) := by decide +kernel
theorem dX8_isWithin_14 : decode cX8_isWithin 14 = .ok (.iconst 0, 1) := by decide +kernel
theorem dX8_isWithin_15 : decode cX8_isWithin 15 = .ok (.ireturn, 1) := by decide +kernel
theorem dX8_isCorner_0 : decode cX8_isCorner 0 = .ok (.iload_n 0, 1) := by decide +kernel
theorem dX8_isCorner_1 : decode cX8_isCorner 1 = .ok (.iconst 0, 1) := by decide +kernel
theorem dX8_isCorner_2 : decode cX8_isCorner 2 = .ok (.bipush 7, 2) := by decide +kernel
theorem dX8_isCorner_4 : decode cX8_isCorner 4 = .ok (.invokestatic 70, 3) := by decide +kernel
theorem dX8_isCorner_7 : decode cX8_isCorner 7 = .ok (.ireturn, 1) := by decide +kernel
theorem dX8_isMinute_0 : decode cX8_isMinute 0 = .ok (.iload_n 0, 1) := by decide +kernel
theorem dX8_isMinute_1 : decode cX8_isMinute 1 = .ok (.iconst 0, 1) := by decide +kernel
theorem dX8_isMinute_2 : decode cX8_isMinute 2 = .ok (.bipush 59, 2) := by decide +kernel
theorem dX8_isMinute_4 : decode cX8_isMinute 4 = .ok (.invokestatic 70, 3) := by decide +kernel
theorem dX8_isMinute_7 : decode cX8_isMinute 7 = .ok (.ireturn, 1) := by decide +kernel
theorem dX8_isNews_0 : decode cX8_isNews 0 = .ok (.iload_n 0, 1) := by decide +kernel
theorem dX8_isNews_1 : decode cX8_isNews 1 = .ok (.iconst 0, 1) := by decide +kernel
theorem dX8_isNews_2 : decode cX8_isNews 2 = .ok (.bipush 9, 2) := by decide +kernel
theorem dX8_isNews_4 : decode cX8_isNews 4 = .ok (.invokestatic 70, 3) := by decide +kernel
theorem dX8_isNews_7 : decode cX8_isNews 7 = .ok (.ireturn, 1) := by decide +kernel
theorem dX8_isEither_0 : decode cX8_isEither 0 = .ok (.iload_n 0, 1) := by decide +kernel
theorem dX8_isEither_1 : decode cX8_isEither 1 = .ok (.ifCond .eq 8, 3) := by decide +kernel
theorem dX8_isEither_4 : decode cX8_isEither 4 = .ok (.iload_n 0, 1) := by decide +kernel
theorem dX8_isEither_5 : decode cX8_isEither 5 = .ok (.iconst 1, 1) := by decide +kernel
theorem dX8_isEither_6 : decode cX8_isEither 6 = .ok (.if_icmp .ne 7, 3) := by decide +kernel
theorem dX8_isEither_9 : decode cX8_isEither 9 = .ok (.iconst 1, 1) := by decide +kernel
theorem dX8_isEither_10 : decode cX8_isEither 10 = .ok (.goto 4, 3) := by decide +kernel
theorem dX8_isEither_13 : decode cX8_isEither 13 = .ok (.iconst 0, 1) := by decide +kernel
theorem dX8_isEither_14 : decode cX8_isEither 14 = .ok (.ireturn, 1) := by decide +kernel
theorem dX8_isSheet_0 : decode cX8_isSheet 0 = .ok (.iload_n 0, 1) := by decide +kernel
theorem dX8_isSheet_1 : decode cX8_isSheet 1 = .ok (.iconst 0, 1) := by decide +kernel
theorem dX8_isSheet_2 : decode cX8_isSheet 2 = .ok (.iconst 3, 1) := by decide +kernel
theorem dX8_isSheet_3 : decode cX8_isSheet 3 = .ok (.invokestatic 70, 3) := by decide +kernel
