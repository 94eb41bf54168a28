theorem dX9_late_18 : decode cX9_late 18 = .ok (.iconst 0, 1) := by decide +kernel
theorem dX9_late_19 : decode cX9_late 19 = .ok (.sipush 244, 3) := by decide +kernel
theorem dX9_late_22 : decode cX9_late 22 = .ok (.invokevirtual 235, 3) := by decide +kernel
theorem dX9_late_25 : decode cX9_late 25 = .ok (.aload_n 0, 1) := by decide +kernel
theorem dX9_late_26 : decode cX9_late 26 = .ok (.getfield 7, 3) := by decide +kernel
theorem dX9_late_29 : decode cX9_late 29 = .ok (.bipush 36, 2) := by decide +kernel
theorem dX9_late_31 : decode cX9_late 31 = .ok (.iload_n 1, 1) := by decide +kernel
theorem dX9_late_32 : decode cX9_late 32 = .ok (.iadd, 1) := by decide +kernel
theorem dX9_late_33 : decode cX9_late 33 = .ok (.iaload, 1) := by decide +kernel
theorem dX9_late_34 : decode cX9_late 34 = .ok (.istore_n 3, 1) := by decide +kernel
theorem dX9_late_35 : decode cX9_late 35 = .ok (.iload_n 3, 1) := by decide +kernel
theorem dX9_late_36 : decode cX9_late 36 = .ok (.ifCond .lt 41, 3) := by decide +kernel
theorem dX9_late_39 : decode cX9_late 39 = .ok (.aload_n 0, 1) := by decide +kernel
theorem dX9_late_40 : decode cX9_late 40 = .ok (.getfield 7, 3) := by decide +kernel
theorem dX9_late_43 : decode cX9_late 43 = .ok (.sipush 276, 3) := by decide +kernel
theorem dX9_late_46 : decode cX9_late 46 = .ok (.iload_n 1, 1) := by decide +kernel
theorem dX9_late_47 : decode cX9_late 47 = .ok (.iadd, 1) := by decide +kernel
theorem dX9_late_48 : decode cX9_late 48 = .ok (.iload_n 3, 1) := by decide +kernel
theorem dX9_late_49 : decode cX9_late 49 = .ok (.iastore, 1) := by decide +kernel
theorem dX9_late_50 : decode cX9_late 50 = .ok (.aload_n 0, 1) := by decide +kernel
theorem dX9_late_51 : decode cX9_late 51 = .ok (.sipush 244, 3) := by decide +kernel
theorem dX9_late_54 : decode cX9_late 54 = .ok (.invokevirtual 189, 3) := by decide +kernel
theorem dX9_late_57 : decode cX9_late 57 = .ok (.aload_n 0, 1) := by decide +kernel
theorem dX9_late_58 : decode cX9_late 58 = .ok (.iload_n 1, 1) := by decide +kernel
theorem dX9_late_59 : decode cX9_late 59 = .ok (.iload_n 2, 1) := by decide +kernel
theorem dX9_late_60 : decode cX9_late 60 = .ok (.invokevirtual 186, 3) := by decide +kernel
theorem dX9_late_63 : decode cX9_late 63 = .ok (.sipush 1000, 3) := by decide +kernel
theorem dX9_late_66 : decode cX9_late 66 = .ok (.if_icmp .ge 5, 3) := by decide +kernel
theorem dX9_late_69 : decode cX9_late 69 = .ok (.iload_n 3, 1) := by decide +kernel
theorem dX9_late_70 : decode cX9_late 70 = .ok (.ireturn, 1) := by decide +kernel
theorem dX9_late_71 : decode cX9_late 71 = .ok (.iinc 3 (-1), 3) := by decide +kernel
theorem dX9_late_74 : decode cX9_late 74 = .ok (.goto (-39), 3) := by decide +kernel
theorem dX9_late_77 : decode cX9_late 77 = .ok (.bipush (-4), 2) := by decide +kernel
theorem dX9_late_79 : decode cX9_late 79 = .ok (.ireturn, 1) := by decide +kernel
theorem dX9_soon_0 : decode cX9_soon 0 = .ok (.aload_n 0, 1) := by decide +kernel
theorem dX9_soon_1 : decode cX9_soon 1 = .ok (.iload_n 1, 1) := by decide +kernel
theorem dX9_soon_2 : decode cX9_soon 2 = .ok (.invokevirtual 204, 3) := by decide +kernel
theorem dX9_soon_5 : decode cX9_soon 5 = .ok (.ifCond .eq 10, 3) := by decide +kernel
theorem dX9_soon_8 : decode cX9_soon 8 = .ok (.iload_n 2, 1) := by decide +kernel
theorem dX9_soon_9 : decode cX9_soon 9 = .ok (.invokestatic 229, 3) := by decide +kernel
theorem dX9_soon_12 : decode cX9_soon 12 = .ok (.ifCond .ne 5, 3) := by decide +kernel
theorem dX9_soon_15 : decode cX9_soon 15 = .ok (.iconst (-1), 1) := by decide +kernel
theorem dX9_soon_16 : decode cX9_soon 16 = .ok (.ireturn, 1) := by decide +kernel
theorem dX9_soon_17 : decode cX9_soon 17 = .ok (.aload_n 0, 1) := by decide +kernel
theorem dX9_soon_18 : decode cX9_soon 18 = .ok (.iconst 0, 1) := by decide +kernel
theorem dX9_soon_19 : decode cX9_soon 19 = .ok (.sipush 244, 3) := by decide +kernel
theorem dX9_soon_22 : decode cX9_soon 22 = .ok (.invokevirtual 235, 3) := by decide +kernel
theorem dX9_soon_25 : decode cX9_soon 25 = .ok (.aload_n 0, 1) := by decide +kernel
theorem dX9_soon_26 : decode cX9_soon 26 = .ok (.getfield 7, 3) := by decide +kernel
theorem dX9_soon_29 : decode cX9_soon 29 = .ok (.bipush 32, 2) := by decide +kernel
theorem dX9_soon_31 : decode cX9_soon 31 = .ok (.iload_n 1, 1) := by decide +kernel
theorem dX9_soon_32 : decode cX9_soon 32 = .ok (.iadd, 1) := by decide +kernel
theorem dX9_soon_33 : decode cX9_soon 33 = .ok (.iaload, 1) := by decide +kernel
theorem dX9_soon_34 : decode cX9_soon 34 = .ok (.istore_n 3, 1) := by decide +kernel
theorem dX9_soon_35 : decode cX9_soon 35 = .ok (.iload_n 3, 1) := by decide +kernel
theorem dX9_soon_36 : decode cX9_soon 36 = .ok (.bipush 60, 2) := by decide +kernel
theorem dX9_soon_38 : decode cX9_soon 38 = .ok (.if_icmp .ge 41, 3) := by decide +kernel
theorem dX9_soon_41 : decode cX9_soon 41 = .ok (.aload_n 0, 1) := by decide +kernel
theorem dX9_soon_42 : decode cX9_soon 42 = .ok (.getfield 7, 3) := by decide +kernel
theorem dX9_soon_45 : decode cX9_soon 45 = .ok (.sipush 280, 3) := by decide +kernel
theorem dX9_soon_48 : decode cX9_soon 48 = .ok (.iload_n 1, 1) := by decide +kernel
theorem dX9_soon_49 : decode cX9_soon 49 = .ok (.iadd, 1) := by decide +kernel
theorem dX9_soon_50 : decode cX9_soon 50 = .ok (.iload_n 3, 1) := by decide +kernel
theorem dX9_soon_51 : decode cX9_soon 51 = .ok (.iastore, 1) := by decide +kernel
theorem dX9_soon_52 : decode cX9_soon 52 = .ok (.aload_n 0, 1) := by decide +kernel
theorem dX9_soon_53 : decode cX9_soon 53 = .ok (.sipush 244, 3) := by decide +kernel
theorem dX9_soon_56 : decode cX9_soon 56 = .ok (.invokevirtual 189, 3) := by decide +kernel
theorem dX9_soon_59 : decode cX9_soon 59 = .ok (.aload_n 0, 1) := by decide +kernel
theorem dX9_soon_60 : decode cX9_soon 60 = .ok (.iload_n 1, 1) := by decide +kernel
theorem dX9_soon_61 : decode cX9_soon 61 = .ok (.iload_n 2, 1) := by decide +kernel
theorem dX9_soon_62 : decode cX9_soon 62 = .ok (.invokevirtual 186, 3) := by decide +kernel
theorem dX9_soon_65 : decode cX9_soon 65 = .ok (.sipush 1000, 3) := by decide +kernel
theorem dX9_soon_68 : decode cX9_soon 68 = .ok (.if_icmp .ge 5, 3) := by decide +kernel
theorem dX9_soon_71 : decode cX9_soon 71 = .ok (.iload_n 3, 1) := by decide +kernel
theorem dX9_soon_72 : decode cX9_soon 72 = .ok (.ireturn, 1) := by decide +kernel
theorem dX9_soon_73 : decode cX9_soon 73 = .ok (.iinc 3 1, 3) := by decide +kernel
theorem dX9_soon_76 : decode cX9_soon 76 = .ok (.goto (-41), 3) := by decide +kernel
theorem dX9_soon_79 : decode cX9_soon 79 = .ok (.bipush (-4), 2) := by decide +kernel
theorem dX9_soon_81 : decode cX9_soon 81 = .ok (.ireturn, 1) := by decide +kernel
theorem dX9_begin_0 : decode cX9_begin 0 = .ok (.aload_n 0, 1) := by decide +kernel
theorem dX9_begin_1 : decode cX9_begin 1 = .ok (.iload_n 1, 1) := by decide +kernel
theorem dX9_begin_2 : decode cX9_begin 2 = .ok (.invokevirtual 198, 3) := by decide +kernel
theorem dX9_begin_5 : decode cX9_begin 5 = .ok (.ifCond .eq 13, 3) := by decide +kernel
theorem dX9_begin_8 : decode cX9_begin 8 = .ok (.iload_n 2, 1) := by decide +kernel
theorem dX9_begin_9 : decode cX9_begin 9 = .ok (.i2l, 1) := by decide +kernel
theorem dX9_begin_10 : decode cX9_begin 10 = .ok (.lconst 0, 1) := by decide +kernel
theorem dX9_begin_11 : decode cX9_begin 11 = .ok (.lconst 1, 1) := by decide +kernel
theorem dX9_begin_12 : decode cX9_begin 12 = .ok (.invokestatic 55, 3) := by decide +kernel
theorem dX9_begin_15 : decode cX9_begin 15 = .ok (.ifCond .ne 5, 3) := by decide +kernel
theorem dX9_begin_18 : decode cX9_begin 18 = .ok (.iconst (-1), 1) := by decide +kernel
theorem dX9_begin_19 : decode cX9_begin 19 = .ok (.ireturn, 1) := by decide +kernel
theorem dX9_begin_20 : decode cX9_begin 20 = .ok (.aload_n 0, 1) := by decide +kernel
theorem dX9_begin_21 : decode cX9_begin 21 = .ok (.iconst (-1), 1) := by decide +kernel
theorem dX9_begin_22 : decode cX9_begin 22 = .ok (.putfield 232, 3) := by decide +kernel
theorem dX9_begin_25 : decode cX9_begin 25 = .ok (.iconst 0, 1) := by decide +kernel
theorem dX9_begin_26 : decode cX9_begin 26 = .ok (.istore_n 3, 1) := by decide +kernel
theorem dX9_begin_27 : decode cX9_begin 27 = .ok (.iconst 0, 1) := by decide +kernel
theorem dX9_begin_28 : decode cX9_begin 28 = .ok (.istore 4, 2) := by decide +kernel
theorem dX9_begin_30 : decode cX9_begin 30 = .ok (.iload 4, 2) := by decide +kernel
theorem dX9_begin_32 : decode cX9_begin 32 = .ok (.aload_n 0, 1) := by decide +kernel
theorem dX9_begin_33 : decode cX9_begin 33 = .ok (.getfield 7, 3) := by decide +kernel
theorem dX9_begin_36 : decode cX9_begin 36 = .ok (.bipush 8, 2) := by decide +kernel
theorem dX9_begin_38 : decode cX9_begin 38 = .ok (.iload_n 1, 1) := by decide +kernel
theorem dX9_begin_39 : decode cX9_begin 39 = .ok (.iadd, 1) := by decide +kernel
theorem dX9_begin_40 : decode cX9_begin 40 = .ok (.iaload, 1) := by decide +kernel
theorem dX9_begin_41 : decode cX9_begin 41 = .ok (.if_icmp .ge 48, 3) := by decide +kernel
theorem dX9_begin_44 : decode cX9_begin 44 = .ok (.aload_n 0, 1) := by decide +kernel
theorem dX9_begin_45 : decode cX9_begin 45 = .ok (.iconst 0, 1) := by decide +kernel
theorem dX9_begin_46 : decode cX9_begin 46 = .ok (.sipush 244, 3) := by decide +kernel
theorem dX9_begin_49 : decode cX9_begin 49 = .ok (.invokevirtual 235, 3) := by decide +kernel
theorem dX9_begin_52 : decode cX9_begin 52 = .ok (.aload_n 0, 1) := by decide +kernel
theorem dX9_begin_53 : decode cX9_begin 53 = .ok (.sipush 244, 3) := by decide +kernel
theorem dX9_begin_56 : decode cX9_begin 56 = .ok (.iload_n 1, 1) := by decide +kernel
theorem dX9_begin_57 : decode cX9_begin 57 = .ok (.iload 4, 2) := by decide +kernel
theorem dX9_begin_59 : decode cX9_begin 59 = .ok (.invokevirtual 218, 3) := by decide +kernel
theorem dX9_begin_62 : decode cX9_begin 62 = .ok (.aload_n 0, 1) := by decide +kernel
theorem dX9_begin_63 : decode cX9_begin 63 = .ok (.aload_n 0, 1) := by decide +kernel
theorem dX9_begin_64 : decode cX9_begin 64 = .ok (.sipush 244, 3) := by decide +kernel
theorem dX9_begin_67 : decode cX9_begin 67 = .ok (.invokevirtual 195, 3) := by decide +kernel
theorem dX9_begin_70 : decode cX9_begin 70 = .ok (.invokevirtual 239, 3) := by decide +kernel
theorem dX9_begin_73 : decode cX9_begin 73 = .ok (.ifCond .eq 8, 3) := by decide +kernel
theorem dX9_begin_76 : decode cX9_begin 76 = .ok (.iload 4, 2) := by decide +kernel
theorem dX9_begin_78 : decode cX9_begin 78 = .ok (.goto 4, 3) := by decide +kernel
theorem dX9_begin_81 : decode cX9_begin 81 = .ok (.iload_n 3, 1) := by decide +kernel
theorem dX9_begin_82 : decode cX9_begin 82 = .ok (.istore_n 3, 1) := by decide +kernel
theorem dX9_begin_83 : decode cX9_begin 83 = .ok (.iinc 4 1, 3) := by decide +kernel
theorem dX9_begin_86 : decode cX9_begin 86 = .ok (.goto (-56), 3) := by decide +kernel
theorem dX9_begin_89 : decode cX9_begin 89 = .ok (.iload_n 2, 1) := by decide +kernel
theorem dX9_begin_90 : decode cX9_begin 90 = .ok (.ifCond .ne 7, 3) := by decide +kernel
theorem dX9_begin_93 : decode cX9_begin 93 = .ok (.iload_n 3, 1) := by decide +kernel
theorem dX9_begin_94 : decode cX9_begin 94 = .ok (.goto 7, 3) := by decide +kernel
theorem dX9_begin_97 : decode cX9_begin 97 = .ok (.aload_n 0, 1) := by decide +kernel
theorem dX9_begin_98 : decode cX9_begin 98 = .ok (.getfield 232, 3) := by decide +kernel
theorem dX9_begin_101 : decode cX9_begin 101 = .ok (.ireturn, 1) := by decide +kernel
theorem dX9_kind_0 : decode cX9_kind 0 = .ok (.aload_n 0, 1) := by decide +kernel
theorem dX9_kind_1 : decode cX9_kind 1 = .ok (.iload_n 1, 1) := by decide +kernel
theorem dX9_kind_2 : decode cX9_kind 2 = .ok (.invokevirtual 198, 3) := by decide +kernel
theorem dX9_kind_5 : decode cX9_kind 5 = .ok (.ifCond .eq 13, 3) := by decide +kernel
theorem dX9_kind_8 : decode cX9_kind 8 = .ok (.iload_n 2, 1) := by decide +kernel
theorem dX9_kind_9 : decode cX9_kind 9 = .ok (.i2l, 1) := by decide +kernel
theorem dX9_kind_10 : decode cX9_kind 10 = .ok (.lconst 0, 1) := by decide +kernel
theorem dX9_kind_11 : decode cX9_kind 11 = .ok (.lconst 1, 1) := by decide +kernel
theorem dX9_kind_12 : decode cX9_kind 12 = .ok (.invokestatic 55, 3) := by decide +kernel
theorem dX9_kind_15 : decode cX9_kind 15 = .ok (.ifCond .ne 5, 3) := by decide +kernel
theorem dX9_kind_18 : decode cX9_kind 18 = .ok (.iconst (-1), 1) := by decide +kernel
theorem dX9_kind_19 : decode cX9_kind 19 = .ok (.ireturn, 1) := by decide +kernel
theorem dX9_kind_20 : decode cX9_kind 20 = .ok (.aload_n 0, 1) := by decide +kernel
theorem dX9_kind_21 : decode cX9_kind 21 = .ok (.iconst (-1), 1) := by decide +kernel
theorem dX9_kind_22 : decode cX9_kind 22 = .ok (.putfield 232, 3) := by decide +kernel
theorem dX9_kind_25 : decode cX9_kind 25 = .ok (.iconst 0, 1) := by decide +kernel
theorem dX9_kind_26 : decode cX9_kind 26 = .ok (.istore_n 3, 1) := by decide +kernel
theorem dX9_kind_27 : decode cX9_kind 27 = .ok (.aload_n 0, 1) := by decide +kernel
theorem dX9_kind_28 : decode cX9_kind 28 = .ok (.iconst 0, 1) := by decide +kernel
theorem dX9_kind_29 : decode cX9_kind 29 = .ok (.sipush 244, 3) := by decide +kernel
theorem dX9_kind_32 : decode cX9_kind 32 = .ok (.invokevirtual 235, 3) := by decide +kernel
theorem dX9_kind_35 : decode cX9_kind 35 = .ok (.iconst 0, 1) := by decide +kernel
theorem dX9_kind_36 : decode cX9_kind 36 = .ok (.istore 4, 2) := by decide +kernel
theorem dX9_kind_38 : decode cX9_kind 38 = .ok (.iload 4, 2) := by decide +kernel
theorem dX9_kind_40 : decode cX9_kind 40 = .ok (.iconst 4, 1) := by decide +kernel
theorem dX9_kind_41 : decode cX9_kind 41 = .ok (.if_icmp .ge 42, 3) := by decide +kernel
theorem dX9_kind_44 : decode cX9_kind 44 = .ok (.aload_n 0, 1) := by decide +kernel
theorem dX9_kind_45 : decode cX9_kind 45 = .ok (.getfield 7, 3) := by decide +kernel
theorem dX9_kind_48 : decode cX9_kind 48 = .ok (.sipush 244, 3) := by decide +kernel
theorem dX9_kind_51 : decode cX9_kind 51 = .ok (.iload_n 1, 1) := by decide +kernel
theorem dX9_kind_52 : decode cX9_kind 52 = .ok (.iadd, 1) := by decide +kernel
theorem dX9_kind_53 : decode cX9_kind 53 = .ok (.iload 4, 2) := by decide +kernel
theorem dX9_kind_55 : decode cX9_kind 55 = .ok (.iastore, 1) := by decide +kernel
theorem dX9_kind_56 : decode cX9_kind 56 = .ok (.aload_n 0, 1) := by decide +kernel
theorem dX9_kind_57 : decode cX9_kind 57 = .ok (.aload_n 0, 1) := by decide +kernel
theorem dX9_kind_58 : decode cX9_kind 58 = .ok (.sipush 244, 3) := by decide +kernel
theorem dX9_kind_61 : decode cX9_kind 61 = .ok (.invokevirtual 195, 3) := by decide +kernel
theorem dX9_kind_64 : decode cX9_kind 64 = .ok (.invokevirtual 239, 3) := by decide +kernel
theorem dX9_kind_67 : decode cX9_kind 67 = .ok (.ifCond .eq 8, 3) := by decide +kernel
theorem dX9_kind_70 : decode cX9_kind 70 = .ok (.iload 4, 2) := by decide +kernel
theorem dX9_kind_72 : decode cX9_kind 72 = .ok (.goto 4, 3) := by decide +kernel
theorem dX9_kind_75 : decode cX9_kind 75 = .ok (.iload_n 3, 1) := by decide +kernel
theorem dX9_kind_76 : decode cX9_kind 76 = .ok (.istore_n 3, 1) := by decide +kernel
theorem dX9_kind_77 : decode cX9_kind 77 = .ok (.iinc 4 1, 3) := by decide +kernel
theorem dX9_kind_80 : decode cX9_kind 80 = .ok (.goto (-42), 3) := by decide +kernel
theorem dX9_kind_83 : decode cX9_kind 83 = .ok (.iload_n 2, 1) := by decide +kernel
theorem dX9_kind_84 : decode cX9_kind 84 = .ok (.ifCond .ne 7, 3) := by decide +kernel
theorem dX9_kind_87 : decode cX9_kind 87 = .ok (.iload_n 3, 1) := by decide +kernel
theorem dX9_kind_88 : decode cX9_kind 88 = .ok (.goto 7, 3) := by decide +kernel
theorem dX9_kind_91 : decode cX9_kind 91 = .ok (.aload_n 0, 1) := by decide +kernel
theorem dX9_kind_92 : decode cX9_kind 92 = .ok (.getfield 232, 3) := by decide +kernel
theorem dX9_kind_95 : decode cX9_kind 95 = .ok (.ireturn, 1) := by decide +kernel
theorem dX9_swap_0 : decode cX9_swap 0 = .ok (.iload_n 1, 1) := by decide +kernel
theorem dX9_swap_1 : decode cX9_swap 1 = .ok (.i2l, 1) := by decide +kernel
theorem dX9_swap_2 : decode cX9_swap 2 = .ok (.lconst 0, 1) := by decide +kernel
theorem dX9_swap_3 : decode cX9_swap 3 = .ok (.lconst 1, 1) := by decide +kernel
theorem dX9_swap_4 : decode cX9_swap 4 = .ok (.invokestatic 55, 3) := by decide +kernel
theorem dX9_swap_7 : decode cX9_swap 7 = .ok (.ifCond .ne 5, 3) := by decide +kernel
theorem dX9_swap_10 : decode cX9_swap 10 = .ok (.iconst (-1), 1) := by decide +kernel
theorem dX9_swap_11 : decode cX9_swap 11 = .ok (.ireturn, 1) := by decide +kernel
theorem dX9_swap_12 : decode cX9_swap 12 = .ok (.aload_n 0, 1) := by decide +kernel
theorem dX9_swap_13 : decode cX9_swap 13 = .ok (.aload_n 0, 1) := by decide +kernel
theorem dX9_swap_14 : decode cX9_swap 14 = .ok (.iconst 0, 1) := by decide +kernel
theorem dX9_swap_15 : decode cX9_swap 15 = .ok (.invokevirtual 195, 3) := by decide +kernel
theorem dX9_swap_18 : decode cX9_swap 18 = .ok (.putfield 232, 3) := by decide +kernel
theorem dX9_swap_21 : decode cX9_swap 21 = .ok (.bipush (-4), 2) := by decide +kernel
theorem dX9_swap_23 : decode cX9_swap 23 = .ok (.istore_n 2, 1) := by decide +kernel
theorem dX9_swap_24 : decode cX9_swap 24 = .ok (.iconst 0, 1) := by decide +kernel
theorem dX9_swap_25 : decode cX9_swap 25 = .ok (.istore_n 3, 1) := by decide +kernel
theorem dX9_swap_26 : decode cX9_swap 26 = .ok (.iload_n 3, 1) := by decide +kernel
theorem dX9_swap_27 : decode cX9_swap 27 = .ok (.aload_n 0, 1) := by decide +kernel
theorem dX9_swap_28 : decode cX9_swap 28 = .ok (.getfield 150, 3) := by decide +kernel
theorem dX9_swap_31 : decode cX9_swap 31 = .ok (.if_icmp .ge 101, 3) := by decide +kernel
theorem dX9_swap_34 : decode cX9_swap 34 = .ok (.iload_n 3, 1) := by decide +kernel
theorem dX9_swap_35 : decode cX9_swap 35 = .ok (.iconst 1, 1) := by decide +kernel
theorem dX9_swap_36 : decode cX9_swap 36 = .ok (.iadd, 1) := by decide +kernel
theorem dX9_swap_37 : decode cX9_swap 37 = .ok (.istore 4, 2) := by decide +kernel
theorem dX9_swap_39 : decode cX9_swap 39 = .ok (.iload 4, 2) := by decide +kernel
theorem dX9_swap_41 : decode cX9_swap 41 = .ok (.aload_n 0, 1) := by decide +kernel
theorem dX9_swap_42 : decode cX9_swap 42 = .ok (.getfield 150, 3) := by decide +kernel
theorem dX9_swap_45 : decode cX9_swap 45 = .ok (.if_icmp .ge 81, 3) := by decide +kernel
theorem dX9_swap_48 : decode cX9_swap 48 = .ok (.aload_n 0, 1) := by decide +kernel
theorem dX9_swap_49 : decode cX9_swap 49 = .ok (.iconst 0, 1) := by decide +kernel
theorem dX9_swap_50 : decode cX9_swap 50 = .ok (.sipush 244, 3) := by decide +kernel
theorem dX9_swap_53 : decode cX9_swap 53 = .ok (.invokevirtual 235, 3) := by decide +kernel
theorem dX9_swap_56 : decode cX9_swap 56 = .ok (.aload_n 0, 1) := by decide +kernel
theorem dX9_swap_57 : decode cX9_swap 57 = .ok (.getfield 7, 3) := by decide +kernel
theorem dX9_swap_60 : decode cX9_swap 60 = .ok (.sipush 248, 3) := by decide +kernel
theorem dX9_swap_63 : decode cX9_swap 63 = .ok (.iload_n 3, 1) := by decide +kernel
theorem dX9_swap_64 : decode cX9_swap 64 = .ok (.iadd, 1) := by decide +kernel
theorem dX9_swap_65 : decode cX9_swap 65 = .ok (.aload_n 0, 1) := by decide +kernel
theorem dX9_swap_66 : decode cX9_swap 66 = .ok (.getfield 7, 3) := by decide +kernel
theorem dX9_swap_69 : decode cX9_swap 69 = .ok (.iconst 4, 1) := by decide +kernel
theorem dX9_swap_70 : decode cX9_swap 70 = .ok (.iload 4, 2) := by decide +kernel
theorem dX9_swap_72 : decode cX9_swap 72 = .ok (.iadd, 1) := by decide +kernel
theorem dX9_swap_73 : decode cX9_swap 73 = .ok (.iaload, 1) := by decide +kernel
theorem dX9_swap_74 : decode cX9_swap 74 = .ok (.iastore, 1) := by decide +kernel
theorem dX9_swap_75 : decode cX9_swap 75 = .ok (.aload_n 0, 1) := by decide +kernel
theorem dX9_swap_76 : decode cX9_swap 76 = .ok (.getfield 7, 3) := by decide +kernel
theorem dX9_swap_79 : decode cX9_swap 79 = .ok (.sipush 248, 3) := by decide +kernel
theorem dX9_swap_82 : decode cX9_swap 82 = .ok (.iload 4, 2) := by decide +kernel
theorem dX9_swap_84 : decode cX9_swap 84 = .ok (.iadd, 1) := by decide +kernel
theorem dX9_swap_85 : decode cX9_swap 85 = .ok (.aload_n 0, 1) := by decide +kernel
theorem dX9_swap_86 : decode cX9_swap 86 = .ok (.getfield 7, 3) := by decide +kernel
theorem dX9_swap_89 : decode cX9_swap 89 = .ok (.iconst 4, 1) := by decide +kernel
theorem dX9_swap_90 : decode cX9_swap 90 = .ok (.iload_n 3, 1) := by decide +kernel
theorem dX9_swap_91 : decode cX9_swap 91 = .ok (.iadd, 1) := by decide +kernel
theorem dX9_swap_92 : decode cX9_swap 92 = .ok (.iaload, 1) := by decide +kernel
theorem dX9_swap_93 : decode cX9_swap 93 = .ok (.iastore, 1) := by decide +kernel
theorem dX9_swap_94 : decode cX9_swap 94 = .ok (.aload_n 0, 1) := by decide +kernel
theorem dX9_swap_95 : decode cX9_swap 95 = .ok (.aload_n 0, 1) := by decide +kernel
theorem dX9_swap_96 : decode cX9_swap 96 = .ok (.sipush 244, 3) := by decide +kernel
theorem dX9_swap_99 : decode cX9_swap 99 = .ok (.invokevirtual 195, 3) := by decide +kernel
theorem dX9_swap_102 : decode cX9_swap 102 = .ok (.invokevirtual 239, 3) := by decide +kernel
theorem dX9_swap_105 : decode cX9_swap 105 = .ok (.ifCond .eq 13, 3) := by decide +kernel
theorem dX9_swap_108 : decode cX9_swap 108 = .ok (.bipush 10, 2) := by decide +kernel
theorem dX9_swap_110 : decode cX9_swap 110 = .ok (.iload_n 3, 1) := by decide +kernel
theorem dX9_swap_111 : decode cX9_swap 111 = .ok (.imul, 1) := by decide +kernel
theorem dX9_swap_112 : decode cX9_swap 112 = .ok (.iload 4, 2) := by decide +kernel
theorem dX9_swap_114 : decode cX9_swap 114 = .ok (.iadd, 1) := by decide +kernel
theorem dX9_swap_115 : decode cX9_swap 115 = .ok (.goto 4, 3) := by decide +kernel
theorem dX9_swap_118 : decode cX9_swap 118 = .ok (.iload_n 2, 1) := by decide +kernel
theorem dX9_swap_119 : decode cX9_swap 119 = .ok (.istore_n 2, 1) := by decide +kernel
theorem dX9_swap_120 : decode cX9_swap 120 = .ok (.iinc 4 1, 3) := by decide +kernel
theorem dX9_swap_123 : decode cX9_swap 123 = .ok (.goto (-84), 3) := by decide +kernel
theorem dX9_swap_126 : decode cX9_swap 126 = .ok (.iinc 3 1, 3) := by decide +kernel
theorem dX9_swap_129 : decode cX9_swap 129 = .ok (.goto (-103), 3) := by decide +kernel
theorem dX9_swap_132 : decode cX9_swap 132 = .ok (.iload_n 2, 1) := by decide +kernel
theorem dX9_swap_133 : decode cX9_swap 133 = .ok (.bipush (-4), 2) := by decide +kernel
theorem dX9_swap_135 : decode cX9_swap 135 = .ok (.if_icmp .eq 7, 3) := by decide +kernel
theorem dX9_swap_138 : decode cX9_swap 138 = .ok (.iload_n 1, 1) := by decide +kernel
theorem dX9_swap_139 : decode cX9_swap 139 = .ok (.ifCond .ne 7, 3) := by decide +kernel
theorem dX9_swap_142 : decode cX9_swap 142 = .ok (.iload_n 2, 1) := by decide +kernel
theorem dX9_swap_143 : decode cX9_swap 143 = .ok (.goto 7, 3) := by decide +kernel
theorem dX9_swap_146 : decode cX9_swap 146 = .ok (.aload_n 0, 1) := by decide +kernel
theorem dX9_swap_147 : decode cX9_swap 147 = .ok (.getfield 232, 3) := by decide +kernel
theorem dX9_swap_150 : decode cX9_swap 150 = .ok (.ireturn, 1) := by decide +kernel
theorem dX9_spoil_0 : decode cX9_spoil 0 = .ok (.iload_n 1, 1) := by decide +kernel
theorem dX9_spoil_1 : decode cX9_spoil 1 = .ok (.i2l, 1) := by decide +kernel
theorem dX9_spoil_2 : decode cX9_spoil 2 = .ok (.lconst 1, 1) := by decide +kernel
theorem dX9_spoil_3 : decode cX9_spoil 3 = .ok (.ldc2_w 161, 3) := by decide +kernel
theorem dX9_spoil_6 : decode cX9_spoil 6 = .ok (.invokestatic 55, 3) := by decide +kernel
theorem dX9_spoil_9 : decode cX9_spoil 9 = .ok (.ifCond .eq 13, 3) := by decide +kernel
theorem dX9_spoil_12 : decode cX9_spoil 12 = .ok (.iload_n 2, 1) := by decide +kernel
theorem dX9_spoil_13 : decode cX9_spoil 13 = .ok (.i2l, 1) := by decide +kernel
theorem dX9_spoil_14 : decode cX9_spoil 14 = .ok (.lconst 0, 1) := by decide +kernel
theorem dX9_spoil_15 : decode cX9_spoil 15 = .ok (.lconst 1, 1) := by decide +kernel
theorem dX9_spoil_16 : decode cX9_spoil 16 = .ok (.invokestatic 55, 3) := by decide +kernel
theorem dX9_spoil_19 : decode cX9_spoil 19 = .ok (.ifCond .ne 5, 3) := by decide +kernel
theorem dX9_spoil_22 : decode cX9_spoil 22 = .ok (.iconst (-1), 1) := by decide +kernel
theorem dX9_spoil_23 : decode cX9_spoil 23 = .ok (.ireturn, 1) := by decide +kernel
theorem dX9_spoil_24 : decode cX9_spoil 24 = .ok (.sipush 1000, 3) := by decide +kernel
theorem dX9_spoil_27 : decode cX9_spoil 27 = .ok (.istore_n 3, 1) := by decide +kernel
theorem dX9_spoil_28 : decode cX9_spoil 28 = .ok (.iconst 0, 1) := by decide +kernel
theorem dX9_spoil_29 : decode cX9_spoil 29 = .ok (.istore 4, 2) := by decide +kernel
theorem dX9_spoil_31 : decode cX9_spoil 31 = .ok (.aload_n 0, 1) := by decide +kernel
theorem dX9_spoil_32 : decode cX9_spoil 32 = .ok (.iconst 0, 1) := by decide +kernel
theorem dX9_spoil_33 : decode cX9_spoil 33 = .ok (.sipush 244, 3) := by decide +kernel
theorem dX9_spoil_36 : decode cX9_spoil 36 = .ok (.invokevirtual 235, 3) := by decide +kernel
theorem dX9_spoil_39 : decode cX9_spoil 39 = .ok (.aload_n 0, 1) := by decide +kernel
theorem dX9_spoil_40 : decode cX9_spoil 40 = .ok (.getfield 7, 3) := by decide +kernel
theorem dX9_spoil_43 : decode cX9_spoil 43 = .ok (.sipush 285, 3) := by decide +kernel
theorem dX9_spoil_46 : decode cX9_spoil 46 = .ok (.iload_n 1, 1) := by decide +kernel
theorem dX9_spoil_47 : decode cX9_spoil 47 = .ok (.iastore, 1) := by decide +kernel
theorem dX9_spoil_48 : decode cX9_spoil 48 = .ok (.iconst 0, 1) := by decide +kernel
theorem dX9_spoil_49 : decode cX9_spoil 49 = .ok (.istore 5, 2) := by decide +kernel
theorem dX9_spoil_51 : decode cX9_spoil 51 = .ok (.iload 5, 2) := by decide +kernel
theorem dX9_spoil_53 : decode cX9_spoil 53 = .ok (.bipush 60, 2) := by decide +kernel
theorem dX9_spoil_55 : decode cX9_spoil 55 = .ok (.if_icmp .ge 56, 3) := by decide +kernel
theorem dX9_spoil_58 : decode cX9_spoil 58 = .ok (.aload_n 0, 1) := by decide +kernel
theorem dX9_spoil_59 : decode cX9_spoil 59 = .ok (.getfield 7, 3) := by decide +kernel
theorem dX9_spoil_62 : decode cX9_spoil 62 = .ok (.sipush 284, 3) := by decide +kernel
theorem dX9_spoil_65 : decode cX9_spoil 65 = .ok (.iload 5, 2) := by decide +kernel
theorem dX9_spoil_67 : decode cX9_spoil 67 = .ok (.iastore, 1) := by decide +kernel
theorem dX9_spoil_68 : decode cX9_spoil 68 = .ok (.aload_n 0, 1) := by decide +kernel
theorem dX9_spoil_69 : decode cX9_spoil 69 = .ok (.sipush 244, 3) := by decide +kernel
theorem dX9_spoil_72 : decode cX9_spoil 72 = .ok (.invokevirtual 195, 3) := by decide +kernel
theorem dX9_spoil_75 : decode cX9_spoil 75 = .ok (.istore 6, 2) := by decide +kernel
theorem dX9_spoil_77 : decode cX9_spoil 77 = .ok (.iload 6, 2) := by decide +kernel
theorem dX9_spoil_79 : decode cX9_spoil 79 = .ok (.iload_n 3, 1) := by decide +kernel
theorem dX9_spoil_80 : decode cX9_spoil 80 = .ok (.if_icmp .ge 8, 3) := by decide +kernel
theorem dX9_spoil_83 : decode cX9_spoil 83 = .ok (.iload 5, 2) := by decide +kernel
theorem dX9_spoil_85 : decode cX9_spoil 85 = .ok (.goto 5, 3) := by decide +kernel
theorem dX9_spoil_88 : decode cX9_spoil 88 = .ok (.iload 4, 2) := by decide +kernel
theorem dX9_spoil_90 : decode cX9_spoil 90 = .ok (.istore 4, 2) := by decide +kernel
theorem dX9_spoil_92 : decode cX9_spoil 92 = .ok (.iload 6, 2) := by decide +kernel
theorem dX9_spoil_94 : decode cX9_spoil 94 = .ok (.iload_n 3, 1) := by decide +kernel
theorem dX9_spoil_95 : decode cX9_spoil 95 = .ok (.if_icmp .ge 8, 3) := by decide +kernel
theorem dX9_spoil_98 : decode cX9_spoil 98 = .ok (.iload 6, 2) := by decide +kernel
theorem dX9_spoil_100 : decode cX9_spoil 100 = .ok (.goto 4, 3) := by decide +kernel
theorem dX9_spoil_103 : decode cX9_spoil 103 = .ok (.iload_n 3, 1) := by decide +kernel
theorem dX9_spoil_104 : decode cX9_spoil 104 = .ok (.istore_n 3, 1) := by decide +kernel
theorem dX9_spoil_105 : decode cX9_spoil 105 = .ok (.iinc 5 1, 3) := by decide +kernel
theorem dX9_spoil_108 : decode cX9_spoil 108 = .ok (.goto (-57), 3) := by decide +kernel
theorem dX9_spoil_111 : decode cX9_spoil 111 = .ok (.iload_n 2, 1) := by decide +kernel
theorem dX9_spoil_112 : decode cX9_spoil 112 = .ok (.ifCond .ne 8, 3) := by decide +kernel
theorem dX9_spoil_115 : decode cX9_spoil 115 = .ok (.iload 4, 2) := by decide +kernel
theorem dX9_spoil_117 : decode cX9_spoil 117 = .ok (.goto 4, 3) := by decide +kernel
theorem dX9_spoil_120 : decode cX9_spoil 120 = .ok (.iload_n 3, 1) := by decide +kernel
theorem dX9_spoil_121 : decode cX9_spoil 121 = .ok (.ireturn, 1) := by decide +kernel
theorem dX9_lowest_0 : decode cX9_lowest 0 = .ok (.lload_n 0, 1) := by decide +kernel
theorem dX9_lowest_1 : decode cX9_lowest 1 = .ok (.lstore 5, 2) := by decide +kernel
theorem dX9_lowest_3 : decode cX9_lowest 3 = .ok (.lload_n 2, 1) := by decide +kernel
theorem dX9_lowest_4 : decode cX9_lowest 4 = .ok (.lstore 7, 2) := by decide +kernel
theorem dX9_lowest_6 : decode cX9_lowest 6 = .ok (.lload 7, 2) := by decide +kernel
theorem dX9_lowest_8 : decode cX9_lowest 8 = .ok (.lconst 0, 1) := by decide +kernel
theorem dX9_lowest_9 : decode cX9_lowest 9 = .ok (.lcmp, 1) := by decide +kernel
theorem dX9_lowest_10 : decode cX9_lowest 10 = .ok (.ifCond .eq 21, 3) := by decide +kernel
theorem dX9_lowest_13 : decode cX9_lowest 13 = .ok (.lload 5, 2) := by decide +kernel
theorem dX9_lowest_15 : decode cX9_lowest 15 = .ok (.lload 7, 2) := by decide +kernel
theorem dX9_lowest_17 : decode cX9_lowest 17 = .ok (.lrem, 1) := by decide +kernel
theorem dX9_lowest_18 : decode cX9_lowest 18 = .ok (.lstore 9, 2) := by decide +kernel
theorem dX9_lowest_20 : decode cX9_lowest 20 = .ok (.lload 7, 2) := by decide +kernel
theorem dX9_lowest_22 : decode cX9_lowest 22 = .ok (.lstore 5, 2) := by decide +kernel
theorem dX9_lowest_24 : decode cX9_lowest 24 = .ok (.lload 9, 2) := by decide +kernel
theorem dX9_lowest_26 : decode cX9_lowest 26 = .ok (.lstore 7, 2) := by decide +kernel
theorem dX9_lowest_28 : decode cX9_lowest 28 = .ok (.goto (-22), 3) := by decide +kernel
theorem dX9_lowest_31 : decode cX9_lowest 31 = .ok (.iload 4, 2) := by decide +kernel
theorem dX9_lowest_33 : decode cX9_lowest 33 = .ok (.ifCond .ne 7, 3) := by decide +kernel
theorem dX9_lowest_36 : decode cX9_lowest 36 = .ok (.lload_n 0, 1) := by decide +kernel
theorem dX9_lowest_37 : decode cX9_lowest 37 = .ok (.goto 4, 3) := by decide +kernel
theorem dX9_lowest_40 : decode cX9_lowest 40 = .ok (.lload_n 2, 1) := by decide +kernel
theorem dX9_lowest_41 : decode cX9_lowest 41 = .ok (.lload 5, 2) := by decide +kernel
theorem dX9_lowest_43 : decode cX9_lowest 43 = .ok (.ldiv, 1) := by decide +kernel
theorem dX9_lowest_44 : decode cX9_lowest 44 = .ok (.lreturn, 1) := by decide +kernel
theorem dX9_byHomes_0 : decode cX9_byHomes 0 = .ok (.lconst 0, 1) := by decide +kernel
theorem dX9_byHomes_1 : decode cX9_byHomes 1 = .ok (.lstore 5, 2) := by decide +kernel
theorem dX9_byHomes_3 : decode cX9_byHomes 3 = .ok (.lconst 1, 1) := by decide +kernel
theorem dX9_byHomes_4 : decode cX9_byHomes 4 = .ok (.lstore 7, 2) := by decide +kernel
theorem dX9_byHomes_6 : decode cX9_byHomes 6 = .ok (.iconst 0, 1) := by decide +kernel
theorem dX9_byHomes_7 : decode cX9_byHomes 7 = .ok (.istore 9, 2) := by decide +kernel
theorem dX9_byHomes_9 : decode cX9_byHomes 9 = .ok (.iload 9, 2) := by decide +kernel
theorem dX9_byHomes_11 : decode cX9_byHomes 11 = .ok (.aload_n 0, 1) := by decide +kernel
theorem dX9_byHomes_12 : decode cX9_byHomes 12 = .ok (.getfield 150, 3) := by decide +kernel
theorem dX9_byHomes_15 : decode cX9_byHomes 15 = .ok (.if_icmp .ge 17, 3) := by decide +kernel
theorem dX9_byHomes_18 : decode cX9_byHomes 18 = .ok (.lload 7, 2) := by decide +kernel
theorem dX9_byHomes_20 : decode cX9_byHomes 20 = .ok (.ldc2_w 242, 3) := by decide +kernel
theorem dX9_byHomes_23 : decode cX9_byHomes 23 = .ok (.lmul, 1) := by decide +kernel
theorem dX9_byHomes_24 : decode cX9_byHomes 24 = .ok (.lstore 7, 2) := by decide +kernel
theorem dX9_byHomes_26 : decode cX9_byHomes 26 = .ok (.iinc 9 1, 3) := by decide +kernel
theorem dX9_byHomes_29 : decode cX9_byHomes 29 = .ok (.goto (-20), 3) := by decide +kernel
theorem dX9_byHomes_32 : decode cX9_byHomes 32 = .ok (.iconst 0, 1) := by decide +kernel
theorem dX9_byHomes_33 : decode cX9_byHomes 33 = .ok (.istore 9, 2) := by decide +kernel
theorem dX9_byHomes_35 : decode cX9_byHomes 35 = .ok (.iload 9, 2) := by decide +kernel
theorem dX9_byHomes_37 : decode cX9_byHomes 37 = .ok (.iconst 1, 1) := by decide +kernel
theorem dX9_byHomes_38 : decode cX9_byHomes 38 = .ok (.aload_n 0, 1) := by decide +kernel
theorem dX9_byHomes_39 : decode cX9_byHomes 39 = .ok (.getfield 150, 3) := by decide +kernel
theorem dX9_byHomes_42 : decode cX9_byHomes 42 = .ok (.ishl, 1) := by decide +kernel
theorem dX9_byHomes_43 : decode cX9_byHomes 43 = .ok (.if_icmp .ge 106, 3) := by decide +kernel
theorem dX9_byHomes_46 : decode cX9_byHomes 46 = .ok (.lconst 1, 1) := by decide +kernel
theorem dX9_byHomes_47 : decode cX9_byHomes 47 = .ok (.lstore 10, 2) := by decide +kernel
theorem dX9_byHomes_49 : decode cX9_byHomes 49 = .ok (.iconst 0, 1) := by decide +kernel
theorem dX9_byHomes_50 : decode cX9_byHomes 50 = .ok (.istore 12, 2) := by decide +kernel
theorem dX9_byHomes_52 : decode cX9_byHomes 52 = .ok (.iload 12, 2) := by decide +kernel
theorem dX9_byHomes_54 : decode cX9_byHomes 54 = .ok (.aload_n 0, 1) := by decide +kernel
theorem dX9_byHomes_55 : decode cX9_byHomes 55 = .ok (.getfield 150, 3) := by decide +kernel
theorem dX9_byHomes_58 : decode cX9_byHomes 58 = .ok (.if_icmp .ge 35, 3) := by decide +kernel
theorem dX9_byHomes_61 : decode cX9_byHomes 61 = .ok (.lload 10, 2) := by decide +kernel
theorem dX9_byHomes_63 : decode cX9_byHomes 63 = .ok (.iload 9, 2) := by decide +kernel
theorem dX9_byHomes_65 : decode cX9_byHomes 65 = .ok (.iload 12, 2) := by decide +kernel
theorem dX9_byHomes_67 : decode cX9_byHomes 67 = .ok (.ishr, 1) := by decide +kernel
theorem dX9_byHomes_68 : decode cX9_byHomes 68 = .ok (.iconst 1, 1) := by decide +kernel
theorem dX9_byHomes_69 : decode cX9_byHomes 69 = .ok (.iand, 1) := by decide +kernel
theorem dX9_byHomes_70 : decode cX9_byHomes 70 = .ok (.iconst 1, 1) := by decide +kernel
theorem dX9_byHomes_71 : decode cX9_byHomes 71 = .ok (.if_icmp .ne 8, 3) := by decide +kernel
theorem dX9_byHomes_74 : decode cX9_byHomes 74 = .ok (.iload_n 1, 1) := by decide +kernel
theorem dX9_byHomes_75 : decode cX9_byHomes 75 = .ok (.i2l, 1) := by decide +kernel
theorem dX9_byHomes_76 : decode cX9_byHomes 76 = .ok (.goto 8, 3) := by decide +kernel
theorem dX9_byHomes_79 : decode cX9_byHomes 79 = .ok (.bipush 10, 2) := by decide +kernel
theorem dX9_byHomes_81 : decode cX9_byHomes 81 = .ok (.iload_n 1, 1) := by decide +kernel
theorem dX9_byHomes_82 : decode cX9_byHomes 82 = .ok (.isub, 1) := by decide +kernel
theorem dX9_byHomes_83 : decode cX9_byHomes 83 = .ok (.i2l, 1) := by decide +kernel
theorem dX9_byHomes_84 : decode cX9_byHomes 84 = .ok (.lmul, 1) := by decide +kernel
theorem dX9_byHomes_85 : decode cX9_byHomes 85 = .ok (.lstore 10, 2) := by decide +kernel
theorem dX9_byHomes_87 : decode cX9_byHomes 87 = .ok (.iinc 12 1, 3) := by decide +kernel
theorem dX9_byHomes_90 : decode cX9_byHomes 90 = .ok (.goto (-38), 3) := by decide +kernel
theorem dX9_byHomes_93 : decode cX9_byHomes 93 = .ok (.aload_n 0, 1) := by decide +kernel
theorem dX9_byHomes_94 : decode cX9_byHomes 94 = .ok (.iload 9, 2) := by decide +kernel
theorem dX9_byHomes_96 : decode cX9_byHomes 96 = .ok (.putfield 172, 3) := by decide +kernel
theorem dX9_byHomes_99 : decode cX9_byHomes 99 = .ok (.aload_n 0, 1) := by decide +kernel
theorem dX9_byHomes_100 : decode cX9_byHomes 100 = .ok (.iconst 0, 1) := by decide +kernel
theorem dX9_byHomes_101 : decode cX9_byHomes 101 = .ok (.invokevirtual 195, 3) := by decide +kernel
theorem dX9_byHomes_104 : decode cX9_byHomes 104 = .ok (.istore 12, 2) := by decide +kernel
theorem dX9_byHomes_106 : decode cX9_byHomes 106 = .ok (.lload 5, 2) := by decide +kernel
theorem dX9_byHomes_108 : decode cX9_byHomes 108 = .ok (.lload 10, 2) := by decide +kernel
theorem dX9_byHomes_110 : decode cX9_byHomes 110 = .ok (.iload_n 2, 1) := by decide +kernel
theorem dX9_byHomes_111 : decode cX9_byHomes 111 = .ok (.bipush (-4), 2) := by decide +kernel
theorem dX9_byHomes_113 : decode cX9_byHomes 113 = .ok (.if_icmp .ne 8, 3) := by decide +kernel
theorem dX9_byHomes_116 : decode cX9_byHomes 116 = .ok (.iload 12, 2) := by decide +kernel
theorem dX9_byHomes_118 : decode cX9_byHomes 118 = .ok (.goto 20, 3) := by decide +kernel
theorem dX9_byHomes_121 : decode cX9_byHomes 121 = .ok (.aload_n 0, 1) := by decide +kernel
theorem dX9_byHomes_122 : decode cX9_byHomes 122 = .ok (.iload_n 2, 1) := by decide +kernel
theorem dX9_byHomes_123 : decode cX9_byHomes 123 = .ok (.iload_n 3, 1) := by decide +kernel
theorem dX9_byHomes_124 : decode cX9_byHomes 124 = .ok (.invokevirtual 186, 3) := by decide +kernel
theorem dX9_byHomes_127 : decode cX9_byHomes 127 = .ok (.sipush 1000, 3) := by decide +kernel
theorem dX9_byHomes_130 : decode cX9_byHomes 130 = .ok (.if_icmp .ge 7, 3) := by decide +kernel
theorem dX9_byHomes_133 : decode cX9_byHomes 133 = .ok (.iconst 1, 1) := by decide +kernel
theorem dX9_byHomes_134 : decode cX9_byHomes 134 = .ok (.goto 4, 3) := by decide +kernel
theorem dX9_byHomes_137 : decode cX9_byHomes 137 = .ok (.iconst 0, 1) := by decide +kernel
theorem dX9_byHomes_138 : decode cX9_byHomes 138 = .ok (.i2l, 1) := by decide +kernel
theorem dX9_byHomes_139 : decode cX9_byHomes 139 = .ok (.lmul, 1) := by decide +kernel
theorem dX9_byHomes_140 : decode cX9_byHomes 140 = .ok (.ladd, 1) := by decide +kernel
theorem dX9_byHomes_141 : decode cX9_byHomes 141 = .ok (.lstore 5, 2) := by decide +kernel
theorem dX9_byHomes_143 : decode cX9_byHomes 143 = .ok (.iinc 9 1, 3) := by decide +kernel
theorem dX9_byHomes_146 : decode cX9_byHomes 146 = .ok (.goto (-111), 3) := by decide +kernel
theorem dX9_byHomes_149 : decode cX9_byHomes 149 = .ok (.aload_n 0, 1) := by decide +kernel
theorem dX9_byHomes_150 : decode cX9_byHomes 150 = .ok (.iconst 0, 1) := by decide +kernel
theorem dX9_byHomes_151 : decode cX9_byHomes 151 = .ok (.putfield 172, 3) := by decide +kernel
theorem dX9_byHomes_154 : decode cX9_byHomes 154 = .ok (.lload 5, 2) := by decide +kernel
theorem dX9_byHomes_156 : decode cX9_byHomes 156 = .ok (.lload 7, 2) := by decide +kernel
theorem dX9_byHomes_158 : decode cX9_byHomes 158 = .ok (.iload 4, 2) := by decide +kernel
theorem dX9_byHomes_160 : decode cX9_byHomes 160 = .ok (.invokestatic 244, 3) := by decide +kernel
theorem dX9_byHomes_163 : decode cX9_byHomes 163 = .ok (.lreturn, 1) := by decide +kernel
theorem dX9_luck_0 : decode cX9_luck 0 = .ok (.iload_n 1, 1) := by decide +kernel
theorem dX9_luck_1 : decode cX9_luck 1 = .ok (.i2l, 1) := by decide +kernel
theorem dX9_luck_2 : decode cX9_luck 2 = .ok (.lconst 0, 1) := by decide +kernel
theorem dX9_luck_3 : decode cX9_luck 3 = .ok (.ldc2_w 242, 3) := by decide +kernel
theorem dX9_luck_6 : decode cX9_luck 6 = .ok (.invokestatic 55, 3) := by decide +kernel
theorem dX9_luck_9 : decode cX9_luck 9 = .ok (.ifCond .eq 41, 3) := by decide +kernel
theorem dX9_luck_12 : decode cX9_luck 12 = .ok (.aload_n 0, 1) := by decide +kernel
theorem dX9_luck_13 : decode cX9_luck 13 = .ok (.iload_n 2, 1) := by decide +kernel
theorem dX9_luck_14 : decode cX9_luck 14 = .ok (.invokevirtual 204, 3) := by decide +kernel
theorem dX9_luck_17 : decode cX9_luck 17 = .ok (.ifCond .eq 33, 3) := by decide +kernel
theorem dX9_luck_20 : decode cX9_luck 20 = .ok (.iload_n 3, 1) := by decide +kernel
theorem dX9_luck_21 : decode cX9_luck 21 = .ok (.invokestatic 229, 3) := by decide +kernel
theorem dX9_luck_24 : decode cX9_luck 24 = .ok (.ifCond .eq 26, 3) := by decide +kernel
theorem dX9_luck_27 : decode cX9_luck 27 = .ok (.iload 4, 2) := by decide +kernel
theorem dX9_luck_29 : decode cX9_luck 29 = .ok (.i2l, 1) := by decide +kernel
theorem dX9_luck_30 : decode cX9_luck 30 = .ok (.lconst 0, 1) := by decide +kernel
theorem dX9_luck_31 : decode cX9_luck 31 = .ok (.lconst 1, 1) := by decide +kernel
theorem dX9_luck_32 : decode cX9_luck 32 = .ok (.invokestatic 55, 3) := by decide +kernel
theorem dX9_luck_35 : decode cX9_luck 35 = .ok (.ifCond .eq 15, 3) := by decide +kernel
theorem dX9_luck_38 : decode cX9_luck 38 = .ok (.aload_n 0, 1) := by decide +kernel
theorem dX9_luck_39 : decode cX9_luck 39 = .ok (.iload_n 1, 1) := by decide +kernel
theorem dX9_luck_40 : decode cX9_luck 40 = .ok (.iload_n 2, 1) := by decide +kernel
theorem dX9_luck_41 : decode cX9_luck 41 = .ok (.iload_n 3, 1) := by decide +kernel
theorem dX9_luck_42 : decode cX9_luck 42 = .ok (.iload 4, 2) := by decide +kernel
theorem dX9_luck_44 : decode cX9_luck 44 = .ok (.invokevirtual 248, 3) := by decide +kernel
theorem dX9_luck_47 : decode cX9_luck 47 = .ok (.goto 6, 3) := by decide +kernel
theorem dX9_luck_50 : decode cX9_luck 50 = .ok (.ldc2_w 252, 3) := by decide +kernel
theorem dX9_luck_53 : decode cX9_luck 53 = .ok (.lreturn, 1) := by decide +kernel
theorem dX9_mean_0 : decode cX9_mean 0 = .ok (.iload_n 1, 1) := by decide +kernel
theorem dX9_mean_1 : decode cX9_mean 1 = .ok (.i2l, 1) := by decide +kernel
theorem dX9_mean_2 : decode cX9_mean 2 = .ok (.lconst 0, 1) := by decide +kernel
theorem dX9_mean_3 : decode cX9_mean 3 = .ok (.ldc2_w 242, 3) := by decide +kernel
theorem dX9_mean_6 : decode cX9_mean 6 = .ok (.invokestatic 55, 3) := by decide +kernel
theorem dX9_mean_9 : decode cX9_mean 9 = .ok (.ifCond .eq 26, 3) := by decide +kernel
theorem dX9_mean_12 : decode cX9_mean 12 = .ok (.iload_n 2, 1) := by decide +kernel
theorem dX9_mean_13 : decode cX9_mean 13 = .ok (.i2l, 1) := by decide +kernel
theorem dX9_mean_14 : decode cX9_mean 14 = .ok (.lconst 0, 1) := by decide +kernel
theorem dX9_mean_15 : decode cX9_mean 15 = .ok (.lconst 1, 1) := by decide +kernel
theorem dX9_mean_16 : decode cX9_mean 16 = .ok (.invokestatic 55, 3) := by decide +kernel
theorem dX9_mean_19 : decode cX9_mean 19 = .ok (.ifCond .eq 16, 3) := by decide +kernel
theorem dX9_mean_22 : decode cX9_mean 22 = .ok (.aload_n 0, 1) := by decide +kernel
theorem dX9_mean_23 : decode cX9_mean 23 = .ok (.iload_n 1, 1) := by decide +kernel
theorem dX9_mean_24 : decode cX9_mean 24 = .ok (.bipush (-4), 2) := by decide +kernel
theorem dX9_mean_26 : decode cX9_mean 26 = .ok (.bipush (-4), 2) := by decide +kernel
theorem dX9_mean_28 : decode cX9_mean 28 = .ok (.iload_n 2, 1) := by decide +kernel
theorem dX9_mean_29 : decode cX9_mean 29 = .ok (.invokevirtual 248, 3) := by decide +kernel
theorem dX9_mean_32 : decode cX9_mean 32 = .ok (.goto 6, 3) := by decide +kernel
theorem dX9_mean_35 : decode cX9_mean 35 = .ok (.ldc2_w 252, 3) := by decide +kernel
theorem dX9_mean_38 : decode cX9_mean 38 = .ok (.lreturn, 1) := by decide +kernel
theorem dX9_see_0 : decode cX9_see 0 = .ok (.aload_n 0, 1) := by decide +kernel
theorem dX9_see_1 : decode cX9_see 1 = .ok (.iload_n 1, 1) := by decide +kernel
theorem dX9_see_2 : decode cX9_see 2 = .ok (.invokevirtual 204, 3) := by decide +kernel
theorem dX9_see_5 : decode cX9_see 5 = .ok (.ifCond .eq 17, 3) := by decide +kernel
theorem dX9_see_8 : decode cX9_see 8 = .ok (.iload_n 2, 1) := by decide +kernel
theorem dX9_see_9 : decode cX9_see 9 = .ok (.invokestatic 229, 3) := by decide +kernel
theorem dX9_see_12 : decode cX9_see 12 = .ok (.ifCond .eq 10, 3) := by decide +kernel
theorem dX9_see_15 : decode cX9_see 15 = .ok (.iload_n 3, 1) := by decide +kernel
theorem dX9_see_16 : decode cX9_see 16 = .ok (.invokestatic 222, 3) := by decide +kernel
theorem dX9_see_19 : decode cX9_see 19 = .ok (.ifCond .ne 5, 3) := by decide +kernel
theorem dX9_see_22 : decode cX9_see 22 = .ok (.iconst (-1), 1) := by decide +kernel
theorem dX9_see_23 : decode cX9_see 23 = .ok (.ireturn, 1) := by decide +kernel
theorem dX9_see_24 : decode cX9_see 24 = .ok (.aload_n 0, 1) := by decide +kernel
theorem dX9_see_25 : decode cX9_see 25 = .ok (.getfield 156, 3) := by decide +kernel
theorem dX9_see_28 : decode cX9_see 28 = .ok (.bipush 6, 2) := by decide +kernel
theorem dX9_see_30 : decode cX9_see 30 = .ok (.if_icmp .ne 6, 3) := by decide +kernel
theorem dX9_see_33 : decode cX9_see 33 = .ok (.bipush (-3), 2) := by decide +kernel
theorem dX9_see_35 : decode cX9_see 35 = .ok (.ireturn, 1) := by decide +kernel
theorem dX9_see_36 : decode cX9_see 36 = .ok (.aload_n 0, 1) := by decide +kernel
theorem dX9_see_37 : decode cX9_see 37 = .ok (.getfield 34, 3) := by decide +kernel
theorem dX9_see_40 : decode cX9_see 40 = .ok (.iconst 4, 1) := by decide +kernel
theorem dX9_see_41 : decode cX9_see 41 = .ok (.aload_n 0, 1) := by decide +kernel
theorem dX9_see_42 : decode cX9_see 42 = .ok (.getfield 156, 3) := by decide +kernel
theorem dX9_see_45 : decode cX9_see 45 = .ok (.imul, 1) := by decide +kernel
theorem dX9_see_46 : decode cX9_see 46 = .ok (.iload_n 1, 1) := by decide +kernel
theorem dX9_see_47 : decode cX9_see 47 = .ok (.iastore, 1) := by decide +kernel
theorem dX9_see_48 : decode cX9_see 48 = .ok (.aload_n 0, 1) := by decide +kernel
theorem dX9_see_49 : decode cX9_see 49 = .ok (.getfield 34, 3) := by decide +kernel
theorem dX9_see_52 : decode cX9_see 52 = .ok (.iconst 4, 1) := by decide +kernel
theorem dX9_see_53 : decode cX9_see 53 = .ok (.aload_n 0, 1) := by decide +kernel
theorem dX9_see_54 : decode cX9_see 54 = .ok (.getfield 156, 3) := by decide +kernel
theorem dX9_see_57 : decode cX9_see 57 = .ok (.imul, 1) := by decide +kernel
theorem dX9_see_58 : decode cX9_see 58 = .ok (.iconst 1, 1) := by decide +kernel
theorem dX9_see_59 : decode cX9_see 59 = .ok (.iadd, 1) := by decide +kernel
theorem dX9_see_60 : decode cX9_see 60 = .ok (.iload_n 2, 1) := by decide +kernel
theorem dX9_see_61 : decode cX9_see 61 = .ok (.iastore, 1) := by decide +kernel
theorem dX9_see_62 : decode cX9_see 62 = .ok (.aload_n 0, 1) := by decide +kernel
theorem dX9_see_63 : decode cX9_see 63 = .ok (.getfield 34, 3) := by decide +kernel
theorem dX9_see_66 : decode cX9_see 66 = .ok (.iconst 4, 1) := by decide +kernel
theorem dX9_see_67 : decode cX9_see 67 = .ok (.aload_n 0, 1) := by decide +kernel
theorem dX9_see_68 : decode cX9_see 68 = .ok (.getfield 156, 3) := by decide +kernel
theorem dX9_see_71 : decode cX9_see 71 = .ok (.imul, 1) := by decide +kernel
theorem dX9_see_72 : decode cX9_see 72 = .ok (.iconst 2, 1) := by decide +kernel
theorem dX9_see_73 : decode cX9_see 73 = .ok (.iadd, 1) := by decide +kernel
theorem dX9_see_74 : decode cX9_see 74 = .ok (.iload_n 3, 1) := by decide +kernel
theorem dX9_see_75 : decode cX9_see 75 = .ok (.iastore, 1) := by decide +kernel
theorem dX9_see_76 : decode cX9_see 76 = .ok (.aload_n 0, 1) := by decide +kernel
theorem dX9_see_77 : decode cX9_see 77 = .ok (.getfield 34, 3) := by decide +kernel
theorem dX9_see_80 : decode cX9_see 80 = .ok (.iconst 4, 1) := by decide +kernel
theorem dX9_see_81 : decode cX9_see 81 = .ok (.aload_n 0, 1) := by decide +kernel
theorem dX9_see_82 : decode cX9_see 82 = .ok (.getfield 156, 3) := by decide +kernel
theorem dX9_see_85 : decode cX9_see 85 = .ok (.imul, 1) := by decide +kernel
theorem dX9_see_86 : decode cX9_see 86 = .ok (.iconst 3, 1) := by decide +kernel
theorem dX9_see_87 : decode cX9_see 87 = .ok (.iadd, 1) := by decide +kernel
theorem dX9_see_88 : decode cX9_see 88 = .ok (.iload 4, 2) := by decide +kernel
theorem dX9_see_90 : decode cX9_see 90 = .ok (.ifCond .eq 7, 3) := by decide +kernel
theorem dX9_see_93 : decode cX9_see 93 = .ok (.iconst 1, 1) := by decide +kernel
theorem dX9_see_94 : decode cX9_see 94 = .ok (.goto 4, 3) := by decide +kernel
theorem dX9_see_97 : decode cX9_see 97 = .ok (.iconst 0, 1) := by decide +kernel
theorem dX9_see_98 : decode cX9_see 98 = .ok (.iastore, 1) := by decide +kernel
theorem dX9_see_99 : decode cX9_see 99 = .ok (.aload_n 0, 1) := by decide +kernel
theorem dX9_see_100 : decode cX9_see 100 = .ok (.dup, 1) := by decide +kernel
theorem dX9_see_101 : decode cX9_see 101 = .ok (.getfield 156, 3) := by decide +kernel
theorem dX9_see_104 : decode cX9_see 104 = .ok (.iconst 1, 1) := by decide +kernel
theorem dX9_see_105 : decode cX9_see 105 = .ok (.iadd, 1) := by decide +kernel
theorem dX9_see_106 : decode cX9_see 106 = .ok (.putfield 156, 3) := by decide +kernel
theorem dX9_see_109 : decode cX9_see 109 = .ok (.aload_n 0, 1) := by decide +kernel
theorem dX9_see_110 : decode cX9_see 110 = .ok (.getfield 156, 3) := by decide +kernel
theorem dX9_see_113 : decode cX9_see 113 = .ok (.ireturn, 1) := by decide +kernel
theorem dX9_forget_0 : decode cX9_forget 0 = .ok (.iload_n 1, 1) := by decide +kernel
theorem dX9_forget_1 : decode cX9_forget 1 = .ok (.i2l, 1) := by decide +kernel
theorem dX9_forget_2 : decode cX9_forget 2 = .ok (.lconst 0, 1) := by decide +kernel
theorem dX9_forget_3 : decode cX9_forget 3 = .ok (.aload_n 0, 1) := by decide +kernel
theorem dX9_forget_4 : decode cX9_forget 4 = .ok (.getfield 156, 3) := by decide +kernel
theorem dX9_forget_7 : decode cX9_forget 7 = .ok (.i2l, 1) := by decide +kernel
theorem dX9_forget_8 : decode cX9_forget 8 = .ok (.invokestatic 55, 3) := by decide +kernel
theorem dX9_forget_11 : decode cX9_forget 11 = .ok (.ifCond .ne 5, 3) := by decide +kernel
theorem dX9_forget_14 : decode cX9_forget 14 = .ok (.iconst (-1), 1) := by decide +kernel
theorem dX9_forget_15 : decode cX9_forget 15 = .ok (.ireturn, 1) := by decide +kernel
theorem dX9_forget_16 : decode cX9_forget 16 = .ok (.aload_n 0, 1) := by decide +kernel
theorem dX9_forget_17 : decode cX9_forget 17 = .ok (.getfield 156, 3) := by decide +kernel
theorem dX9_forget_20 : decode cX9_forget 20 = .ok (.istore_n 2, 1) := by decide +kernel
theorem dX9_forget_21 : decode cX9_forget 21 = .ok (.aload_n 0, 1) := by decide +kernel
theorem dX9_forget_22 : decode cX9_forget 22 = .ok (.iload_n 1, 1) := by decide +kernel
theorem dX9_forget_23 : decode cX9_forget 23 = .ok (.putfield 156, 3) := by decide +kernel
theorem dX9_forget_26 : decode cX9_forget 26 = .ok (.iload_n 2, 1) := by decide +kernel
theorem dX9_forget_27 : decode cX9_forget 27 = .ok (.ireturn, 1) := by decide +kernel
theorem dX9_isAsSeen_0 : decode cX9_isAsSeen 0 = .ok (.aload_n 0, 1) := by decide +kernel
theorem dX9_isAsSeen_1 : decode cX9_isAsSeen 1 = .ok (.iload_n 1, 1) := by decide +kernel
theorem dX9_isAsSeen_2 : decode cX9_isAsSeen 2 = .ok (.invokevirtual 189, 3) := by decide +kernel
theorem dX9_isAsSeen_5 : decode cX9_isAsSeen 5 = .ok (.iconst 1, 1) := by decide +kernel
theorem dX9_isAsSeen_6 : decode cX9_isAsSeen 6 = .ok (.istore_n 2, 1) := by decide +kernel
theorem dX9_isAsSeen_7 : decode cX9_isAsSeen 7 = .ok (.iconst 0, 1) := by decide +kernel
theorem dX9_isAsSeen_8 : decode cX9_isAsSeen 8 = .ok (.istore_n 3, 1) := by decide +kernel
theorem dX9_isAsSeen_9 : decode cX9_isAsSeen 9 = .ok (.iload_n 3, 1) := by decide +kernel
theorem dX9_isAsSeen_10 : decode cX9_isAsSeen 10 = .ok (.aload_n 0, 1) := by decide +kernel
theorem dX9_isAsSeen_11 : decode cX9_isAsSeen 11 = .ok (.getfield 156, 3) := by decide +kernel
theorem dX9_isAsSeen_14 : decode cX9_isAsSeen 14 = .ok (.if_icmp .ge 87, 3) := by decide +kernel
theorem dX9_isAsSeen_17 : decode cX9_isAsSeen 17 = .ok (.iload_n 2, 1) := by decide +kernel
theorem dX9_isAsSeen_18 : decode cX9_isAsSeen 18 = .ok (.ifCond .eq 75, 3) := by decide +kernel
theorem dX9_isAsSeen_21 : decode cX9_isAsSeen 21 = .ok (.aload_n 0, 1) := by decide +kernel
theorem dX9_isAsSeen_22 : decode cX9_isAsSeen 22 = .ok (.aload_n 0, 1) := by decide +kernel
theorem dX9_isAsSeen_23 : decode cX9_isAsSeen 23 = .ok (.getfield 34, 3) := by decide +kernel
theorem dX9_isAsSeen_26 : decode cX9_isAsSeen 26 = .ok (.iconst 4, 1) := by decide +kernel
theorem dX9_isAsSeen_27 : decode cX9_isAsSeen 27 = .ok (.iload_n 3, 1) := by decide +kernel
theorem dX9_isAsSeen_28 : decode cX9_isAsSeen 28 = .ok (.imul, 1) := by decide +kernel
theorem dX9_isAsSeen_29 : decode cX9_isAsSeen 29 = .ok (.iaload, 1) := by decide +kernel
theorem dX9_isAsSeen_30 : decode cX9_isAsSeen 30 = .ok (.invokevirtual 204, 3) := by decide +kernel
theorem dX9_isAsSeen_33 : decode cX9_isAsSeen 33 = .ok (.ifCond .eq 60, 3) := by decide +kernel
theorem dX9_isAsSeen_36 : decode cX9_isAsSeen 36 = .ok (.aload_n 0, 1) := by decide +kernel
theorem dX9_isAsSeen_37 : decode cX9_isAsSeen 37 = .ok (.aload_n 0, 1) := by decide +kernel
theorem dX9_isAsSeen_38 : decode cX9_isAsSeen 38 = .ok (.getfield 34, 3) := by decide +kernel
theorem dX9_isAsSeen_41 : decode cX9_isAsSeen 41 = .ok (.iconst 4, 1) := by decide +kernel
theorem dX9_isAsSeen_42 : decode cX9_isAsSeen 42 = .ok (.iload_n 3, 1) := by decide +kernel
theorem dX9_isAsSeen_43 : decode cX9_isAsSeen 43 = .ok (.imul, 1) := by decide +kernel
theorem dX9_isAsSeen_44 : decode cX9_isAsSeen 44 = .ok (.iaload, 1) := by decide +kernel
theorem dX9_isAsSeen_45 : decode cX9_isAsSeen 45 = .ok (.aload_n 0, 1) := by decide +kernel
theorem dX9_isAsSeen_46 : decode cX9_isAsSeen 46 = .ok (.getfield 34, 3) := by decide +kernel
theorem dX9_isAsSeen_49 : decode cX9_isAsSeen 49 = .ok (.iconst 4, 1) := by decide +kernel
theorem dX9_isAsSeen_50 : decode cX9_isAsSeen 50 = .ok (.iload_n 3, 1) := by decide +kernel
theorem dX9_isAsSeen_51 : decode cX9_isAsSeen 51 = .ok (.imul, 1) := by decide +kernel
theorem dX9_isAsSeen_52 : decode cX9_isAsSeen 52 = .ok (.iconst 1, 1) := by decide +kernel
theorem dX9_isAsSeen_53 : decode cX9_isAsSeen 53 = .ok (.iadd, 1) := by decide +kernel
theorem dX9_isAsSeen_54 : decode cX9_isAsSeen 54 = .ok (.iaload, 1) := by decide +kernel
theorem dX9_isAsSeen_55 : decode cX9_isAsSeen 55 = .ok (.invokevirtual 186, 3) := by decide +kernel
theorem dX9_isAsSeen_58 : decode cX9_isAsSeen 58 = .ok (.aload_n 0, 1) := by decide +kernel
theorem dX9_isAsSeen_59 : decode cX9_isAsSeen 59 = .ok (.getfield 34, 3) := by decide +kernel
theorem dX9_isAsSeen_62 : decode cX9_isAsSeen 62 = .ok (.iconst 4, 1) := by decide +kernel
theorem dX9_isAsSeen_63 : decode cX9_isAsSeen 63 = .ok (.iload_n 3, 1) := by decide +kernel
theorem dX9_isAsSeen_64 : decode cX9_isAsSeen 64 = .ok (.imul, 1) := by decide +kernel
theorem dX9_isAsSeen_65 : decode cX9_isAsSeen 65 = .ok (.iconst 2, 1) := by decide +kernel
theorem dX9_isAsSeen_66 : decode cX9_isAsSeen 66 = .ok (.iadd, 1) := by decide +kernel
theorem dX9_isAsSeen_67 : decode cX9_isAsSeen 67 = .ok (.iaload, 1) := by decide +kernel
theorem dX9_isAsSeen_68 : decode cX9_isAsSeen 68 = .ok (.if_icmp .gt 7, 3) := by decide +kernel
theorem dX9_isAsSeen_71 : decode cX9_isAsSeen 71 = .ok (.iconst 1, 1) := by decide +kernel
theorem dX9_isAsSeen_72 : decode cX9_isAsSeen 72 = .ok (.goto 4, 3) := by decide +kernel
theorem dX9_isAsSeen_75 : decode cX9_isAsSeen 75 = .ok (.iconst 0, 1) := by decide +kernel
theorem dX9_isAsSeen_76 : decode cX9_isAsSeen 76 = .ok (.aload_n 0, 1) := by decide +kernel
theorem dX9_isAsSeen_77 : decode cX9_isAsSeen 77 = .ok (.getfield 34, 3) := by decide +kernel
theorem dX9_isAsSeen_80 : decode cX9_isAsSeen 80 = .ok (.iconst 4, 1) := by decide +kernel
theorem dX9_isAsSeen_81 : decode cX9_isAsSeen 81 = .ok (.iload_n 3, 1) := by decide +kernel
theorem dX9_isAsSeen_82 : decode cX9_isAsSeen 82 = .ok (.imul, 1) := by decide +kernel
theorem dX9_isAsSeen_83 : decode cX9_isAsSeen 83 = .ok (.iconst 3, 1) := by decide +kernel
theorem dX9_isAsSeen_84 : decode cX9_isAsSeen 84 = .ok (.iadd, 1) := by decide +kernel
theorem dX9_isAsSeen_85 : decode cX9_isAsSeen 85 = .ok (.iaload, 1) := by decide +kernel
theorem dX9_isAsSeen_86 : decode cX9_isAsSeen 86 = .ok (.if_icmp .ne 7, 3) := by decide +kernel
theorem dX9_isAsSeen_89 : decode cX9_isAsSeen 89 = .ok (.iconst 1, 1) := by decide +kernel
theorem dX9_isAsSeen_90 : decode cX9_isAsSeen 90 = .ok (.goto 4, 3) := by decide +kernel
theorem dX9_isAsSeen_93 : decode cX9_isAsSeen 93 = .ok (.iconst 0, 1) := by decide +kernel
theorem dX9_isAsSeen_94 : decode cX9_isAsSeen 94 = .ok (.istore_n 2, 1) := by decide +kernel
theorem dX9_isAsSeen_95 : decode cX9_isAsSeen 95 = .ok (.iinc 3 1, 3) := by decide +kernel
theorem dX9_isAsSeen_98 : decode cX9_isAsSeen 98 = .ok (.goto (-89), 3) := by decide +kernel
theorem dX9_isAsSeen_101 : decode cX9_isAsSeen 101 = .ok (.iload_n 2, 1) := by decide +kernel
theorem dX9_isAsSeen_102 : decode cX9_isAsSeen 102 = .ok (.ireturn, 1) := by decide +kernel
theorem dX9_kindsOf_0 : decode cX9_kindsOf 0 = .ok (.iconst 0, 1) := by decide +kernel
theorem dX9_kindsOf_1 : decode cX9_kindsOf 1 = .ok (.istore_n 2, 1) := by decide +kernel
theorem dX9_kindsOf_2 : decode cX9_kindsOf 2 = .ok (.aload_n 0, 1) := by decide +kernel
theorem dX9_kindsOf_3 : decode cX9_kindsOf 3 = .ok (.iconst 0, 1) := by decide +kernel
theorem dX9_kindsOf_4 : decode cX9_kindsOf 4 = .ok (.sipush 244, 3) := by decide +kernel
theorem dX9_kindsOf_7 : decode cX9_kindsOf 7 = .ok (.invokevirtual 235, 3) := by decide +kernel
theorem dX9_kindsOf_10 : decode cX9_kindsOf 10 = .ok (.iconst 0, 1) := by decide +kernel
theorem dX9_kindsOf_11 : decode cX9_kindsOf 11 = .ok (.istore_n 3, 1) := by decide +kernel
theorem dX9_kindsOf_12 : decode cX9_kindsOf 12 = .ok (.iload_n 3, 1) := by decide +kernel
theorem dX9_kindsOf_13 : decode cX9_kindsOf 13 = .ok (.iconst 4, 1) := by decide +kernel
theorem dX9_kindsOf_14 : decode cX9_kindsOf 14 = .ok (.if_icmp .ge 83, 3) := by decide +kernel
theorem dX9_kindsOf_17 : decode cX9_kindsOf 17 = .ok (.aload_n 0, 1) := by decide +kernel
theorem dX9_kindsOf_18 : decode cX9_kindsOf 18 = .ok (.getfield 7, 3) := by decide +kernel
theorem dX9_kindsOf_21 : decode cX9_kindsOf 21 = .ok (.sipush 244, 3) := by decide +kernel
theorem dX9_kindsOf_24 : decode cX9_kindsOf 24 = .ok (.iload_n 1, 1) := by decide +kernel
theorem dX9_kindsOf_25 : decode cX9_kindsOf 25 = .ok (.iadd, 1) := by decide +kernel
theorem dX9_kindsOf_26 : decode cX9_kindsOf 26 = .ok (.iload_n 3, 1) := by decide +kernel
theorem dX9_kindsOf_27 : decode cX9_kindsOf 27 = .ok (.iastore, 1) := by decide +kernel
theorem dX9_kindsOf_28 : decode cX9_kindsOf 28 = .ok (.iload_n 2, 1) := by decide +kernel
theorem dX9_kindsOf_29 : decode cX9_kindsOf 29 = .ok (.aload_n 0, 1) := by decide +kernel
theorem dX9_kindsOf_30 : decode cX9_kindsOf 30 = .ok (.sipush 244, 3) := by decide +kernel
theorem dX9_kindsOf_33 : decode cX9_kindsOf 33 = .ok (.invokevirtual 254, 3) := by decide +kernel
theorem dX9_kindsOf_36 : decode cX9_kindsOf 36 = .ok (.ifCond .eq 9, 3) := by decide +kernel
theorem dX9_kindsOf_39 : decode cX9_kindsOf 39 = .ok (.iconst 1, 1) := by decide +kernel
theorem dX9_kindsOf_40 : decode cX9_kindsOf 40 = .ok (.iload_n 3, 1) := by decide +kernel
theorem dX9_kindsOf_41 : decode cX9_kindsOf 41 = .ok (.ishl, 1) := by decide +kernel
theorem dX9_kindsOf_42 : decode cX9_kindsOf 42 = .ok (.goto 4, 3) := by decide +kernel
theorem dX9_kindsOf_45 : decode cX9_kindsOf 45 = .ok (.iconst 0, 1) := by decide +kernel
theorem dX9_kindsOf_46 : decode cX9_kindsOf 46 = .ok (.ior, 1) := by decide +kernel
theorem dX9_kindsOf_47 : decode cX9_kindsOf 47 = .ok (.istore_n 2, 1) := by decide +kernel
theorem dX9_kindsOf_48 : decode cX9_kindsOf 48 = .ok (.iconst 0, 1) := by decide +kernel
theorem dX9_kindsOf_49 : decode cX9_kindsOf 49 = .ok (.istore 4, 2) := by decide +kernel
theorem dX9_kindsOf_51 : decode cX9_kindsOf 51 = .ok (.iload 4, 2) := by decide +kernel
theorem dX9_kindsOf_53 : decode cX9_kindsOf 53 = .ok (.aload_n 0, 1) := by decide +kernel
theorem dX9_kindsOf_54 : decode cX9_kindsOf 54 = .ok (.getfield 153, 3) := by decide +kernel
theorem dX9_kindsOf_57 : decode cX9_kindsOf 57 = .ok (.if_icmp .ge 34, 3) := by decide +kernel
theorem dX9_kindsOf_60 : decode cX9_kindsOf 60 = .ok (.aload_n 0, 1) := by decide +kernel
theorem dX9_kindsOf_61 : decode cX9_kindsOf 61 = .ok (.getfield 37, 3) := by decide +kernel
theorem dX9_kindsOf_64 : decode cX9_kindsOf 64 = .ok (.iconst 4, 1) := by decide +kernel
theorem dX9_kindsOf_65 : decode cX9_kindsOf 65 = .ok (.iload_n 3, 1) := by decide +kernel
theorem dX9_kindsOf_66 : decode cX9_kindsOf 66 = .ok (.imul, 1) := by decide +kernel
theorem dX9_kindsOf_67 : decode cX9_kindsOf 67 = .ok (.iload 4, 2) := by decide +kernel
theorem dX9_kindsOf_69 : decode cX9_kindsOf 69 = .ok (.iadd, 1) := by decide +kernel
theorem dX9_kindsOf_70 : decode cX9_kindsOf 70 = .ok (.aload_n 0, 1) := by decide +kernel
theorem dX9_kindsOf_71 : decode cX9_kindsOf 71 = .ok (.iload 4, 2) := by decide +kernel
theorem dX9_kindsOf_73 : decode cX9_kindsOf 73 = .ok (.aload_n 0, 1) := by decide +kernel
theorem dX9_kindsOf_74 : decode cX9_kindsOf 74 = .ok (.getfield 7, 3) := by decide +kernel
theorem dX9_kindsOf_77 : decode cX9_kindsOf 77 = .ok (.iconst 4, 1) := by decide +kernel
theorem dX9_kindsOf_78 : decode cX9_kindsOf 78 = .ok (.iload_n 1, 1) := by decide +kernel
theorem dX9_kindsOf_79 : decode cX9_kindsOf 79 = .ok (.iadd, 1) := by decide +kernel
theorem dX9_kindsOf_80 : decode cX9_kindsOf 80 = .ok (.iaload, 1) := by decide +kernel
theorem dX9_kindsOf_81 : decode cX9_kindsOf 81 = .ok (.invokevirtual 186, 3) := by decide +kernel
theorem dX9_kindsOf_84 : decode cX9_kindsOf 84 = .ok (.iastore, 1) := by decide +kernel
theorem dX9_kindsOf_85 : decode cX9_kindsOf 85 = .ok (.iinc 4 1, 3) := by decide +kernel
theorem dX9_kindsOf_88 : decode cX9_kindsOf 88 = .ok (.goto (-37), 3) := by decide +kernel
theorem dX9_kindsOf_91 : decode cX9_kindsOf 91 = .ok (.iinc 3 1, 3) := by decide +kernel
theorem dX9_kindsOf_94 : decode cX9_kindsOf 94 = .ok (.goto (-82), 3) := by decide +kernel
theorem dX9_kindsOf_97 : decode cX9_kindsOf 97 = .ok (.iload_n 2, 1) := by decide +kernel
theorem dX9_kindsOf_98 : decode cX9_kindsOf 98 = .ok (.ireturn, 1) := by decide +kernel
theorem dX9_kinds_0 : decode cX9_kinds 0 = .ok (.aload_n 0, 1) := by decide +kernel
theorem dX9_kinds_1 : decode cX9_kinds 1 = .ok (.iload_n 1, 1) := by decide +kernel
theorem dX9_kinds_2 : decode cX9_kinds 2 = .ok (.invokevirtual 198, 3) := by decide +kernel
theorem dX9_kinds_5 : decode cX9_kinds 5 = .ok (.ifCond .eq 11, 3) := by decide +kernel
theorem dX9_kinds_8 : decode cX9_kinds 8 = .ok (.aload_n 0, 1) := by decide +kernel
theorem dX9_kinds_9 : decode cX9_kinds 9 = .ok (.iload_n 1, 1) := by decide +kernel
theorem dX9_kinds_10 : decode cX9_kinds 10 = .ok (.invokevirtual 257, 3) := by decide +kernel
theorem dX9_kinds_13 : decode cX9_kinds 13 = .ok (.goto 4, 3) := by decide +kernel
theorem dX9_kinds_16 : decode cX9_kinds 16 = .ok (.iconst (-1), 1) := by decide +kernel
theorem dX9_kinds_17 : decode cX9_kinds 17 = .ok (.ireturn, 1) := by decide +kernel
theorem dX9_news_0 : decode cX9_news 0 = .ok (.aload_n 0, 1) := by decide +kernel
theorem dX9_news_1 : decode cX9_news 1 = .ok (.iload_n 1, 1) := by decide +kernel
theorem dX9_news_2 : decode cX9_news 2 = .ok (.invokevirtual 198, 3) := by decide +kernel
theorem dX9_news_5 : decode cX9_news 5 = .ok (.ifCond .ne 5, 3) := by decide +kernel
theorem dX9_news_8 : decode cX9_news 8 = .ok (.iconst (-1), 1) := by decide +kernel
theorem dX9_news_9 : decode cX9_news 9 = .ok (.ireturn, 1) := by decide +kernel
theorem dX9_news_10 : decode cX9_news 10 = .ok (.iconst 0, 1) := by decide +kernel
theorem dX9_news_11 : decode cX9_news 11 = .ok (.istore_n 2, 1) := by decide +kernel
theorem dX9_news_12 : decode cX9_news 12 = .ok (.aload_n 0, 1) := by decide +kernel
theorem dX9_news_13 : decode cX9_news 13 = .ok (.iconst 0, 1) := by decide +kernel
theorem dX9_news_14 : decode cX9_news 14 = .ok (.sipush 244, 3) := by decide +kernel
theorem dX9_news_17 : decode cX9_news 17 = .ok (.invokevirtual 235, 3) := by decide +kernel
theorem dX9_news_20 : decode cX9_news 20 = .ok (.iconst 0, 1) := by decide +kernel
theorem dX9_news_21 : decode cX9_news 21 = .ok (.istore_n 3, 1) := by decide +kernel
theorem dX9_news_22 : decode cX9_news 22 = .ok (.iload_n 3, 1) := by decide +kernel
theorem dX9_news_23 : decode cX9_news 23 = .ok (.bipush 10, 2) := by decide +kernel
theorem dX9_news_25 : decode cX9_news 25 = .ok (.if_icmp .ge 40, 3) := by decide +kernel
theorem dX9_news_28 : decode cX9_news 28 = .ok (.aload_n 0, 1) := by decide +kernel
theorem dX9_news_29 : decode cX9_news 29 = .ok (.getfield 7, 3) := by decide +kernel
theorem dX9_news_32 : decode cX9_news 32 = .ok (.sipush 248, 3) := by decide +kernel
theorem dX9_news_35 : decode cX9_news 35 = .ok (.iload_n 1, 1) := by decide +kernel
theorem dX9_news_36 : decode cX9_news 36 = .ok (.iadd, 1) := by decide +kernel
theorem dX9_news_37 : decode cX9_news 37 = .ok (.iload_n 3, 1) := by decide +kernel
theorem dX9_news_38 : decode cX9_news 38 = .ok (.iastore, 1) := by decide +kernel
theorem dX9_news_39 : decode cX9_news 39 = .ok (.iload_n 2, 1) := by decide +kernel
theorem dX9_news_40 : decode cX9_news 40 = .ok (.aload_n 0, 1) := by decide +kernel
theorem dX9_news_41 : decode cX9_news 41 = .ok (.sipush 244, 3) := by decide +kernel
theorem dX9_news_44 : decode cX9_news 44 = .ok (.invokevirtual 254, 3) := by decide +kernel
theorem dX9_news_47 : decode cX9_news 47 = .ok (.ifCond .eq 9, 3) := by decide +kernel
theorem dX9_news_50 : decode cX9_news 50 = .ok (.iconst 1, 1) := by decide +kernel
theorem dX9_news_51 : decode cX9_news 51 = .ok (.iload_n 3, 1) := by decide +kernel
theorem dX9_news_52 : decode cX9_news 52 = .ok (.ishl, 1) := by decide +kernel
theorem dX9_news_53 : decode cX9_news 53 = .ok (.goto 4, 3) := by decide +kernel
theorem dX9_news_56 : decode cX9_news 56 = .ok (.iconst 0, 1) := by decide +kernel
theorem dX9_news_57 : decode cX9_news 57 = .ok (.ior, 1) := by decide +kernel
theorem dX9_news_58 : decode cX9_news 58 = .ok (.istore_n 2, 1) := by decide +kernel
theorem dX9_news_59 : decode cX9_news 59 = .ok (.iinc 3 1, 3) := by decide +kernel
theorem dX9_news_62 : decode cX9_news 62 = .ok (.goto (-40), 3) := by decide +kernel
theorem dX9_news_65 : decode cX9_news 65 = .ok (.iload_n 2, 1) := by decide +kernel
theorem dX9_news_66 : decode cX9_news 66 = .ok (.ireturn, 1) := by decide +kernel
theorem dX9_ask_0 : decode cX9_ask 0 = .ok (.aload_n 0, 1) := by decide +kernel
theorem dX9_ask_1 : decode cX9_ask 1 = .ok (.iload_n 1, 1) := by decide +kernel
theorem dX9_ask_2 : decode cX9_ask 2 = .ok (.invokevirtual 198, 3) := by decide +kernel
theorem dX9_ask_5 : decode cX9_ask 5 = .ok (.ifCond .eq 13, 3) := by decide +kernel
theorem dX9_ask_8 : decode cX9_ask 8 = .ok (.iload_n 2, 1) := by decide +kernel
theorem dX9_ask_9 : decode cX9_ask 9 = .ok (.i2l, 1) := by decide +kernel
theorem dX9_ask_10 : decode cX9_ask 10 = .ok (.lconst 0, 1) := by decide +kernel
theorem dX9_ask_11 : decode cX9_ask 11 = .ok (.lconst 1, 1) := by decide +kernel
theorem dX9_ask_12 : decode cX9_ask 12 = .ok (.invokestatic 55, 3) := by decide +kernel
theorem dX9_ask_15 : decode cX9_ask 15 = .ok (.ifCond .ne 5, 3) := by decide +kernel
theorem dX9_ask_18 : decode cX9_ask 18 = .ok (.iconst (-1), 1) := by decide +kernel
theorem dX9_ask_19 : decode cX9_ask 19 = .ok (.ireturn, 1) := by decide +kernel
theorem dX9_ask_20 : decode cX9_ask 20 = .ok (.aload_n 0, 1) := by decide +kernel
theorem dX9_ask_21 : decode cX9_ask 21 = .ok (.iload_n 1, 1) := by decide +kernel
theorem dX9_ask_22 : decode cX9_ask 22 = .ok (.invokevirtual 257, 3) := by decide +kernel
theorem dX9_ask_25 : decode cX9_ask 25 = .ok (.istore_n 3, 1) := by decide +kernel
theorem dX9_ask_26 : decode cX9_ask 26 = .ok (.iconst 0, 1) := by decide +kernel
theorem dX9_ask_27 : decode cX9_ask 27 = .ok (.istore 4, 2) := by decide +kernel
theorem dX9_ask_29 : decode cX9_ask 29 = .ok (.iconst 0, 1) := by decide +kernel
theorem dX9_ask_30 : decode cX9_ask 30 = .ok (.istore 5, 2) := by decide +kernel
theorem dX9_ask_32 : decode cX9_ask 32 = .ok (.iload 5, 2) := by decide +kernel
theorem dX9_ask_34 : decode cX9_ask 34 = .ok (.iconst 4, 1) := by decide +kernel
theorem dX9_ask_35 : decode cX9_ask 35 = .ok (.if_icmp .ge 20, 3) := by decide +kernel
theorem dX9_ask_38 : decode cX9_ask 38 = .ok (.iload 4, 2) := by decide +kernel
theorem dX9_ask_40 : decode cX9_ask 40 = .ok (.iload_n 3, 1) := by decide +kernel
theorem dX9_ask_41 : decode cX9_ask 41 = .ok (.iload 5, 2) := by decide +kernel
theorem dX9_ask_43 : decode cX9_ask 43 = .ok (.ishr, 1) := by decide +kernel
theorem dX9_ask_44 : decode cX9_ask 44 = .ok (.iconst 1, 1) := by decide +kernel
theorem dX9_ask_45 : decode cX9_ask 45 = .ok (.iand, 1) := by decide +kernel
theorem dX9_ask_46 : decode cX9_ask 46 = .ok (.iadd, 1) := by decide +kernel
theorem dX9_ask_47 : decode cX9_ask 47 = .ok (.istore 4, 2) := by decide +kernel
theorem dX9_ask_49 : decode cX9_ask 49 = .ok (.iinc 5 1, 3) := by decide +kernel
theorem dX9_ask_52 : decode cX9_ask 52 = .ok (.goto (-20), 3) := by decide +kernel
theorem dX9_ask_55 : decode cX9_ask 55 = .ok (.iload 4, 2) := by decide +kernel
theorem dX9_ask_57 : decode cX9_ask 57 = .ok (.istore 5, 2) := by decide +kernel
theorem dX9_ask_59 : decode cX9_ask 59 = .ok (.bipush (-4), 2) := by decide +kernel
theorem dX9_ask_61 : decode cX9_ask 61 = .ok (.istore 6, 2) := by decide +kernel
theorem dX9_ask_63 : decode cX9_ask 63 = .ok (.iconst 0, 1) := by decide +kernel
theorem dX9_ask_64 : decode cX9_ask 64 = .ok (.istore 7, 2) := by decide +kernel
theorem dX9_ask_66 : decode cX9_ask 66 = .ok (.iload 7, 2) := by decide +kernel
theorem dX9_ask_68 : decode cX9_ask 68 = .ok (.aload_n 0, 1) := by decide +kernel
theorem dX9_ask_69 : decode cX9_ask 69 = .ok (.getfield 153, 3) := by decide +kernel
theorem dX9_ask_72 : decode cX9_ask 72 = .ok (.if_icmp .ge 140, 3) := by decide +kernel
theorem dX9_ask_75 : decode cX9_ask 75 = .ok (.iconst 0, 1) := by decide +kernel
theorem dX9_ask_76 : decode cX9_ask 76 = .ok (.istore 8, 2) := by decide +kernel
theorem dX9_ask_78 : decode cX9_ask 78 = .ok (.iload 8, 2) := by decide +kernel
theorem dX9_ask_80 : decode cX9_ask 80 = .ok (.bipush 60, 2) := by decide +kernel
theorem dX9_ask_82 : decode cX9_ask 82 = .ok (.if_icmp .ge 124, 3) := by decide +kernel
theorem dX9_ask_85 : decode cX9_ask 85 = .ok (.iconst 0, 1) := by decide +kernel
theorem dX9_ask_86 : decode cX9_ask 86 = .ok (.istore 9, 2) := by decide +kernel
theorem dX9_ask_88 : decode cX9_ask 88 = .ok (.iconst 0, 1) := by decide +kernel
theorem dX9_ask_89 : decode cX9_ask 89 = .ok (.istore 10, 2) := by decide +kernel
theorem dX9_ask_91 : decode cX9_ask 91 = .ok (.iload 10, 2) := by decide +kernel
theorem dX9_ask_93 : decode cX9_ask 93 = .ok (.iconst 4, 1) := by decide +kernel
theorem dX9_ask_94 : decode cX9_ask 94 = .ok (.if_icmp .ge 46, 3) := by decide +kernel
theorem dX9_ask_97 : decode cX9_ask 97 = .ok (.iload 9, 2) := by decide +kernel
theorem dX9_ask_99 : decode cX9_ask 99 = .ok (.iload_n 3, 1) := by decide +kernel
theorem dX9_ask_100 : decode cX9_ask 100 = .ok (.iload 10, 2) := by decide +kernel
theorem dX9_ask_102 : decode cX9_ask 102 = .ok (.ishr, 1) := by decide +kernel
theorem dX9_ask_103 : decode cX9_ask 103 = .ok (.iconst 1, 1) := by decide +kernel
theorem dX9_ask_104 : decode cX9_ask 104 = .ok (.iand, 1) := by decide +kernel
theorem dX9_ask_105 : decode cX9_ask 105 = .ok (.iconst 1, 1) := by decide +kernel
theorem dX9_ask_106 : decode cX9_ask 106 = .ok (.if_icmp .ne 24, 3) := by decide +kernel
theorem dX9_ask_109 : decode cX9_ask 109 = .ok (.aload_n 0, 1) := by decide +kernel
theorem dX9_ask_110 : decode cX9_ask 110 = .ok (.getfield 37, 3) := by decide +kernel
theorem dX9_ask_113 : decode cX9_ask 113 = .ok (.iconst 4, 1) := by decide +kernel
theorem dX9_ask_114 : decode cX9_ask 114 = .ok (.iload 10, 2) := by decide +kernel
theorem dX9_ask_116 : decode cX9_ask 116 = .ok (.imul, 1) := by decide +kernel
theorem dX9_ask_117 : decode cX9_ask 117 = .ok (.iload 7, 2) := by decide +kernel
theorem dX9_ask_119 : decode cX9_ask 119 = .ok (.iadd, 1) := by decide +kernel
theorem dX9_ask_120 : decode cX9_ask 120 = .ok (.iaload, 1) := by decide +kernel
theorem dX9_ask_121 : decode cX9_ask 121 = .ok (.iload 8, 2) := by decide +kernel
theorem dX9_ask_123 : decode cX9_ask 123 = .ok (.if_icmp .gt 7, 3) := by decide +kernel
theorem dX9_ask_126 : decode cX9_ask 126 = .ok (.iconst 1, 1) := by decide +kernel
theorem dX9_ask_127 : decode cX9_ask 127 = .ok (.goto 4, 3) := by decide +kernel
theorem dX9_ask_130 : decode cX9_ask 130 = .ok (.iconst 0, 1) := by decide +kernel
theorem dX9_ask_131 : decode cX9_ask 131 = .ok (.iadd, 1) := by decide +kernel
theorem dX9_ask_132 : decode cX9_ask 132 = .ok (.istore 9, 2) := by decide +kernel
theorem dX9_ask_134 : decode cX9_ask 134 = .ok (.iinc 10 1, 3) := by decide +kernel
theorem dX9_ask_137 : decode cX9_ask 137 = .ok (.goto (-46), 3) := by decide +kernel
theorem dX9_ask_140 : decode cX9_ask 140 = .ok (.iload 9, 2) := by decide +kernel
theorem dX9_ask_142 : decode cX9_ask 142 = .ok (.iload 4, 2) := by decide +kernel
theorem dX9_ask_144 : decode cX9_ask 144 = .ok (.iload 9, 2) := by decide +kernel
theorem dX9_ask_146 : decode cX9_ask 146 = .ok (.isub, 1) := by decide +kernel
theorem dX9_ask_147 : decode cX9_ask 147 = .ok (.if_icmp .le 8, 3) := by decide +kernel
theorem dX9_ask_150 : decode cX9_ask 150 = .ok (.iload 9, 2) := by decide +kernel
theorem dX9_ask_152 : decode cX9_ask 152 = .ok (.goto 8, 3) := by decide +kernel
theorem dX9_ask_155 : decode cX9_ask 155 = .ok (.iload 4, 2) := by decide +kernel
theorem dX9_ask_157 : decode cX9_ask 157 = .ok (.iload 9, 2) := by decide +kernel
theorem dX9_ask_159 : decode cX9_ask 159 = .ok (.isub, 1) := by decide +kernel
theorem dX9_ask_160 : decode cX9_ask 160 = .ok (.istore 10, 2) := by decide +kernel
theorem dX9_ask_162 : decode cX9_ask 162 = .ok (.iload 10, 2) := by decide +kernel
theorem dX9_ask_164 : decode cX9_ask 164 = .ok (.iload 5, 2) := by decide +kernel
theorem dX9_ask_166 : decode cX9_ask 166 = .ok (.if_icmp .ge 14, 3) := by decide +kernel
theorem dX9_ask_169 : decode cX9_ask 169 = .ok (.bipush 100, 2) := by decide +kernel
theorem dX9_ask_171 : decode cX9_ask 171 = .ok (.iload 7, 2) := by decide +kernel
theorem dX9_ask_173 : decode cX9_ask 173 = .ok (.imul, 1) := by decide +kernel
theorem dX9_ask_174 : decode cX9_ask 174 = .ok (.iload 8, 2) := by decide +kernel
theorem dX9_ask_176 : decode cX9_ask 176 = .ok (.iadd, 1) := by decide +kernel
theorem dX9_ask_177 : decode cX9_ask 177 = .ok (.goto 5, 3) := by decide +kernel
theorem dX9_ask_180 : decode cX9_ask 180 = .ok (.iload 6, 2) := by decide +kernel
theorem dX9_ask_182 : decode cX9_ask 182 = .ok (.istore 6, 2) := by decide +kernel
theorem dX9_ask_184 : decode cX9_ask 184 = .ok (.iload 10, 2) := by decide +kernel
theorem dX9_ask_186 : decode cX9_ask 186 = .ok (.iload 5, 2) := by decide +kernel
theorem dX9_ask_188 : decode cX9_ask 188 = .ok (.if_icmp .ge 8, 3) := by decide +kernel
theorem dX9_ask_191 : decode cX9_ask 191 = .ok (.iload 10, 2) := by decide +kernel
theorem dX9_ask_193 : decode cX9_ask 193 = .ok (.goto 5, 3) := by decide +kernel
theorem dX9_ask_196 : decode cX9_ask 196 = .ok (.iload 5, 2) := by decide +kernel
theorem dX9_ask_198 : decode cX9_ask 198 = .ok (.istore 5, 2) := by decide +kernel
theorem dX9_ask_200 : decode cX9_ask 200 = .ok (.iinc 8 1, 3) := by decide +kernel
theorem dX9_ask_203 : decode cX9_ask 203 = .ok (.goto (-125), 3) := by decide +kernel
theorem dX9_ask_206 : decode cX9_ask 206 = .ok (.iinc 7 1, 3) := by decide +kernel
theorem dX9_ask_209 : decode cX9_ask 209 = .ok (.goto (-143), 3) := by decide +kernel
theorem dX9_ask_212 : decode cX9_ask 212 = .ok (.iload 6, 2) := by decide +kernel
theorem dX9_ask_214 : decode cX9_ask 214 = .ok (.bipush (-4), 2) := by decide +kernel
theorem dX9_ask_216 : decode cX9_ask 216 = .ok (.if_icmp .eq 7, 3) := by decide +kernel
theorem dX9_ask_219 : decode cX9_ask 219 = .ok (.iload_n 2, 1) := by decide +kernel
theorem dX9_ask_220 : decode cX9_ask 220 = .ok (.ifCond .ne 8, 3) := by decide +kernel
theorem dX9_ask_223 : decode cX9_ask 223 = .ok (.iload 6, 2) := by decide +kernel
theorem dX9_ask_225 : decode cX9_ask 225 = .ok (.goto 5, 3) := by decide +kernel
theorem dX9_ask_228 : decode cX9_ask 228 = .ok (.iload 5, 2) := by decide +kernel
theorem dX9_ask_230 : decode cX9_ask 230 = .ok (.ireturn, 1) := by decide +kernel
theorem dX9_drift_0 : decode cX9_drift 0 = .ok (.iload_n 2, 1) := by decide +kernel
theorem dX9_drift_1 : decode cX9_drift 1 = .ok (.i2l, 1) := by decide +kernel
theorem dX9_drift_2 : decode cX9_drift 2 = .ok (.lconst 1, 1) := by decide +kernel
theorem dX9_drift_3 : decode cX9_drift 3 = .ok (.ldc2_w 260, 3) := by decide +kernel
theorem dX9_drift_6 : decode cX9_drift 6 = .ok (.invokestatic 55, 3) := by decide +kernel
theorem dX9_drift_9 : decode cX9_drift 9 = .ok (.ifCond .eq 13, 3) := by decide +kernel
theorem dX9_drift_12 : decode cX9_drift 12 = .ok (.iload_n 3, 1) := by decide +kernel
theorem dX9_drift_13 : decode cX9_drift 13 = .ok (.i2l, 1) := by decide +kernel
theorem dX9_drift_14 : decode cX9_drift 14 = .ok (.lconst 0, 1) := by decide +kernel
theorem dX9_drift_15 : decode cX9_drift 15 = .ok (.lconst 1, 1) := by decide +kernel
theorem dX9_drift_16 : decode cX9_drift 16 = .ok (.invokestatic 55, 3) := by decide +kernel
theorem dX9_drift_19 : decode cX9_drift 19 = .ok (.ifCond .ne 5, 3) := by decide +kernel
theorem dX9_drift_22 : decode cX9_drift 22 = .ok (.iconst (-1), 1) := by decide +kernel
theorem dX9_drift_23 : decode cX9_drift 23 = .ok (.ireturn, 1) := by decide +kernel
theorem dX9_drift_24 : decode cX9_drift 24 = .ok (.aload_n 0, 1) := by decide +kernel
theorem dX9_drift_25 : decode cX9_drift 25 = .ok (.getfield 150, 3) := by decide +kernel
theorem dX9_drift_28 : decode cX9_drift 28 = .ok (.ifCond .ne 6, 3) := by decide +kernel
theorem dX9_drift_31 : decode cX9_drift 31 = .ok (.bipush (-2), 2) := by decide +kernel
theorem dX9_drift_33 : decode cX9_drift 33 = .ok (.ireturn, 1) := by decide +kernel
theorem dX9_drift_34 : decode cX9_drift 34 = .ok (.aload_n 0, 1) := by decide +kernel
theorem dX9_drift_35 : decode cX9_drift 35 = .ok (.iconst 0, 1) := by decide +kernel
theorem dX9_drift_36 : decode cX9_drift 36 = .ok (.sipush 244, 3) := by decide +kernel
theorem dX9_drift_39 : decode cX9_drift 39 = .ok (.invokevirtual 235, 3) := by decide +kernel
theorem dX9_drift_42 : decode cX9_drift 42 = .ok (.iload_n 1, 1) := by decide +kernel
theorem dX9_drift_43 : decode cX9_drift 43 = .ok (.istore 4, 2) := by decide +kernel
theorem dX9_drift_45 : decode cX9_drift 45 = .ok (.iconst 0, 1) := by decide +kernel
theorem dX9_drift_46 : decode cX9_drift 46 = .ok (.istore 5, 2) := by decide +kernel
theorem dX9_drift_48 : decode cX9_drift 48 = .ok (.iconst 0, 1) := by decide +kernel
theorem dX9_drift_49 : decode cX9_drift 49 = .ok (.istore 6, 2) := by decide +kernel
theorem dX9_drift_51 : decode cX9_drift 51 = .ok (.iconst 0, 1) := by decide +kernel
theorem dX9_drift_52 : decode cX9_drift 52 = .ok (.istore 7, 2) := by decide +kernel
theorem dX9_drift_54 : decode cX9_drift 54 = .ok (.iload 7, 2) := by decide +kernel
theorem dX9_drift_56 : decode cX9_drift 56 = .ok (.iload_n 2, 1) := by decide +kernel
theorem dX9_drift_57 : decode cX9_drift 57 = .ok (.if_icmp .ge 108, 3) := by decide +kernel
theorem dX9_drift_60 : decode cX9_drift 60 = .ok (.iload 4, 2) := by decide +kernel
theorem dX9_drift_62 : decode cX9_drift 62 = .ok (.ldc_w 262, 3) := by decide +kernel
theorem dX9_drift_65 : decode cX9_drift 65 = .ok (.imul, 1) := by decide +kernel
theorem dX9_drift_66 : decode cX9_drift 66 = .ok (.sipush 12345, 3) := by decide +kernel
theorem dX9_drift_69 : decode cX9_drift 69 = .ok (.iadd, 1) := by decide +kernel
theorem dX9_drift_70 : decode cX9_drift 70 = .ok (.istore 4, 2) := by decide +kernel
theorem dX9_drift_72 : decode cX9_drift 72 = .ok (.iload 4, 2) := by decide +kernel
theorem dX9_drift_74 : decode cX9_drift 74 = .ok (.bipush 16, 2) := by decide +kernel
theorem dX9_drift_76 : decode cX9_drift 76 = .ok (.ishr, 1) := by decide +kernel
theorem dX9_drift_77 : decode cX9_drift 77 = .ok (.sipush 32767, 3) := by decide +kernel
theorem dX9_drift_80 : decode cX9_drift 80 = .ok (.iand, 1) := by decide +kernel
theorem dX9_drift_81 : decode cX9_drift 81 = .ok (.istore 8, 2) := by decide +kernel
theorem dX9_drift_83 : decode cX9_drift 83 = .ok (.iload 8, 2) := by decide +kernel
theorem dX9_drift_85 : decode cX9_drift 85 = .ok (.aload_n 0, 1) := by decide +kernel
theorem dX9_drift_86 : decode cX9_drift 86 = .ok (.getfield 150, 3) := by decide +kernel
theorem dX9_drift_89 : decode cX9_drift 89 = .ok (.irem, 1) := by decide +kernel
theorem dX9_drift_90 : decode cX9_drift 90 = .ok (.istore 9, 2) := by decide +kernel
theorem dX9_drift_92 : decode cX9_drift 92 = .ok (.aload_n 0, 1) := by decide +kernel
theorem dX9_drift_93 : decode cX9_drift 93 = .ok (.sipush 244, 3) := by decide +kernel
theorem dX9_drift_96 : decode cX9_drift 96 = .ok (.iload 9, 2) := by decide +kernel
theorem dX9_drift_98 : decode cX9_drift 98 = .ok (.iload 8, 2) := by decide +kernel
theorem dX9_drift_100 : decode cX9_drift 100 = .ok (.iconst 4, 1) := by decide +kernel
theorem dX9_drift_101 : decode cX9_drift 101 = .ok (.idiv, 1) := by decide +kernel
theorem dX9_drift_102 : decode cX9_drift 102 = .ok (.aload_n 0, 1) := by decide +kernel
theorem dX9_drift_103 : decode cX9_drift 103 = .ok (.getfield 7, 3) := by decide +kernel
theorem dX9_drift_106 : decode cX9_drift 106 = .ok (.sipush 252, 3) := by decide +kernel
theorem dX9_drift_109 : decode cX9_drift 109 = .ok (.iload 9, 2) := by decide +kernel
theorem dX9_drift_111 : decode cX9_drift 111 = .ok (.iadd, 1) := by decide +kernel
theorem dX9_drift_112 : decode cX9_drift 112 = .ok (.iaload, 1) := by decide +kernel
theorem dX9_drift_113 : decode cX9_drift 113 = .ok (.irem, 1) := by decide +kernel
theorem dX9_drift_114 : decode cX9_drift 114 = .ok (.invokevirtual 218, 3) := by decide +kernel
theorem dX9_drift_117 : decode cX9_drift 117 = .ok (.aload_n 0, 1) := by decide +kernel
theorem dX9_drift_118 : decode cX9_drift 118 = .ok (.getfield 7, 3) := by decide +kernel
theorem dX9_drift_121 : decode cX9_drift 121 = .ok (.sipush 284, 3) := by decide +kernel
theorem dX9_drift_124 : decode cX9_drift 124 = .ok (.iload 8, 2) := by decide +kernel
theorem dX9_drift_126 : decode cX9_drift 126 = .ok (.bipush 16, 2) := by decide +kernel
theorem dX9_drift_128 : decode cX9_drift 128 = .ok (.idiv, 1) := by decide +kernel
theorem dX9_drift_129 : decode cX9_drift 129 = .ok (.bipush 60, 2) := by decide +kernel
theorem dX9_drift_131 : decode cX9_drift 131 = .ok (.irem, 1) := by decide +kernel
theorem dX9_drift_132 : decode cX9_drift 132 = .ok (.iastore, 1) := by decide +kernel
theorem dX9_drift_133 : decode cX9_drift 133 = .ok (.aload_n 0, 1) := by decide +kernel
theorem dX9_drift_134 : decode cX9_drift 134 = .ok (.getfield 7, 3) := by decide +kernel
theorem dX9_drift_137 : decode cX9_drift 137 = .ok (.sipush 285, 3) := by decide +kernel
theorem dX9_drift_140 : decode cX9_drift 140 = .ok (.bipush 10, 2) := by decide +kernel
theorem dX9_drift_142 : decode cX9_drift 142 = .ok (.iastore, 1) := by decide +kernel
theorem dX9_drift_143 : decode cX9_drift 143 = .ok (.aload_n 0, 1) := by decide +kernel
theorem dX9_drift_144 : decode cX9_drift 144 = .ok (.sipush 244, 3) := by decide +kernel
theorem dX9_drift_147 : decode cX9_drift 147 = .ok (.invokevirtual 195, 3) := by decide +kernel
theorem dX9_drift_150 : decode cX9_drift 150 = .ok (.istore 6, 2) := by decide +kernel
theorem dX9_drift_152 : decode cX9_drift 152 = .ok (.iload 5, 2) := by decide +kernel
theorem dX9_drift_154 : decode cX9_drift 154 = .ok (.iload 6, 2) := by decide +kernel
theorem dX9_drift_156 : decode cX9_drift 156 = .ok (.iadd, 1) := by decide +kernel
theorem dX9_drift_157 : decode cX9_drift 157 = .ok (.istore 5, 2) := by decide +kernel
theorem dX9_drift_159 : decode cX9_drift 159 = .ok (.iinc 7 1, 3) := by decide +kernel
theorem dX9_drift_162 : decode cX9_drift 162 = .ok (.goto (-108), 3) := by decide +kernel
theorem dX9_drift_165 : decode cX9_drift 165 = .ok (.iload_n 3, 1) := by decide +kernel
theorem dX9_drift_166 : decode cX9_drift 166 = .ok (.ifCond .ne 8, 3) := by decide +kernel
theorem dX9_drift_169 : decode cX9_drift 169 = .ok (.iload 5, 2) := by decide +kernel
theorem dX9_drift_171 : decode cX9_drift 171 = .ok (.goto 5, 3) := by decide +kernel
theorem dX9_drift_174 : decode cX9_drift 174 = .ok (.iload 6, 2) := by decide +kernel
theorem dX9_drift_176 : decode cX9_drift 176 = .ok (.ireturn, 1) := by decide +kernel
theorem dX9_keep_0 : decode cX9_keep 0 = .ok (.iload_n 1, 1) := by decide +kernel
theorem dX9_keep_1 : decode cX9_keep 1 = .ok (.i2l, 1) := by decide +kernel
theorem dX9_keep_2 : decode cX9_keep 2 = .ok (.lconst 0, 1) := by decide +kernel
theorem dX9_keep_3 : decode cX9_keep 3 = .ok (.lconst 1, 1) := by decide +kernel
theorem dX9_keep_4 : decode cX9_keep 4 = .ok (.invokestatic 55, 3) := by decide +kernel
theorem dX9_keep_7 : decode cX9_keep 7 = .ok (.ifCond .ne 5, 3) := by decide +kernel
theorem dX9_keep_10 : decode cX9_keep 10 = .ok (.iconst (-1), 1) := by decide +kernel
theorem dX9_keep_11 : decode cX9_keep 11 = .ok (.ireturn, 1) := by decide +kernel
theorem dX9_keep_12 : decode cX9_keep 12 = .ok (.aload_n 0, 1) := by decide +kernel
theorem dX9_keep_13 : decode cX9_keep 13 = .ok (.iconst 0, 1) := by decide +kernel
theorem dX9_keep_14 : decode cX9_keep 14 = .ok (.bipush 61, 2) := by decide +kernel
theorem dX9_keep_16 : decode cX9_keep 16 = .ok (.iload_n 1, 1) := by decide +kernel
theorem dX9_keep_17 : decode cX9_keep 17 = .ok (.iconst 1, 1) := by decide +kernel
theorem dX9_keep_18 : decode cX9_keep 18 = .ok (.iadd, 1) := by decide +kernel
theorem dX9_keep_19 : decode cX9_keep 19 = .ok (.imul, 1) := by decide +kernel
theorem dX9_keep_20 : decode cX9_keep 20 = .ok (.invokevirtual 235, 3) := by decide +kernel
theorem dX9_keep_23 : decode cX9_keep 23 = .ok (.aload_n 0, 1) := by decide +kernel
theorem dX9_keep_24 : decode cX9_keep 24 = .ok (.getfield 40, 3) := by decide +kernel
theorem dX9_keep_27 : decode cX9_keep 27 = .ok (.iload_n 1, 1) := by decide +kernel
theorem dX9_keep_28 : decode cX9_keep 28 = .ok (.baload, 1) := by decide +kernel
theorem dX9_keep_29 : decode cX9_keep 29 = .ok (.ifCond .eq 7, 3) := by decide +kernel
theorem dX9_keep_32 : decode cX9_keep 32 = .ok (.iconst 1, 1) := by decide +kernel
theorem dX9_keep_33 : decode cX9_keep 33 = .ok (.goto 4, 3) := by decide +kernel
theorem dX9_keep_36 : decode cX9_keep 36 = .ok (.iconst 0, 1) := by decide +kernel
theorem dX9_keep_37 : decode cX9_keep 37 = .ok (.istore_n 2, 1) := by decide +kernel
theorem dX9_keep_38 : decode cX9_keep 38 = .ok (.aload_n 0, 1) := by decide +kernel
theorem dX9_keep_39 : decode cX9_keep 39 = .ok (.getfield 40, 3) := by decide +kernel
theorem dX9_keep_42 : decode cX9_keep 42 = .ok (.iload_n 1, 1) := by decide +kernel
theorem dX9_keep_43 : decode cX9_keep 43 = .ok (.iconst 1, 1) := by decide +kernel
theorem dX9_keep_44 : decode cX9_keep 44 = .ok (.bastore, 1) := by decide +kernel
theorem dX9_keep_45 : decode cX9_keep 45 = .ok (.iload_n 2, 1) := by decide +kernel
theorem dX9_keep_46 : decode cX9_keep 46 = .ok (.ireturn, 1) := by decide +kernel
theorem dX9_back_0 : decode cX9_back 0 = .ok (.iload_n 1, 1) := by decide +kernel
theorem dX9_back_1 : decode cX9_back 1 = .ok (.i2l, 1) := by decide +kernel
theorem dX9_back_2 : decode cX9_back 2 = .ok (.lconst 0, 1) := by decide +kernel
theorem dX9_back_3 : decode cX9_back 3 = .ok (.lconst 1, 1) := by decide +kernel
theorem dX9_back_4 : decode cX9_back 4 = .ok (.invokestatic 55, 3) := by decide +kernel
theorem dX9_back_7 : decode cX9_back 7 = .ok (.ifCond .ne 5, 3) := by decide +kernel
theorem dX9_back_10 : decode cX9_back 10 = .ok (.iconst (-1), 1) := by decide +kernel
theorem dX9_back_11 : decode cX9_back 11 = .ok (.ireturn, 1) := by decide +kernel
theorem dX9_back_12 : decode cX9_back 12 = .ok (.aload_n 0, 1) := by decide +kernel
theorem dX9_back_13 : decode cX9_back 13 = .ok (.getfield 40, 3) := by decide +kernel
theorem dX9_back_16 : decode cX9_back 16 = .ok (.iload_n 1, 1) := by decide +kernel
theorem dX9_back_17 : decode cX9_back 17 = .ok (.baload, 1) := by decide +kernel
theorem dX9_back_18 : decode cX9_back 18 = .ok (.ifCond .ne 6, 3) := by decide +kernel
theorem dX9_back_21 : decode cX9_back 21 = .ok (.bipush (-2), 2) := by decide +kernel
theorem dX9_back_23 : decode cX9_back 23 = .ok (.ireturn, 1) := by decide +kernel
theorem dX9_back_24 : decode cX9_back 24 = .ok (.aload_n 0, 1) := by decide +kernel
theorem dX9_back_25 : decode cX9_back 25 = .ok (.bipush 61, 2) := by decide +kernel
theorem dX9_back_27 : decode cX9_back 27 = .ok (.iload_n 1, 1) := by decide +kernel
theorem dX9_back_28 : decode cX9_back 28 = .ok (.iconst 1, 1) := by decide +kernel
theorem dX9_back_29 : decode cX9_back 29 = .ok (.iadd, 1) := by decide +kernel
theorem dX9_back_30 : decode cX9_back 30 = .ok (.imul, 1) := by decide +kernel
theorem dX9_back_31 : decode cX9_back 31 = .ok (.iconst 0, 1) := by decide +kernel
theorem dX9_back_32 : decode cX9_back 32 = .ok (.invokevirtual 235, 3) := by decide +kernel
theorem dX9_back_35 : decode cX9_back 35 = .ok (.aload_n 0, 1) := by decide +kernel
theorem dX9_back_36 : decode cX9_back 36 = .ok (.iconst 0, 1) := by decide +kernel
theorem dX9_back_37 : decode cX9_back 37 = .ok (.invokevirtual 195, 3) := by decide +kernel
theorem dX9_back_40 : decode cX9_back 40 = .ok (.ireturn, 1) := by decide +kernel
theorem dX9_sheet_0 : decode cX9_sheet 0 = .ok (.iload_n 1, 1) := by decide +kernel
theorem dX9_sheet_1 : decode cX9_sheet 1 = .ok (.i2l, 1) := by decide +kernel
theorem dX9_sheet_2 : decode cX9_sheet 2 = .ok (.lconst 0, 1) := by decide +kernel
theorem dX9_sheet_3 : decode cX9_sheet 3 = .ok (.ldc2_w 209, 3) := by decide +kernel
theorem dX9_sheet_6 : decode cX9_sheet 6 = .ok (.invokestatic 55, 3) := by decide +kernel
theorem dX9_sheet_9 : decode cX9_sheet 9 = .ok (.ifCond .eq 21, 3) := by decide +kernel
theorem dX9_sheet_12 : decode cX9_sheet 12 = .ok (.iload_n 2, 1) := by decide +kernel
theorem dX9_sheet_13 : decode cX9_sheet 13 = .ok (.i2l, 1) := by decide +kernel
theorem dX9_sheet_14 : decode cX9_sheet 14 = .ok (.lconst 0, 1) := by decide +kernel
theorem dX9_sheet_15 : decode cX9_sheet 15 = .ok (.ldc2_w 207, 3) := by decide +kernel
theorem dX9_sheet_18 : decode cX9_sheet 18 = .ok (.invokestatic 55, 3) := by decide +kernel
theorem dX9_sheet_21 : decode cX9_sheet 21 = .ok (.ifCond .eq 9, 3) := by decide +kernel
theorem dX9_sheet_24 : decode cX9_sheet 24 = .ok (.iload_n 3, 1) := by decide +kernel
theorem dX9_sheet_25 : decode cX9_sheet 25 = .ok (.bipush 40, 2) := by decide +kernel
theorem dX9_sheet_27 : decode cX9_sheet 27 = .ok (.if_icmp .le 5, 3) := by decide +kernel
theorem dX9_sheet_30 : decode cX9_sheet 30 = .ok (.iconst (-1), 1) := by decide +kernel
theorem dX9_sheet_31 : decode cX9_sheet 31 = .ok (.ireturn, 1) := by decide +kernel
theorem dX9_sheet_32 : decode cX9_sheet 32 = .ok (.iload_n 3, 1) := by decide +kernel
theorem dX9_sheet_33 : decode cX9_sheet 33 = .ok (.ifCond .ge 6, 3) := by decide +kernel
theorem dX9_sheet_36 : decode cX9_sheet 36 = .ok (.bipush (-14), 2) := by decide +kernel
theorem dX9_sheet_38 : decode cX9_sheet 38 = .ok (.ireturn, 1) := by decide +kernel
theorem dX9_sheet_39 : decode cX9_sheet 39 = .ok (.aload_n 0, 1) := by decide +kernel
theorem dX9_sheet_40 : decode cX9_sheet 40 = .ok (.getfield 44, 3) := by decide +kernel
theorem dX9_sheet_43 : decode cX9_sheet 43 = .ok (.iload_n 1, 1) := by decide +kernel
theorem dX9_sheet_44 : decode cX9_sheet 44 = .ok (.iload_n 2, 1) := by decide +kernel
theorem dX9_sheet_45 : decode cX9_sheet 45 = .ok (.iastore, 1) := by decide +kernel
theorem dX9_sheet_46 : decode cX9_sheet 46 = .ok (.aload_n 0, 1) := by decide +kernel
theorem dX9_sheet_47 : decode cX9_sheet 47 = .ok (.getfield 47, 3) := by decide +kernel
theorem dX9_sheet_50 : decode cX9_sheet 50 = .ok (.iload_n 1, 1) := by decide +kernel
theorem dX9_sheet_51 : decode cX9_sheet 51 = .ok (.iload_n 3, 1) := by decide +kernel
theorem dX9_sheet_52 : decode cX9_sheet 52 = .ok (.iastore, 1) := by decide +kernel
theorem dX9_sheet_53 : decode cX9_sheet 53 = .ok (.iconst 0, 1) := by decide +kernel
theorem dX9_sheet_54 : decode cX9_sheet 54 = .ok (.istore 4, 2) := by decide +kernel
theorem dX9_sheet_56 : decode cX9_sheet 56 = .ok (.iload 4, 2) := by decide +kernel
theorem dX9_sheet_58 : decode cX9_sheet 58 = .ok (.bipush 40, 2) := by decide +kernel
theorem dX9_sheet_60 : decode cX9_sheet 60 = .ok (.if_icmp .ge 22, 3) := by decide +kernel
theorem dX9_sheet_63 : decode cX9_sheet 63 = .ok (.aload_n 0, 1) := by decide +kernel
theorem dX9_sheet_64 : decode cX9_sheet 64 = .ok (.getfield 50, 3) := by decide +kernel
theorem dX9_sheet_67 : decode cX9_sheet 67 = .ok (.bipush 40, 2) := by decide +kernel
theorem dX9_sheet_69 : decode cX9_sheet 69 = .ok (.iload_n 1, 1) := by decide +kernel
theorem dX9_sheet_70 : decode cX9_sheet 70 = .ok (.imul, 1) := by decide +kernel
theorem dX9_sheet_71 : decode cX9_sheet 71 = .ok (.iload 4, 2) := by decide +kernel
theorem dX9_sheet_73 : decode cX9_sheet 73 = .ok (.iadd, 1) := by decide +kernel
theorem dX9_sheet_74 : decode cX9_sheet 74 = .ok (.iconst 0, 1) := by decide +kernel
theorem dX9_sheet_75 : decode cX9_sheet 75 = .ok (.iastore, 1) := by decide +kernel
theorem dX9_sheet_76 : decode cX9_sheet 76 = .ok (.iinc 4 1, 3) := by decide +kernel
theorem dX9_sheet_79 : decode cX9_sheet 79 = .ok (.goto (-23), 3) := by decide +kernel
theorem dX9_sheet_82 : decode cX9_sheet 82 = .ok (.iconst 1, 1) := by decide +kernel
theorem dX9_sheet_83 : decode cX9_sheet 83 = .ok (.ireturn, 1) := by decide +kernel
theorem dX9_lay_0 : decode cX9_lay 0 = .ok (.iload_n 1, 1) := by decide +kernel
theorem dX9_lay_1 : decode cX9_lay 1 = .ok (.i2l, 1) := by decide +kernel
theorem dX9_lay_2 : decode cX9_lay 2 = .ok (.lconst 0, 1) := by decide +kernel
theorem dX9_lay_3 : decode cX9_lay 3 = .ok (.ldc2_w 209, 3) := by decide +kernel
theorem dX9_lay_6 : decode cX9_lay 6 = .ok (.invokestatic 55, 3) := by decide +kernel
theorem dX9_lay_9 : decode cX9_lay 9 = .ok (.ifCond .ne 5, 3) := by decide +kernel
theorem dX9_lay_12 : decode cX9_lay 12 = .ok (.iconst (-1), 1) := by decide +kernel
theorem dX9_lay_13 : decode cX9_lay 13 = .ok (.ireturn, 1) := by decide +kernel
theorem dX9_lay_14 : decode cX9_lay 14 = .ok (.aload_n 0, 1) := by decide +kernel
theorem dX9_lay_15 : decode cX9_lay 15 = .ok (.getfield 44, 3) := by decide +kernel
theorem dX9_lay_18 : decode cX9_lay 18 = .ok (.iload_n 1, 1) := by decide +kernel
theorem dX9_lay_19 : decode cX9_lay 19 = .ok (.iaload, 1) := by decide +kernel
theorem dX9_lay_20 : decode cX9_lay 20 = .ok (.bipush (-4), 2) := by decide +kernel
theorem dX9_lay_22 : decode cX9_lay 22 = .ok (.if_icmp .ne 6, 3) := by decide +kernel
theorem dX9_lay_25 : decode cX9_lay 25 = .ok (.bipush (-11), 2) := by decide +kernel
theorem dX9_lay_27 : decode cX9_lay 27 = .ok (.ireturn, 1) := by decide +kernel
theorem dX9_lay_28 : decode cX9_lay 28 = .ok (.iload_n 2, 1) := by decide +kernel
theorem dX9_lay_29 : decode cX9_lay 29 = .ok (.i2l, 1) := by decide +kernel
theorem dX9_lay_30 : decode cX9_lay 30 = .ok (.lconst 0, 1) := by decide +kernel
theorem dX9_lay_31 : decode cX9_lay 31 = .ok (.aload_n 0, 1) := by decide +kernel
theorem dX9_lay_32 : decode cX9_lay 32 = .ok (.getfield 47, 3) := by decide +kernel
theorem dX9_lay_35 : decode cX9_lay 35 = .ok (.iload_n 1, 1) := by decide +kernel
theorem dX9_lay_36 : decode cX9_lay 36 = .ok (.iaload, 1) := by decide +kernel
theorem dX9_lay_37 : decode cX9_lay 37 = .ok (.iconst 1, 1) := by decide +kernel
theorem dX9_lay_38 : decode cX9_lay 38 = .ok (.isub, 1) := by decide +kernel
theorem dX9_lay_39 : decode cX9_lay 39 = .ok (.i2l, 1) := by decide +kernel
theorem dX9_lay_40 : decode cX9_lay 40 = .ok (.invokestatic 55, 3) := by decide +kernel
theorem dX9_lay_43 : decode cX9_lay 43 = .ok (.ifCond .ne 6, 3) := by decide +kernel
theorem dX9_lay_46 : decode cX9_lay 46 = .ok (.bipush (-12), 2) := by decide +kernel
theorem dX9_lay_48 : decode cX9_lay 48 = .ok (.ireturn, 1) := by decide +kernel
theorem dX9_lay_49 : decode cX9_lay 49 = .ok (.aload_n 0, 1) := by decide +kernel
theorem dX9_lay_50 : decode cX9_lay 50 = .ok (.getfield 50, 3) := by decide +kernel
theorem dX9_lay_53 : decode cX9_lay 53 = .ok (.bipush 40, 2) := by decide +kernel
theorem dX9_lay_55 : decode cX9_lay 55 = .ok (.iload_n 1, 1) := by decide +kernel
theorem dX9_lay_56 : decode cX9_lay 56 = .ok (.imul, 1) := by decide +kernel
theorem dX9_lay_57 : decode cX9_lay 57 = .ok (.iload_n 2, 1) := by decide +kernel
theorem dX9_lay_58 : decode cX9_lay 58 = .ok (.iadd, 1) := by decide +kernel
theorem dX9_lay_59 : decode cX9_lay 59 = .ok (.aload_n 0, 1) := by decide +kernel
theorem dX9_lay_60 : decode cX9_lay 60 = .ok (.getfield 44, 3) := by decide +kernel
theorem dX9_lay_63 : decode cX9_lay 63 = .ok (.iload_n 1, 1) := by decide +kernel
theorem dX9_lay_64 : decode cX9_lay 64 = .ok (.iaload, 1) := by decide +kernel
theorem dX9_lay_65 : decode cX9_lay 65 = .ok (.ifCond .ne 13, 3) := by decide +kernel
theorem dX9_lay_68 : decode cX9_lay 68 = .ok (.iload_n 3, 1) := by decide +kernel
theorem dX9_lay_69 : decode cX9_lay 69 = .ok (.bipush 24, 2) := by decide +kernel
theorem dX9_lay_71 : decode cX9_lay 71 = .ok (.ishl, 1) := by decide +kernel
theorem dX9_lay_72 : decode cX9_lay 72 = .ok (.bipush 24, 2) := by decide +kernel
theorem dX9_lay_74 : decode cX9_lay 74 = .ok (.ishr, 1) := by decide +kernel
theorem dX9_lay_75 : decode cX9_lay 75 = .ok (.goto 24, 3) := by decide +kernel
theorem dX9_lay_78 : decode cX9_lay 78 = .ok (.aload_n 0, 1) := by decide +kernel
theorem dX9_lay_79 : decode cX9_lay 79 = .ok (.getfield 44, 3) := by decide +kernel
theorem dX9_lay_82 : decode cX9_lay 82 = .ok (.iload_n 1, 1) := by decide +kernel
theorem dX9_lay_83 : decode cX9_lay 83 = .ok (.iaload, 1) := by decide +kernel
theorem dX9_lay_84 : decode cX9_lay 84 = .ok (.iconst 1, 1) := by decide +kernel
theorem dX9_lay_85 : decode cX9_lay 85 = .ok (.if_icmp .ne 13, 3) := by decide +kernel
theorem dX9_lay_88 : decode cX9_lay 88 = .ok (.iload_n 3, 1) := by decide +kernel
theorem dX9_lay_89 : decode cX9_lay 89 = .ok (.bipush 16, 2) := by decide +kernel
theorem dX9_lay_91 : decode cX9_lay 91 = .ok (.ishl, 1) := by decide +kernel
theorem dX9_lay_92 : decode cX9_lay 92 = .ok (.bipush 16, 2) := by decide +kernel
theorem dX9_lay_94 : decode cX9_lay 94 = .ok (.ishr, 1) := by decide +kernel
theorem dX9_lay_95 : decode cX9_lay 95 = .ok (.goto 4, 3) := by decide +kernel
theorem dX9_lay_98 : decode cX9_lay 98 = .ok (.iload_n 3, 1) := by decide +kernel
theorem dX9_lay_99 : decode cX9_lay 99 = .ok (.iastore, 1) := by decide +kernel
theorem dX9_lay_100 : decode cX9_lay 100 = .ok (.iconst 1, 1) := by decide +kernel
theorem dX9_lay_101 : decode cX9_lay 101 = .ok (.ireturn, 1) := by decide +kernel
theorem dX9_read_0 : decode cX9_read 0 = .ok (.iload_n 1, 1) := by decide +kernel
theorem dX9_read_1 : decode cX9_read 1 = .ok (.i2l, 1) := by decide +kernel
theorem dX9_read_2 : decode cX9_read 2 = .ok (.lconst 0, 1) := by decide +kernel
theorem dX9_read_3 : decode cX9_read 3 = .ok (.ldc2_w 209, 3) := by decide +kernel
theorem dX9_read_6 : decode cX9_read 6 = .ok (.invokestatic 55, 3) := by decide +kernel
theorem dX9_read_9 : decode cX9_read 9 = .ok (.ifCond .eq 28, 3) := by decide +kernel
theorem dX9_read_12 : decode cX9_read 12 = .ok (.iload_n 2, 1) := by decide +kernel
theorem dX9_read_13 : decode cX9_read 13 = .ok (.i2l, 1) := by decide +kernel
theorem dX9_read_14 : decode cX9_read 14 = .ok (.lconst 0, 1) := by decide +kernel
theorem dX9_read_15 : decode cX9_read 15 = .ok (.ldc2_w 207, 3) := by decide +kernel
theorem dX9_read_18 : decode cX9_read 18 = .ok (.invokestatic 55, 3) := by decide +kernel
theorem dX9_read_21 : decode cX9_read 21 = .ok (.ifCond .eq 16, 3) := by decide +kernel
theorem dX9_read_24 : decode cX9_read 24 = .ok (.iload 4, 2) := by decide +kernel
theorem dX9_read_26 : decode cX9_read 26 = .ok (.i2l, 1) := by decide +kernel
theorem dX9_read_27 : decode cX9_read 27 = .ok (.lconst 0, 1) := by decide +kernel
theorem dX9_read_28 : decode cX9_read 28 = .ok (.ldc2_w 263, 3) := by decide +kernel
theorem dX9_read_31 : decode cX9_read 31 = .ok (.invokestatic 55, 3) := by decide +kernel
theorem dX9_read_34 : decode cX9_read 34 = .ok (.ifCond .ne 5, 3) := by decide +kernel
theorem dX9_read_37 : decode cX9_read 37 = .ok (.iconst (-1), 1) := by decide +kernel
theorem dX9_read_38 : decode cX9_read 38 = .ok (.ireturn, 1) := by decide +kernel
theorem dX9_read_39 : decode cX9_read 39 = .ok (.aload_n 0, 1) := by decide +kernel
theorem dX9_read_40 : decode cX9_read 40 = .ok (.iconst 0, 1) := by decide +kernel
theorem dX9_read_41 : decode cX9_read 41 = .ok (.sipush 183, 3) := by decide +kernel
theorem dX9_read_44 : decode cX9_read 44 = .ok (.invokevirtual 235, 3) := by decide +kernel
theorem dX9_read_47 : decode cX9_read 47 = .ok (.iconst 0, 1) := by decide +kernel
theorem dX9_read_48 : decode cX9_read 48 = .ok (.istore 5, 2) := by decide +kernel
theorem dX9_read_50 : decode cX9_read 50 = .ok (.iconst 0, 1) := by decide +kernel
theorem dX9_read_51 : decode cX9_read 51 = .ok (.istore 6, 2) := by decide +kernel
theorem dX9_read_53 : decode cX9_read 53 = .ok (.iconst 0, 1) := by decide +kernel
theorem dX9_read_54 : decode cX9_read 54 = .ok (.istore 7, 2) := by decide +kernel
theorem dX9_read_56 : decode cX9_read 56 = .ok (.iload 7, 2) := by decide +kernel
theorem dX9_read_58 : decode cX9_read 58 = .ok (.iconst 2, 1) := by decide +kernel
theorem dX9_read_59 : decode cX9_read 59 = .ok (.iload 4, 2) := by decide +kernel
theorem dX9_read_61 : decode cX9_read 61 = .ok (.imul, 1) := by decide +kernel
theorem dX9_read_62 : decode cX9_read 62 = .ok (.if_icmp .ge 137, 3) := by decide +kernel
theorem dX9_read_65 : decode cX9_read 65 = .ok (.iload 5, 2) := by decide +kernel
theorem dX9_read_67 : decode cX9_read 67 = .ok (.ifCond .ne 132, 3) := by decide +kernel
theorem dX9_read_70 : decode cX9_read 70 = .ok (.aload_n 0, 1) := by decide +kernel
theorem dX9_read_71 : decode cX9_read 71 = .ok (.getfield 44, 3) := by decide +kernel
theorem dX9_read_74 : decode cX9_read 74 = .ok (.iload_n 1, 1) := by decide +kernel
theorem dX9_read_75 : decode cX9_read 75 = .ok (.iaload, 1) := by decide +kernel
theorem dX9_read_76 : decode cX9_read 76 = .ok (.bipush (-4), 2) := by decide +kernel
theorem dX9_read_78 : decode cX9_read 78 = .ok (.if_icmp .ne 7, 3) := by decide +kernel
theorem dX9_read_81 : decode cX9_read 81 = .ok (.iconst 1, 1) := by decide +kernel
theorem dX9_read_82 : decode cX9_read 82 = .ok (.goto 44, 3) := by decide +kernel
theorem dX9_read_85 : decode cX9_read 85 = .ok (.aload_n 0, 1) := by decide +kernel
theorem dX9_read_86 : decode cX9_read 86 = .ok (.getfield 44, 3) := by decide +kernel
theorem dX9_read_89 : decode cX9_read 89 = .ok (.iload_n 1, 1) := by decide +kernel
theorem dX9_read_90 : decode cX9_read 90 = .ok (.iaload, 1) := by decide +kernel
theorem dX9_read_91 : decode cX9_read 91 = .ok (.iload_n 2, 1) := by decide +kernel
theorem dX9_read_92 : decode cX9_read 92 = .ok (.if_icmp .eq 7, 3) := by decide +kernel
theorem dX9_read_95 : decode cX9_read 95 = .ok (.iconst 3, 1) := by decide +kernel
