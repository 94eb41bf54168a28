theorem dX0_init_0 : decode cX0_init 0 = .ok (.aload_n 0, 1) := by decide +kernel
theorem dX0_init_1 : decode cX0_init 1 = .ok (.invokespecial 3, 3) := by decide +kernel
theorem dX0_init_4 : decode cX0_init 4 = .ok (.aload_n 0, 1) := by decide +kernel
theorem dX0_init_5 : decode cX0_init 5 = .ok (.iconst 4, 1) := by decide +kernel
theorem dX0_init_6 : decode cX0_init 6 = .ok (.newarray .int, 2) := by decide +kernel
theorem dX0_init_8 : decode cX0_init 8 = .ok (.putfield 9, 3) := by decide +kernel
theorem dX0_init_11 : decode cX0_init 11 = .ok (.return_, 1) := by decide +kernel
theorem dX0_copyFrom_0 : decode cX0_copyFrom 0 = .ok (.aload_n 0, 1) := by decide +kernel
theorem dX0_copyFrom_1 : decode cX0_copyFrom 1 = .ok (.aload_n 1, 1) := by decide +kernel
theorem dX0_copyFrom_2 : decode cX0_copyFrom 2 = .ok (.getfield 15, 3) := by decide +kernel
theorem dX0_copyFrom_5 : decode cX0_copyFrom 5 = .ok (.putfield 15, 3) := by decide +kernel
theorem dX0_copyFrom_8 : decode cX0_copyFrom 8 = .ok (.aload_n 0, 1) := by decide +kernel
theorem dX0_copyFrom_9 : decode cX0_copyFrom 9 = .ok (.aload_n 1, 1) := by decide +kernel
theorem dX0_copyFrom_10 : decode cX0_copyFrom 10 = .ok (.getfield 19, 3) := by decide +kernel
theorem dX0_copyFrom_13 : decode cX0_copyFrom 13 = .ok (.putfield 19, 3) := by decide +kernel
theorem dX0_copyFrom_16 : decode cX0_copyFrom 16 = .ok (.aload_n 0, 1) := by decide +kernel
theorem dX0_copyFrom_17 : decode cX0_copyFrom 17 = .ok (.aload_n 1, 1) := by decide +kernel
theorem dX0_copyFrom_18 : decode cX0_copyFrom 18 = .ok (.getfield 22, 3) := by decide +kernel
theorem dX0_copyFrom_21 : decode cX0_copyFrom 21 = .ok (.putfield 22, 3) := by decide +kernel
theorem dX0_copyFrom_24 : decode cX0_copyFrom 24 = .ok (.iconst 0, 1) := by decide +kernel
theorem dX0_copyFrom_25 : decode cX0_copyFrom 25 = .ok (.istore_n 2, 1) := by decide +kernel
theorem dX0_copyFrom_26 : decode cX0_copyFrom 26 = .ok (.iload_n 2, 1) := by decide +kernel
theorem dX0_copyFrom_27 : decode cX0_copyFrom 27 = .ok (.aload_n 0, 1) := by decide +kernel
theorem dX0_copyFrom_28 : decode cX0_copyFrom 28 = .ok (.getfield 22, 3) := by decide +kernel
theorem dX0_copyFrom_31 : decode cX0_copyFrom 31 = .ok (.if_icmp .ge 21, 3) := by decide +kernel
theorem dX0_copyFrom_34 : decode cX0_copyFrom 34 = .ok (.aload_n 0, 1) := by decide +kernel
theorem dX0_copyFrom_35 : decode cX0_copyFrom 35 = .ok (.getfield 9, 3) := by decide +kernel
theorem dX0_copyFrom_38 : decode cX0_copyFrom 38 = .ok (.iload_n 2, 1) := by decide +kernel
theorem dX0_copyFrom_39 : decode cX0_copyFrom 39 = .ok (.aload_n 1, 1) := by decide +kernel
theorem dX0_copyFrom_40 : decode cX0_copyFrom 40 = .ok (.getfield 9, 3) := by decide +kernel
theorem dX0_copyFrom_43 : decode cX0_copyFrom 43 = .ok (.iload_n 2, 1) := by decide +kernel
theorem dX0_copyFrom_44 : decode cX0_copyFrom 44 = .ok (.iaload, 1) := by decide +kernel
theorem dX0_copyFrom_45 : decode cX0_copyFrom 45 = .ok (.iastore, 1) := by decide +kernel
theorem dX0_copyFrom_46 : decode cX0_copyFrom 46 = .ok (.iinc 2 1, 3) := by decide +kernel
theorem dX0_copyFrom_49 : decode cX0_copyFrom 49 = .ok (.goto (-23), 3) := by decide +kernel
theorem dX0_copyFrom_52 : decode cX0_copyFrom 52 = .ok (.return_, 1) := by decide +kernel
theorem dX0_hasPlace_0 : decode cX0_hasPlace 0 = .ok (.iload_n 1, 1) := by decide +kernel
theorem dX0_hasPlace_1 : decode cX0_hasPlace 1 = .ok (.ifCond .lt 15, 3) := by decide +kernel
theorem dX0_hasPlace_4 : decode cX0_hasPlace 4 = .ok (.iload_n 1, 1) := by decide +kernel
theorem dX0_hasPlace_5 : decode cX0_hasPlace 5 = .ok (.aload_n 0, 1) := by decide +kernel
theorem dX0_hasPlace_6 : decode cX0_hasPlace 6 = .ok (.getfield 22, 3) := by decide +kernel
theorem dX0_hasPlace_9 : decode cX0_hasPlace 9 = .ok (.if_icmp .ge 7, 3) := by decide +kernel
theorem dX0_hasPlace_12 : decode cX0_hasPlace 12 = .ok (.iconst 1, 1) := by decide +kernel
theorem dX0_hasPlace_13 : decode cX0_hasPlace 13 = .ok (.goto 4, 3) := by decide +kernel
theorem dX0_hasPlace_16 : decode cX0_hasPlace 16 = .ok (.iconst 0, 1) := by decide +kernel
theorem dX0_hasPlace_17 : decode cX0_hasPlace 17 = .ok (.ireturn, 1) := by decide +kernel
theorem dX0_addCorner_0 : decode cX0_addCorner 0 = .ok (.aload_n 0, 1) := by decide +kernel
theorem dX0_addCorner_1 : decode cX0_addCorner 1 = .ok (.getfield 22, 3) := by decide +kernel
theorem dX0_addCorner_4 : decode cX0_addCorner 4 = .ok (.iconst 4, 1) := by decide +kernel
theorem dX0_addCorner_5 : decode cX0_addCorner 5 = .ok (.if_icmp .lt 5, 3) := by decide +kernel
theorem dX0_addCorner_8 : decode cX0_addCorner 8 = .ok (.iconst 0, 1) := by decide +kernel
theorem dX0_addCorner_9 : decode cX0_addCorner 9 = .ok (.ireturn, 1) := by decide +kernel
theorem dX0_addCorner_10 : decode cX0_addCorner 10 = .ok (.aload_n 0, 1) := by decide +kernel
theorem dX0_addCorner_11 : decode cX0_addCorner 11 = .ok (.getfield 9, 3) := by decide +kernel
theorem dX0_addCorner_14 : decode cX0_addCorner 14 = .ok (.aload_n 0, 1) := by decide +kernel
theorem dX0_addCorner_15 : decode cX0_addCorner 15 = .ok (.getfield 22, 3) := by decide +kernel
theorem dX0_addCorner_18 : decode cX0_addCorner 18 = .ok (.iload_n 1, 1) := by decide +kernel
theorem dX0_addCorner_19 : decode cX0_addCorner 19 = .ok (.iastore, 1) := by decide +kernel
theorem dX0_addCorner_20 : decode cX0_addCorner 20 = .ok (.aload_n 0, 1) := by decide +kernel
theorem dX0_addCorner_21 : decode cX0_addCorner 21 = .ok (.dup, 1) := by decide +kernel
theorem dX0_addCorner_22 : decode cX0_addCorner 22 = .ok (.getfield 22, 3) := by decide +kernel
theorem dX0_addCorner_25 : decode cX0_addCorner 25 = .ok (.iconst 1, 1) := by decide +kernel
theorem dX0_addCorner_26 : decode cX0_addCorner 26 = .ok (.iadd, 1) := by decide +kernel
theorem dX0_addCorner_27 : decode cX0_addCorner 27 = .ok (.putfield 22, 3) := by decide +kernel
theorem dX0_addCorner_30 : decode cX0_addCorner 30 = .ok (.iconst 1, 1) := by decide +kernel
theorem dX0_addCorner_31 : decode cX0_addCorner 31 = .ok (.ireturn, 1) := by decide +kernel
theorem dX0_pace_0 : decode cX0_pace 0 = .ok (.aload_n 0, 1) := by decide +kernel
theorem dX0_pace_1 : decode cX0_pace 1 = .ok (.getfield 15, 3) := by decide +kernel
theorem dX0_pace_4 : decode cX0_pace 4 = .ok (.tableswitch 35 1 3 #[28, 30, 32], 28) := by decide +kernel
theorem dX0_pace_32 : decode cX0_pace 32 = .ok (.iconst 1, 1) := by decide +kernel
theorem dX0_pace_33 : decode cX0_pace 33 = .ok (.ireturn, 1) := by decide +kernel
theorem dX0_pace_34 : decode cX0_pace 34 = .ok (.iconst 3, 1) := by decide +kernel
theorem dX0_pace_35 : decode cX0_pace 35 = .ok (.ireturn, 1) := by decide +kernel
theorem dX0_pace_36 : decode cX0_pace 36 = .ok (.bipush 6, 2) := by decide +kernel
theorem dX0_pace_38 : decode cX0_pace 38 = .ok (.ireturn, 1) := by decide +kernel
theorem dX0_pace_39 : decode cX0_pace 39 = .ok (.iconst 2, 1) := by decide +kernel
theorem dX0_pace_40 : decode cX0_pace 40 = .ok (.ireturn, 1) := by decide +kernel
theorem dX0_cornerIn_0 : decode cX0_cornerIn 0 = .ok (.aload_n 0, 1) := by decide +kernel
theorem dX0_cornerIn_1 : decode cX0_cornerIn 1 = .ok (.invokevirtual 25, 3) := by decide +kernel
theorem dX0_cornerIn_4 : decode cX0_cornerIn 4 = .ok (.istore_n 2, 1) := by decide +kernel
theorem dX0_cornerIn_5 : decode cX0_cornerIn 5 = .ok (.aload_n 0, 1) := by decide +kernel
theorem dX0_cornerIn_6 : decode cX0_cornerIn 6 = .ok (.getfield 22, 3) := by decide +kernel
theorem dX0_cornerIn_9 : decode cX0_cornerIn 9 = .ok (.iconst 1, 1) := by decide +kernel
theorem dX0_cornerIn_10 : decode cX0_cornerIn 10 = .ok (.if_icmp .lt 9, 3) := by decide +kernel
theorem dX0_cornerIn_13 : decode cX0_cornerIn 13 = .ok (.iload_n 1, 1) := by decide +kernel
theorem dX0_cornerIn_14 : decode cX0_cornerIn 14 = .ok (.iload_n 2, 1) := by decide +kernel
theorem dX0_cornerIn_15 : decode cX0_cornerIn 15 = .ok (.irem, 1) := by decide +kernel
theorem dX0_cornerIn_16 : decode cX0_cornerIn 16 = .ok (.ifCond .eq 6, 3) := by decide +kernel
theorem dX0_cornerIn_19 : decode cX0_cornerIn 19 = .ok (.bipush (-4), 2) := by decide +kernel
theorem dX0_cornerIn_21 : decode cX0_cornerIn 21 = .ok (.ireturn, 1) := by decide +kernel
theorem dX0_cornerIn_22 : decode cX0_cornerIn 22 = .ok (.aload_n 0, 1) := by decide +kernel
theorem dX0_cornerIn_23 : decode cX0_cornerIn 23 = .ok (.getfield 9, 3) := by decide +kernel
theorem dX0_cornerIn_26 : decode cX0_cornerIn 26 = .ok (.iload_n 1, 1) := by decide +kernel
theorem dX0_cornerIn_27 : decode cX0_cornerIn 27 = .ok (.iload_n 2, 1) := by decide +kernel
theorem dX0_cornerIn_28 : decode cX0_cornerIn 28 = .ok (.idiv, 1) := by decide +kernel
theorem dX0_cornerIn_29 : decode cX0_cornerIn 29 = .ok (.aload_n 0, 1) := by decide +kernel
theorem dX0_cornerIn_30 : decode cX0_cornerIn 30 = .ok (.getfield 22, 3) := by decide +kernel
theorem dX0_cornerIn_33 : decode cX0_cornerIn 33 = .ok (.irem, 1) := by decide +kernel
theorem dX0_cornerIn_34 : decode cX0_cornerIn 34 = .ok (.iaload, 1) := by decide +kernel
theorem dX0_cornerIn_35 : decode cX0_cornerIn 35 = .ok (.ireturn, 1) := by decide +kernel
theorem dX0_minutesShown_0 : decode cX0_minutesShown 0 = .ok (.iload_n 2, 1) := by decide +kernel
theorem dX0_minutesShown_1 : decode cX0_minutesShown 1 = .ok (.iconst 1, 1) := by decide +kernel
theorem dX0_minutesShown_2 : decode cX0_minutesShown 2 = .ok (.if_icmp .ne 13, 3) := by decide +kernel
theorem dX0_minutesShown_5 : decode cX0_minutesShown 5 = .ok (.aload_n 0, 1) := by decide +kernel
theorem dX0_minutesShown_6 : decode cX0_minutesShown 6 = .ok (.getfield 22, 3) := by decide +kernel
theorem dX0_minutesShown_9 : decode cX0_minutesShown 9 = .ok (.iconst 2, 1) := by decide +kernel
theorem dX0_minutesShown_10 : decode cX0_minutesShown 10 = .ok (.if_icmp .ge 5, 3) := by decide +kernel
theorem dX0_minutesShown_13 : decode cX0_minutesShown 13 = .ok (.lconst 0, 1) := by decide +kernel
theorem dX0_minutesShown_14 : decode cX0_minutesShown 14 = .ok (.lreturn, 1) := by decide +kernel
theorem dX0_minutesShown_15 : decode cX0_minutesShown 15 = .ok (.aload_n 0, 1) := by decide +kernel
theorem dX0_minutesShown_16 : decode cX0_minutesShown 16 = .ok (.invokevirtual 25, 3) := by decide +kernel
theorem dX0_minutesShown_19 : decode cX0_minutesShown 19 = .ok (.istore_n 3, 1) := by decide +kernel
theorem dX0_minutesShown_20 : decode cX0_minutesShown 20 = .ok (.iload_n 2, 1) := by decide +kernel
theorem dX0_minutesShown_21 : decode cX0_minutesShown 21 = .ok (.iconst 1, 1) := by decide +kernel
theorem dX0_minutesShown_22 : decode cX0_minutesShown 22 = .ok (.if_icmp .ne 7, 3) := by decide +kernel
theorem dX0_minutesShown_25 : decode cX0_minutesShown 25 = .ok (.iconst 1, 1) := by decide +kernel
theorem dX0_minutesShown_26 : decode cX0_minutesShown 26 = .ok (.goto 4, 3) := by decide +kernel
theorem dX0_minutesShown_29 : decode cX0_minutesShown 29 = .ok (.iconst 0, 1) := by decide +kernel
theorem dX0_minutesShown_30 : decode cX0_minutesShown 30 = .ok (.istore 4, 2) := by decide +kernel
theorem dX0_minutesShown_32 : decode cX0_minutesShown 32 = .ok (.lconst 0, 1) := by decide +kernel
theorem dX0_minutesShown_33 : decode cX0_minutesShown 33 = .ok (.lstore 5, 2) := by decide +kernel
theorem dX0_minutesShown_35 : decode cX0_minutesShown 35 = .ok (.iconst 0, 1) := by decide +kernel
theorem dX0_minutesShown_36 : decode cX0_minutesShown 36 = .ok (.istore 7, 2) := by decide +kernel
theorem dX0_minutesShown_38 : decode cX0_minutesShown 38 = .ok (.iload 7, 2) := by decide +kernel
theorem dX0_minutesShown_40 : decode cX0_minutesShown 40 = .ok (.aload_n 0, 1) := by decide +kernel
theorem dX0_minutesShown_41 : decode cX0_minutesShown 41 = .ok (.getfield 22, 3) := by decide +kernel
theorem dX0_minutesShown_44 : decode cX0_minutesShown 44 = .ok (.if_icmp .ge 34, 3) := by decide +kernel
theorem dX0_minutesShown_47 : decode cX0_minutesShown 47 = .ok (.aload_n 0, 1) := by decide +kernel
theorem dX0_minutesShown_48 : decode cX0_minutesShown 48 = .ok (.getfield 9, 3) := by decide +kernel
theorem dX0_minutesShown_51 : decode cX0_minutesShown 51 = .ok (.iload 7, 2) := by decide +kernel
theorem dX0_minutesShown_53 : decode cX0_minutesShown 53 = .ok (.iaload, 1) := by decide +kernel
theorem dX0_minutesShown_54 : decode cX0_minutesShown 54 = .ok (.iload_n 1, 1) := by decide +kernel
theorem dX0_minutesShown_55 : decode cX0_minutesShown 55 = .ok (.if_icmp .ne 17, 3) := by decide +kernel
theorem dX0_minutesShown_58 : decode cX0_minutesShown 58 = .ok (.lload 5, 2) := by decide +kernel
theorem dX0_minutesShown_60 : decode cX0_minutesShown 60 = .ok (.lconst 1, 1) := by decide +kernel
theorem dX0_minutesShown_61 : decode cX0_minutesShown 61 = .ok (.iload_n 3, 1) := by decide +kernel
theorem dX0_minutesShown_62 : decode cX0_minutesShown 62 = .ok (.iload 7, 2) := by decide +kernel
theorem dX0_minutesShown_64 : decode cX0_minutesShown 64 = .ok (.iload 4, 2) := by decide +kernel
theorem dX0_minutesShown_66 : decode cX0_minutesShown 66 = .ok (.iadd, 1) := by decide +kernel
theorem dX0_minutesShown_67 : decode cX0_minutesShown 67 = .ok (.imul, 1) := by decide +kernel
theorem dX0_minutesShown_68 : decode cX0_minutesShown 68 = .ok (.lshl, 1) := by decide +kernel
theorem dX0_minutesShown_69 : decode cX0_minutesShown 69 = .ok (.lor, 1) := by decide +kernel
theorem dX0_minutesShown_70 : decode cX0_minutesShown 70 = .ok (.lstore 5, 2) := by decide +kernel
theorem dX0_minutesShown_72 : decode cX0_minutesShown 72 = .ok (.iinc 7 1, 3) := by decide +kernel
theorem dX0_minutesShown_75 : decode cX0_minutesShown 75 = .ok (.goto (-37), 3) := by decide +kernel
theorem dX0_minutesShown_78 : decode cX0_minutesShown 78 = .ok (.lload 5, 2) := by decide +kernel
theorem dX0_minutesShown_80 : decode cX0_minutesShown 80 = .ok (.lconst 0, 1) := by decide +kernel
theorem dX0_minutesShown_81 : decode cX0_minutesShown 81 = .ok (.lcmp, 1) := by decide +kernel
theorem dX0_minutesShown_82 : decode cX0_minutesShown 82 = .ok (.ifCond .ne 7, 3) := by decide +kernel
theorem dX0_minutesShown_85 : decode cX0_minutesShown 85 = .ok (.lconst 0, 1) := by decide +kernel
theorem dX0_minutesShown_86 : decode cX0_minutesShown 86 = .ok (.goto 14, 3) := by decide +kernel
theorem dX0_minutesShown_89 : decode cX0_minutesShown 89 = .ok (.lload 5, 2) := by decide +kernel
theorem dX0_minutesShown_91 : decode cX0_minutesShown 91 = .ok (.iload_n 3, 1) := by decide +kernel
theorem dX0_minutesShown_92 : decode cX0_minutesShown 92 = .ok (.aload_n 0, 1) := by decide +kernel
theorem dX0_minutesShown_93 : decode cX0_minutesShown 93 = .ok (.getfield 22, 3) := by decide +kernel
theorem dX0_minutesShown_96 : decode cX0_minutesShown 96 = .ok (.imul, 1) := by decide +kernel
theorem dX0_minutesShown_97 : decode cX0_minutesShown 97 = .ok (.invokestatic 29, 3) := by decide +kernel
theorem dX0_minutesShown_100 : decode cX0_minutesShown 100 = .ok (.lreturn, 1) := by decide +kernel
theorem dX0_turnTo_0 : decode cX0_turnTo 0 = .ok (.iconst 0, 1) := by decide +kernel
theorem dX0_turnTo_1 : decode cX0_turnTo 1 = .ok (.istore_n 2, 1) := by decide +kernel
theorem dX0_turnTo_2 : decode cX0_turnTo 2 = .ok (.iload_n 2, 1) := by decide +kernel
theorem dX0_turnTo_3 : decode cX0_turnTo 3 = .ok (.iload_n 1, 1) := by decide +kernel
theorem dX0_turnTo_4 : decode cX0_turnTo 4 = .ok (.if_icmp .ge 13, 3) := by decide +kernel
theorem dX0_turnTo_7 : decode cX0_turnTo 7 = .ok (.aload_n 0, 1) := by decide +kernel
theorem dX0_turnTo_8 : decode cX0_turnTo 8 = .ok (.invokevirtual 33, 3) := by decide +kernel
theorem dX0_turnTo_11 : decode cX0_turnTo 11 = .ok (.iinc 2 1, 3) := by decide +kernel
theorem dX0_turnTo_14 : decode cX0_turnTo 14 = .ok (.goto (-12), 3) := by decide +kernel
theorem dX0_turnTo_17 : decode cX0_turnTo 17 = .ok (.return_, 1) := by decide +kernel
theorem dX0_turnByOne_0 : decode cX0_turnByOne 0 = .ok (.aload_n 0, 1) := by decide +kernel
theorem dX0_turnByOne_1 : decode cX0_turnByOne 1 = .ok (.getfield 9, 3) := by decide +kernel
theorem dX0_turnByOne_4 : decode cX0_turnByOne 4 = .ok (.iconst 0, 1) := by decide +kernel
theorem dX0_turnByOne_5 : decode cX0_turnByOne 5 = .ok (.iaload, 1) := by decide +kernel
theorem dX0_turnByOne_6 : decode cX0_turnByOne 6 = .ok (.istore_n 1, 1) := by decide +kernel
theorem dX0_turnByOne_7 : decode cX0_turnByOne 7 = .ok (.iconst 1, 1) := by decide +kernel
theorem dX0_turnByOne_8 : decode cX0_turnByOne 8 = .ok (.istore_n 2, 1) := by decide +kernel
theorem dX0_turnByOne_9 : decode cX0_turnByOne 9 = .ok (.iload_n 2, 1) := by decide +kernel
theorem dX0_turnByOne_10 : decode cX0_turnByOne 10 = .ok (.aload_n 0, 1) := by decide +kernel
theorem dX0_turnByOne_11 : decode cX0_turnByOne 11 = .ok (.getfield 22, 3) := by decide +kernel
theorem dX0_turnByOne_14 : decode cX0_turnByOne 14 = .ok (.if_icmp .ge 30, 3) := by decide +kernel
theorem dX0_turnByOne_17 : decode cX0_turnByOne 17 = .ok (.aload_n 0, 1) := by decide +kernel
theorem dX0_turnByOne_18 : decode cX0_turnByOne 18 = .ok (.getfield 9, 3) := by decide +kernel
theorem dX0_turnByOne_21 : decode cX0_turnByOne 21 = .ok (.iload_n 2, 1) := by decide +kernel
theorem dX0_turnByOne_22 : decode cX0_turnByOne 22 = .ok (.iconst 1, 1) := by decide +kernel
theorem dX0_turnByOne_23 : decode cX0_turnByOne 23 = .ok (.isub, 1) := by decide +kernel
theorem dX0_turnByOne_24 : decode cX0_turnByOne 24 = .ok (.aload_n 0, 1) := by decide +kernel
theorem dX0_turnByOne_25 : decode cX0_turnByOne 25 = .ok (.getfield 9, 3) := by decide +kernel
theorem dX0_turnByOne_28 : decode cX0_turnByOne 28 = .ok (.iload_n 2, 1) := by decide +kernel
theorem dX0_turnByOne_29 : decode cX0_turnByOne 29 = .ok (.iaload, 1) := by decide +kernel
theorem dX0_turnByOne_30 : decode cX0_turnByOne 30 = .ok (.iastore, 1) := by decide +kernel
theorem dX0_turnByOne_31 : decode cX0_turnByOne 31 = .ok (.aload_n 0, 1) := by decide +kernel
theorem dX0_turnByOne_32 : decode cX0_turnByOne 32 = .ok (.getfield 9, 3) := by decide +kernel
theorem dX0_turnByOne_35 : decode cX0_turnByOne 35 = .ok (.iload_n 2, 1) := by decide +kernel
theorem dX0_turnByOne_36 : decode cX0_turnByOne 36 = .ok (.iload_n 1, 1) := by decide +kernel
theorem dX0_turnByOne_37 : decode cX0_turnByOne 37 = .ok (.iastore, 1) := by decide +kernel
theorem dX0_turnByOne_38 : decode cX0_turnByOne 38 = .ok (.iinc 2 1, 3) := by decide +kernel
theorem dX0_turnByOne_41 : decode cX0_turnByOne 41 = .ok (.goto (-32), 3) := by decide +kernel
theorem dX0_turnByOne_44 : decode cX0_turnByOne 44 = .ok (.return_, 1) := by decide +kernel
theorem dX1_init_0 : decode cX1_init 0 = .ok (.aload_n 0, 1) := by decide +kernel
theorem dX1_init_1 : decode cX1_init 1 = .ok (.invokespecial 3, 3) := by decide +kernel
theorem dX1_init_4 : decode cX1_init 4 = .ok (.aload_n 0, 1) := by decide +kernel
theorem dX1_init_5 : decode cX1_init 5 = .ok (.bipush 6, 2) := by decide +kernel
theorem dX1_init_7 : decode cX1_init 7 = .ok (.newarray .int, 2) := by decide +kernel
theorem dX1_init_9 : decode cX1_init 9 = .ok (.putfield 9, 3) := by decide +kernel
theorem dX1_init_12 : decode cX1_init 12 = .ok (.aload_n 0, 1) := by decide +kernel
theorem dX1_init_13 : decode cX1_init 13 = .ok (.bipush 6, 2) := by decide +kernel
theorem dX1_init_15 : decode cX1_init 15 = .ok (.newarray .int, 2) := by decide +kernel
theorem dX1_init_17 : decode cX1_init 17 = .ok (.putfield 15, 3) := by decide +kernel
theorem dX1_init_20 : decode cX1_init 20 = .ok (.aload_n 0, 1) := by decide +kernel
theorem dX1_init_21 : decode cX1_init 21 = .ok (.bipush 6, 2) := by decide +kernel
theorem dX1_init_23 : decode cX1_init 23 = .ok (.newarray .int, 2) := by decide +kernel
theorem dX1_init_25 : decode cX1_init 25 = .ok (.putfield 18, 3) := by decide +kernel
theorem dX1_init_28 : decode cX1_init 28 = .ok (.aload_n 0, 1) := by decide +kernel
theorem dX1_init_29 : decode cX1_init 29 = .ok (.bipush 6, 2) := by decide +kernel
theorem dX1_init_31 : decode cX1_init 31 = .ok (.newarray .boolean, 2) := by decide +kernel
theorem dX1_init_33 : decode cX1_init 33 = .ok (.putfield 21, 3) := by decide +kernel
theorem dX1_init_36 : decode cX1_init 36 = .ok (.return_, 1) := by decide +kernel
theorem dX1_add_0 : decode cX1_add 0 = .ok (.aload_n 0, 1) := by decide +kernel
theorem dX1_add_1 : decode cX1_add 1 = .ok (.getfield 25, 3) := by decide +kernel
theorem dX1_add_4 : decode cX1_add 4 = .ok (.bipush 6, 2) := by decide +kernel
theorem dX1_add_6 : decode cX1_add 6 = .ok (.if_icmp .lt 5, 3) := by decide +kernel
theorem dX1_add_9 : decode cX1_add 9 = .ok (.iconst 0, 1) := by decide +kernel
theorem dX1_add_10 : decode cX1_add 10 = .ok (.ireturn, 1) := by decide +kernel
theorem dX1_add_11 : decode cX1_add 11 = .ok (.aload_n 0, 1) := by decide +kernel
theorem dX1_add_12 : decode cX1_add 12 = .ok (.getfield 9, 3) := by decide +kernel
theorem dX1_add_15 : decode cX1_add 15 = .ok (.aload_n 0, 1) := by decide +kernel
theorem dX1_add_16 : decode cX1_add 16 = .ok (.getfield 25, 3) := by decide +kernel
theorem dX1_add_19 : decode cX1_add 19 = .ok (.iload_n 1, 1) := by decide +kernel
theorem dX1_add_20 : decode cX1_add 20 = .ok (.iastore, 1) := by decide +kernel
theorem dX1_add_21 : decode cX1_add 21 = .ok (.aload_n 0, 1) := by decide +kernel
theorem dX1_add_22 : decode cX1_add 22 = .ok (.getfield 15, 3) := by decide +kernel
theorem dX1_add_25 : decode cX1_add 25 = .ok (.aload_n 0, 1) := by decide +kernel
theorem dX1_add_26 : decode cX1_add 26 = .ok (.getfield 25, 3) := by decide +kernel
theorem dX1_add_29 : decode cX1_add 29 = .ok (.iload_n 2, 1) := by decide +kernel
theorem dX1_add_30 : decode cX1_add 30 = .ok (.iastore, 1) := by decide +kernel
theorem dX1_add_31 : decode cX1_add 31 = .ok (.aload_n 0, 1) := by decide +kernel
theorem dX1_add_32 : decode cX1_add 32 = .ok (.getfield 18, 3) := by decide +kernel
theorem dX1_add_35 : decode cX1_add 35 = .ok (.aload_n 0, 1) := by decide +kernel
theorem dX1_add_36 : decode cX1_add 36 = .ok (.getfield 25, 3) := by decide +kernel
theorem dX1_add_39 : decode cX1_add 39 = .ok (.iload_n 3, 1) := by decide +kernel
theorem dX1_add_40 : decode cX1_add 40 = .ok (.iastore, 1) := by decide +kernel
theorem dX1_add_41 : decode cX1_add 41 = .ok (.aload_n 0, 1) := by decide +kernel
theorem dX1_add_42 : decode cX1_add 42 = .ok (.getfield 21, 3) := by decide +kernel
theorem dX1_add_45 : decode cX1_add 45 = .ok (.aload_n 0, 1) := by decide +kernel
theorem dX1_add_46 : decode cX1_add 46 = .ok (.getfield 25, 3) := by decide +kernel
theorem dX1_add_49 : decode cX1_add 49 = .ok (.iload 4, 2) := by decide +kernel
theorem dX1_add_51 : decode cX1_add 51 = .ok (.bastore, 1) := by decide +kernel
theorem dX1_add_52 : decode cX1_add 52 = .ok (.aload_n 0, 1) := by decide +kernel
theorem dX1_add_53 : decode cX1_add 53 = .ok (.dup, 1) := by decide +kernel
theorem dX1_add_54 : decode cX1_add 54 = .ok (.getfield 25, 3) := by decide +kernel
theorem dX1_add_57 : decode cX1_add 57 = .ok (.iconst 1, 1) := by decide +kernel
theorem dX1_add_58 : decode cX1_add 58 = .ok (.iadd, 1) := by decide +kernel
theorem dX1_add_59 : decode cX1_add 59 = .ok (.putfield 25, 3) := by decide +kernel
theorem dX1_add_62 : decode cX1_add 62 = .ok (.iconst 1, 1) := by decide +kernel
theorem dX1_add_63 : decode cX1_add 63 = .ok (.ireturn, 1) := by decide +kernel
theorem dX1_agreesWith_0 : decode cX1_agreesWith 0 = .ok (.iconst 0, 1) := by decide +kernel
theorem dX1_agreesWith_1 : decode cX1_agreesWith 1 = .ok (.istore_n 2, 1) := by decide +kernel
theorem dX1_agreesWith_2 : decode cX1_agreesWith 2 = .ok (.iload_n 2, 1) := by decide +kernel
theorem dX1_agreesWith_3 : decode cX1_agreesWith 3 = .ok (.aload_n 0, 1) := by decide +kernel
theorem dX1_agreesWith_4 : decode cX1_agreesWith 4 = .ok (.getfield 25, 3) := by decide +kernel
theorem dX1_agreesWith_7 : decode cX1_agreesWith 7 = .ok (.if_icmp .ge 80, 3) := by decide +kernel
theorem dX1_agreesWith_10 : decode cX1_agreesWith 10 = .ok (.aload_n 1, 1) := by decide +kernel
theorem dX1_agreesWith_11 : decode cX1_agreesWith 11 = .ok (.aload_n 0, 1) := by decide +kernel
theorem dX1_agreesWith_12 : decode cX1_agreesWith 12 = .ok (.getfield 9, 3) := by decide +kernel
theorem dX1_agreesWith_15 : decode cX1_agreesWith 15 = .ok (.iload_n 2, 1) := by decide +kernel
theorem dX1_agreesWith_16 : decode cX1_agreesWith 16 = .ok (.iaload, 1) := by decide +kernel
theorem dX1_agreesWith_17 : decode cX1_agreesWith 17 = .ok (.invokevirtual 29, 3) := by decide +kernel
theorem dX1_agreesWith_20 : decode cX1_agreesWith 20 = .ok (.astore_n 3, 1) := by decide +kernel
theorem dX1_agreesWith_21 : decode cX1_agreesWith 21 = .ok (.aload_n 3, 1) := by decide +kernel
theorem dX1_agreesWith_22 : decode cX1_agreesWith 22 = .ok (.ifnonnull 5, 3) := by decide +kernel
theorem dX1_agreesWith_25 : decode cX1_agreesWith 25 = .ok (.iconst 0, 1) := by decide +kernel
theorem dX1_agreesWith_26 : decode cX1_agreesWith 26 = .ok (.ireturn, 1) := by decide +kernel
theorem dX1_agreesWith_27 : decode cX1_agreesWith 27 = .ok (.aload_n 1, 1) := by decide +kernel
theorem dX1_agreesWith_28 : decode cX1_agreesWith 28 = .ok (.aload_n 3, 1) := by decide +kernel
theorem dX1_agreesWith_29 : decode cX1_agreesWith 29 = .ok (.iconst 0, 1) := by decide +kernel
theorem dX1_agreesWith_30 : decode cX1_agreesWith 30 = .ok (.aload_n 0, 1) := by decide +kernel
theorem dX1_agreesWith_31 : decode cX1_agreesWith 31 = .ok (.getfield 18, 3) := by decide +kernel
theorem dX1_agreesWith_34 : decode cX1_agreesWith 34 = .ok (.iload_n 2, 1) := by decide +kernel
theorem dX1_agreesWith_35 : decode cX1_agreesWith 35 = .ok (.iaload, 1) := by decide +kernel
theorem dX1_agreesWith_36 : decode cX1_agreesWith 36 = .ok (.invokestatic 35, 3) := by decide +kernel
theorem dX1_agreesWith_39 : decode cX1_agreesWith 39 = .ok (.bipush 15, 2) := by decide +kernel
theorem dX1_agreesWith_41 : decode cX1_agreesWith 41 = .ok (.invokevirtual 39, 3) := by decide +kernel
theorem dX1_agreesWith_44 : decode cX1_agreesWith 44 = .ok (.istore 4, 2) := by decide +kernel
theorem dX1_agreesWith_46 : decode cX1_agreesWith 46 = .ok (.iload 4, 2) := by decide +kernel
theorem dX1_agreesWith_48 : decode cX1_agreesWith 48 = .ok (.aload_n 0, 1) := by decide +kernel
theorem dX1_agreesWith_49 : decode cX1_agreesWith 49 = .ok (.getfield 15, 3) := by decide +kernel
theorem dX1_agreesWith_52 : decode cX1_agreesWith 52 = .ok (.iload_n 2, 1) := by decide +kernel
theorem dX1_agreesWith_53 : decode cX1_agreesWith 53 = .ok (.iaload, 1) := by decide +kernel
theorem dX1_agreesWith_54 : decode cX1_agreesWith 54 = .ok (.ishr, 1) := by decide +kernel
theorem dX1_agreesWith_55 : decode cX1_agreesWith 55 = .ok (.iconst 1, 1) := by decide +kernel
theorem dX1_agreesWith_56 : decode cX1_agreesWith 56 = .ok (.iand, 1) := by decide +kernel
theorem dX1_agreesWith_57 : decode cX1_agreesWith 57 = .ok (.iconst 1, 1) := by decide +kernel
theorem dX1_agreesWith_58 : decode cX1_agreesWith 58 = .ok (.if_icmp .ne 7, 3) := by decide +kernel
theorem dX1_agreesWith_61 : decode cX1_agreesWith 61 = .ok (.iconst 1, 1) := by decide +kernel
theorem dX1_agreesWith_62 : decode cX1_agreesWith 62 = .ok (.goto 4, 3) := by decide +kernel
theorem dX1_agreesWith_65 : decode cX1_agreesWith 65 = .ok (.iconst 0, 1) := by decide +kernel
theorem dX1_agreesWith_66 : decode cX1_agreesWith 66 = .ok (.istore 5, 2) := by decide +kernel
theorem dX1_agreesWith_68 : decode cX1_agreesWith 68 = .ok (.iload 5, 2) := by decide +kernel
theorem dX1_agreesWith_70 : decode cX1_agreesWith 70 = .ok (.aload_n 0, 1) := by decide +kernel
theorem dX1_agreesWith_71 : decode cX1_agreesWith 71 = .ok (.getfield 21, 3) := by decide +kernel
theorem dX1_agreesWith_74 : decode cX1_agreesWith 74 = .ok (.iload_n 2, 1) := by decide +kernel
theorem dX1_agreesWith_75 : decode cX1_agreesWith 75 = .ok (.baload, 1) := by decide +kernel
theorem dX1_agreesWith_76 : decode cX1_agreesWith 76 = .ok (.if_icmp .eq 5, 3) := by decide +kernel
theorem dX1_agreesWith_79 : decode cX1_agreesWith 79 = .ok (.iconst 0, 1) := by decide +kernel
theorem dX1_agreesWith_80 : decode cX1_agreesWith 80 = .ok (.ireturn, 1) := by decide +kernel
theorem dX1_agreesWith_81 : decode cX1_agreesWith 81 = .ok (.iinc 2 1, 3) := by decide +kernel
theorem dX1_agreesWith_84 : decode cX1_agreesWith 84 = .ok (.goto (-82), 3) := by decide +kernel
theorem dX1_agreesWith_87 : decode cX1_agreesWith 87 = .ok (.iconst 1, 1) := by decide +kernel
theorem dX1_agreesWith_88 : decode cX1_agreesWith 88 = .ok (.ireturn, 1) := by decide +kernel
theorem dX2_init_0 : decode cX2_init 0 = .ok (.aload_n 0, 1) := by decide +kernel
theorem dX2_init_1 : decode cX2_init 1 = .ok (.invokespecial 3, 3) := by decide +kernel
theorem dX2_init_4 : decode cX2_init 4 = .ok (.aload_n 0, 1) := by decide +kernel
theorem dX2_init_5 : decode cX2_init 5 = .ok (.bipush (-4), 2) := by decide +kernel
theorem dX2_init_7 : decode cX2_init 7 = .ok (.putfield 9, 3) := by decide +kernel
theorem dX2_init_10 : decode cX2_init 10 = .ok (.return_, 1) := by decide +kernel
theorem dX2_restart_0 : decode cX2_restart 0 = .ok (.aload_n 0, 1) := by decide +kernel
theorem dX2_restart_1 : decode cX2_restart 1 = .ok (.bipush (-4), 2) := by decide +kernel
theorem dX2_restart_3 : decode cX2_restart 3 = .ok (.putfield 9, 3) := by decide +kernel
theorem dX2_restart_6 : decode cX2_restart 6 = .ok (.aload_n 0, 1) := by decide +kernel
theorem dX2_restart_7 : decode cX2_restart 7 = .ok (.iload_n 1, 1) := by decide +kernel
theorem dX2_restart_8 : decode cX2_restart 8 = .ok (.putfield 15, 3) := by decide +kernel
theorem dX2_restart_11 : decode cX2_restart 11 = .ok (.return_, 1) := by decide +kernel
theorem dX2_offer_0 : decode cX2_offer 0 = .ok (.iload_n 2, 1) := by decide +kernel
theorem dX2_offer_1 : decode cX2_offer 1 = .ok (.aload_n 0, 1) := by decide +kernel
theorem dX2_offer_2 : decode cX2_offer 2 = .ok (.getfield 15, 3) := by decide +kernel
theorem dX2_offer_5 : decode cX2_offer 5 = .ok (.if_icmp .le 13, 3) := by decide +kernel
theorem dX2_offer_8 : decode cX2_offer 8 = .ok (.aload_n 0, 1) := by decide +kernel
theorem dX2_offer_9 : decode cX2_offer 9 = .ok (.iload_n 1, 1) := by decide +kernel
theorem dX2_offer_10 : decode cX2_offer 10 = .ok (.putfield 9, 3) := by decide +kernel
theorem dX2_offer_13 : decode cX2_offer 13 = .ok (.aload_n 0, 1) := by decide +kernel
theorem dX2_offer_14 : decode cX2_offer 14 = .ok (.iload_n 2, 1) := by decide +kernel
theorem dX2_offer_15 : decode cX2_offer 15 = .ok (.putfield 15, 3) := by decide +kernel
theorem dX2_offer_18 : decode cX2_offer 18 = .ok (.return_, 1) := by decide +kernel
theorem dX2_told_0 : decode cX2_told 0 = .ok (.aload_n 0, 1) := by decide +kernel
theorem dX2_told_1 : decode cX2_told 1 = .ok (.getfield 9, 3) := by decide +kernel
theorem dX2_told_4 : decode cX2_told 4 = .ok (.bipush (-4), 2) := by decide +kernel
theorem dX2_told_6 : decode cX2_told 6 = .ok (.if_icmp .eq 7, 3) := by decide +kernel
theorem dX2_told_9 : decode cX2_told 9 = .ok (.iload_n 1, 1) := by decide +kernel
theorem dX2_told_10 : decode cX2_told 10 = .ok (.ifCond .ne 10, 3) := by decide +kernel
theorem dX2_told_13 : decode cX2_told 13 = .ok (.aload_n 0, 1) := by decide +kernel
theorem dX2_told_14 : decode cX2_told 14 = .ok (.getfield 9, 3) := by decide +kernel
theorem dX2_told_17 : decode cX2_told 17 = .ok (.goto 7, 3) := by decide +kernel
theorem dX2_told_20 : decode cX2_told 20 = .ok (.aload_n 0, 1) := by decide +kernel
theorem dX2_told_21 : decode cX2_told 21 = .ok (.getfield 15, 3) := by decide +kernel
theorem dX2_told_24 : decode cX2_told 24 = .ok (.ireturn, 1) := by decide +kernel
theorem dX2_toldOfFewest_0 : decode cX2_toldOfFewest 0 = .ok (.aload_n 0, 1) := by decide +kernel
theorem dX2_toldOfFewest_1 : decode cX2_toldOfFewest 1 = .ok (.getfield 9, 3) := by decide +kernel
theorem dX2_toldOfFewest_4 : decode cX2_toldOfFewest 4 = .ok (.bipush (-4), 2) := by decide +kernel
theorem dX2_toldOfFewest_6 : decode cX2_toldOfFewest 6 = .ok (.if_icmp .eq 7, 3) := by decide +kernel
theorem dX2_toldOfFewest_9 : decode cX2_toldOfFewest 9 = .ok (.iload_n 1, 1) := by decide +kernel
theorem dX2_toldOfFewest_10 : decode cX2_toldOfFewest 10 = .ok (.ifCond .ne 10, 3) := by decide +kernel
theorem dX2_toldOfFewest_13 : decode cX2_toldOfFewest 13 = .ok (.aload_n 0, 1) := by decide +kernel
theorem dX2_toldOfFewest_14 : decode cX2_toldOfFewest 14 = .ok (.getfield 9, 3) := by decide +kernel
theorem dX2_toldOfFewest_17 : decode cX2_toldOfFewest 17 = .ok (.goto 8, 3) := by decide +kernel
theorem dX2_toldOfFewest_20 : decode cX2_toldOfFewest 20 = .ok (.aload_n 0, 1) := by decide +kernel
theorem dX2_toldOfFewest_21 : decode cX2_toldOfFewest 21 = .ok (.getfield 15, 3) := by decide +kernel
theorem dX2_toldOfFewest_24 : decode cX2_toldOfFewest 24 = .ok (.ineg, 1) := by decide +kernel
theorem dX2_toldOfFewest_25 : decode cX2_toldOfFewest 25 = .ok (.ireturn, 1) := by decide +kernel
theorem dX3_init_0 : decode cX3_init 0 = .ok (.aload_n 0, 1) := by decide +kernel
theorem dX3_init_1 : decode cX3_init 1 = .ok (.invokespecial 1, 3) := by decide +kernel
theorem dX3_init_4 : decode cX3_init 4 = .ok (.return_, 1) := by decide +kernel
theorem dX3_copyFrom_0 : decode cX3_copyFrom 0 = .ok (.aload_n 0, 1) := by decide +kernel
theorem dX3_copyFrom_1 : decode cX3_copyFrom 1 = .ok (.aload_n 1, 1) := by decide +kernel
theorem dX3_copyFrom_2 : decode cX3_copyFrom 2 = .ok (.getfield 7, 3) := by decide +kernel
theorem dX3_copyFrom_5 : decode cX3_copyFrom 5 = .ok (.putfield 7, 3) := by decide +kernel
theorem dX3_copyFrom_8 : decode cX3_copyFrom 8 = .ok (.aload_n 0, 1) := by decide +kernel
theorem dX3_copyFrom_9 : decode cX3_copyFrom 9 = .ok (.aload_n 1, 1) := by decide +kernel
theorem dX3_copyFrom_10 : decode cX3_copyFrom 10 = .ok (.getfield 13, 3) := by decide +kernel
theorem dX3_copyFrom_13 : decode cX3_copyFrom 13 = .ok (.putfield 13, 3) := by decide +kernel
theorem dX3_copyFrom_16 : decode cX3_copyFrom 16 = .ok (.aload_n 0, 1) := by decide +kernel
theorem dX3_copyFrom_17 : decode cX3_copyFrom 17 = .ok (.aload_n 1, 1) := by decide +kernel
theorem dX3_copyFrom_18 : decode cX3_copyFrom 18 = .ok (.getfield 16, 3) := by decide +kernel
theorem dX3_copyFrom_21 : decode cX3_copyFrom 21 = .ok (.putfield 16, 3) := by decide +kernel
theorem dX3_copyFrom_24 : decode cX3_copyFrom 24 = .ok (.return_, 1) := by decide +kernel
theorem dX3_setCorner_0 : decode cX3_setCorner 0 = .ok (.aload_n 0, 1) := by decide +kernel
theorem dX3_setCorner_1 : decode cX3_setCorner 1 = .ok (.getfield 7, 3) := by decide +kernel
theorem dX3_setCorner_4 : decode cX3_setCorner 4 = .ok (.istore_n 2, 1) := by decide +kernel
theorem dX3_setCorner_5 : decode cX3_setCorner 5 = .ok (.aload_n 0, 1) := by decide +kernel
theorem dX3_setCorner_6 : decode cX3_setCorner 6 = .ok (.iload_n 1, 1) := by decide +kernel
theorem dX3_setCorner_7 : decode cX3_setCorner 7 = .ok (.putfield 7, 3) := by decide +kernel
theorem dX3_setCorner_10 : decode cX3_setCorner 10 = .ok (.iload_n 2, 1) := by decide +kernel
theorem dX3_setCorner_11 : decode cX3_setCorner 11 = .ok (.ireturn, 1) := by decide +kernel
theorem dX3_setFrom_0 : decode cX3_setFrom 0 = .ok (.aload_n 0, 1) := by decide +kernel
theorem dX3_setFrom_1 : decode cX3_setFrom 1 = .ok (.getfield 13, 3) := by decide +kernel
theorem dX3_setFrom_4 : decode cX3_setFrom 4 = .ok (.istore_n 2, 1) := by decide +kernel
theorem dX3_setFrom_5 : decode cX3_setFrom 5 = .ok (.aload_n 0, 1) := by decide +kernel
theorem dX3_setFrom_6 : decode cX3_setFrom 6 = .ok (.iload_n 1, 1) := by decide +kernel
theorem dX3_setFrom_7 : decode cX3_setFrom 7 = .ok (.putfield 13, 3) := by decide +kernel
theorem dX3_setFrom_10 : decode cX3_setFrom 10 = .ok (.iload_n 2, 1) := by decide +kernel
theorem dX3_setFrom_11 : decode cX3_setFrom 11 = .ok (.ireturn, 1) := by decide +kernel
theorem dX3_setUntil_0 : decode cX3_setUntil 0 = .ok (.aload_n 0, 1) := by decide +kernel
theorem dX3_setUntil_1 : decode cX3_setUntil 1 = .ok (.getfield 16, 3) := by decide +kernel
theorem dX3_setUntil_4 : decode cX3_setUntil 4 = .ok (.istore_n 2, 1) := by decide +kernel
theorem dX3_setUntil_5 : decode cX3_setUntil 5 = .ok (.aload_n 0, 1) := by decide +kernel
theorem dX3_setUntil_6 : decode cX3_setUntil 6 = .ok (.iload_n 1, 1) := by decide +kernel
theorem dX3_setUntil_7 : decode cX3_setUntil 7 = .ok (.putfield 16, 3) := by decide +kernel
theorem dX3_setUntil_10 : decode cX3_setUntil 10 = .ok (.iload_n 2, 1) := by decide +kernel
theorem dX3_setUntil_11 : decode cX3_setUntil 11 = .ok (.ireturn, 1) := by decide +kernel
theorem dX4_init_0 : decode cX4_init 0 = .ok (.aload_n 0, 1) := by decide +kernel
theorem dX4_init_1 : decode cX4_init 1 = .ok (.invokespecial 3, 3) := by decide +kernel
theorem dX4_init_4 : decode cX4_init 4 = .ok (.aload_n 0, 1) := by decide +kernel
theorem dX4_init_5 : decode cX4_init 5 = .ok (.bipush (-4), 2) := by decide +kernel
theorem dX4_init_7 : decode cX4_init 7 = .ok (.putfield 9, 3) := by decide +kernel
theorem dX4_init_10 : decode cX4_init 10 = .ok (.aload_n 0, 1) := by decide +kernel
theorem dX4_init_11 : decode cX4_init 11 = .ok (.bipush 40, 2) := by decide +kernel
theorem dX4_init_13 : decode cX4_init 13 = .ok (.newarray .int, 2) := by decide +kernel
theorem dX4_init_15 : decode cX4_init 15 = .ok (.putfield 15, 3) := by decide +kernel
theorem dX4_init_18 : decode cX4_init 18 = .ok (.return_, 1) := by decide +kernel
theorem dX4_renew_0 : decode cX4_renew 0 = .ok (.aload_n 0, 1) := by decide +kernel
theorem dX4_renew_1 : decode cX4_renew 1 = .ok (.iload_n 1, 1) := by decide +kernel
theorem dX4_renew_2 : decode cX4_renew 2 = .ok (.putfield 9, 3) := by decide +kernel
theorem dX4_renew_5 : decode cX4_renew 5 = .ok (.aload_n 0, 1) := by decide +kernel
theorem dX4_renew_6 : decode cX4_renew 6 = .ok (.iload_n 2, 1) := by decide +kernel
theorem dX4_renew_7 : decode cX4_renew 7 = .ok (.putfield 19, 3) := by decide +kernel
theorem dX4_renew_10 : decode cX4_renew 10 = .ok (.iconst 0, 1) := by decide +kernel
theorem dX4_renew_11 : decode cX4_renew 11 = .ok (.istore_n 3, 1) := by decide +kernel
theorem dX4_renew_12 : decode cX4_renew 12 = .ok (.iload_n 3, 1) := by decide +kernel
theorem dX4_renew_13 : decode cX4_renew 13 = .ok (.bipush 40, 2) := by decide +kernel
theorem dX4_renew_15 : decode cX4_renew 15 = .ok (.if_icmp .ge 16, 3) := by decide +kernel
theorem dX4_renew_18 : decode cX4_renew 18 = .ok (.aload_n 0, 1) := by decide +kernel
theorem dX4_renew_19 : decode cX4_renew 19 = .ok (.getfield 15, 3) := by decide +kernel
theorem dX4_renew_22 : decode cX4_renew 22 = .ok (.iload_n 3, 1) := by decide +kernel
theorem dX4_renew_23 : decode cX4_renew 23 = .ok (.iconst 0, 1) := by decide +kernel
theorem dX4_renew_24 : decode cX4_renew 24 = .ok (.iastore, 1) := by decide +kernel
theorem dX4_renew_25 : decode cX4_renew 25 = .ok (.iinc 3 1, 3) := by decide +kernel
theorem dX4_renew_28 : decode cX4_renew 28 = .ok (.goto (-16), 3) := by decide +kernel
theorem dX4_renew_31 : decode cX4_renew 31 = .ok (.return_, 1) := by decide +kernel
theorem dX4_faultAt_0 : decode cX4_faultAt 0 = .ok (.aload_n 0, 1) := by decide +kernel
theorem dX4_faultAt_1 : decode cX4_faultAt 1 = .ok (.getfield 9, 3) := by decide +kernel
theorem dX4_faultAt_4 : decode cX4_faultAt 4 = .ok (.bipush (-4), 2) := by decide +kernel
theorem dX4_faultAt_6 : decode cX4_faultAt 6 = .ok (.if_icmp .ne 5, 3) := by decide +kernel
theorem dX4_faultAt_9 : decode cX4_faultAt 9 = .ok (.iconst 1, 1) := by decide +kernel
theorem dX4_faultAt_10 : decode cX4_faultAt 10 = .ok (.ireturn, 1) := by decide +kernel
theorem dX4_faultAt_11 : decode cX4_faultAt 11 = .ok (.aload_n 0, 1) := by decide +kernel
theorem dX4_faultAt_12 : decode cX4_faultAt 12 = .ok (.getfield 9, 3) := by decide +kernel
theorem dX4_faultAt_15 : decode cX4_faultAt 15 = .ok (.iload_n 1, 1) := by decide +kernel
theorem dX4_faultAt_16 : decode cX4_faultAt 16 = .ok (.if_icmp .eq 5, 3) := by decide +kernel
theorem dX4_faultAt_19 : decode cX4_faultAt 19 = .ok (.iconst 3, 1) := by decide +kernel
theorem dX4_faultAt_20 : decode cX4_faultAt 20 = .ok (.ireturn, 1) := by decide +kernel
theorem dX4_faultAt_21 : decode cX4_faultAt 21 = .ok (.aload_n 0, 1) := by decide +kernel
theorem dX4_faultAt_22 : decode cX4_faultAt 22 = .ok (.iload_n 2, 1) := by decide +kernel
theorem dX4_faultAt_23 : decode cX4_faultAt 23 = .ok (.invokevirtual 22, 3) := by decide +kernel
theorem dX4_faultAt_26 : decode cX4_faultAt 26 = .ok (.ifCond .eq 7, 3) := by decide +kernel
theorem dX4_faultAt_29 : decode cX4_faultAt 29 = .ok (.iconst 0, 1) := by decide +kernel
theorem dX4_faultAt_30 : decode cX4_faultAt 30 = .ok (.goto 4, 3) := by decide +kernel
theorem dX4_faultAt_33 : decode cX4_faultAt 33 = .ok (.iconst 2, 1) := by decide +kernel
theorem dX4_faultAt_34 : decode cX4_faultAt 34 = .ok (.ireturn, 1) := by decide +kernel
theorem dX4_faultOfPair_0 : decode cX4_faultOfPair 0 = .ok (.aload_n 0, 1) := by decide +kernel
theorem dX4_faultOfPair_1 : decode cX4_faultOfPair 1 = .ok (.iload_n 1, 1) := by decide +kernel
theorem dX4_faultOfPair_2 : decode cX4_faultOfPair 2 = .ok (.iload_n 2, 1) := by decide +kernel
theorem dX4_faultOfPair_3 : decode cX4_faultOfPair 3 = .ok (.invokevirtual 26, 3) := by decide +kernel
theorem dX4_faultOfPair_6 : decode cX4_faultOfPair 6 = .ok (.istore_n 3, 1) := by decide +kernel
theorem dX4_faultOfPair_7 : decode cX4_faultOfPair 7 = .ok (.iload_n 3, 1) := by decide +kernel
theorem dX4_faultOfPair_8 : decode cX4_faultOfPair 8 = .ok (.ifCond .ne 14, 3) := by decide +kernel
theorem dX4_faultOfPair_11 : decode cX4_faultOfPair 11 = .ok (.aload_n 0, 1) := by decide +kernel
theorem dX4_faultOfPair_12 : decode cX4_faultOfPair 12 = .ok (.iload_n 1, 1) := by decide +kernel
theorem dX4_faultOfPair_13 : decode cX4_faultOfPair 13 = .ok (.iload_n 2, 1) := by decide +kernel
theorem dX4_faultOfPair_14 : decode cX4_faultOfPair 14 = .ok (.iconst 1, 1) := by decide +kernel
theorem dX4_faultOfPair_15 : decode cX4_faultOfPair 15 = .ok (.iadd, 1) := by decide +kernel
theorem dX4_faultOfPair_16 : decode cX4_faultOfPair 16 = .ok (.invokevirtual 26, 3) := by decide +kernel
theorem dX4_faultOfPair_19 : decode cX4_faultOfPair 19 = .ok (.goto 4, 3) := by decide +kernel
theorem dX4_faultOfPair_22 : decode cX4_faultOfPair 22 = .ok (.iload_n 3, 1) := by decide +kernel
theorem dX4_faultOfPair_23 : decode cX4_faultOfPair 23 = .ok (.ireturn, 1) := by decide +kernel
theorem dX4_hasCell_0 : decode cX4_hasCell 0 = .ok (.iload_n 1, 1) := by decide +kernel
theorem dX4_hasCell_1 : decode cX4_hasCell 1 = .ok (.ifCond .lt 15, 3) := by decide +kernel
theorem dX4_hasCell_4 : decode cX4_hasCell 4 = .ok (.iload_n 1, 1) := by decide +kernel
theorem dX4_hasCell_5 : decode cX4_hasCell 5 = .ok (.aload_n 0, 1) := by decide +kernel
theorem dX4_hasCell_6 : decode cX4_hasCell 6 = .ok (.getfield 19, 3) := by decide +kernel
theorem dX4_hasCell_9 : decode cX4_hasCell 9 = .ok (.if_icmp .ge 7, 3) := by decide +kernel
theorem dX4_hasCell_12 : decode cX4_hasCell 12 = .ok (.iconst 1, 1) := by decide +kernel
theorem dX4_hasCell_13 : decode cX4_hasCell 13 = .ok (.goto 4, 3) := by decide +kernel
theorem dX4_hasCell_16 : decode cX4_hasCell 16 = .ok (.iconst 0, 1) := by decide +kernel
theorem dX4_hasCell_17 : decode cX4_hasCell 17 = .ok (.ireturn, 1) := by decide +kernel
theorem dX4_cellAt_0 : decode cX4_cellAt 0 = .ok (.aload_n 0, 1) := by decide +kernel
theorem dX4_cellAt_1 : decode cX4_cellAt 1 = .ok (.iload_n 1, 1) := by decide +kernel
theorem dX4_cellAt_2 : decode cX4_cellAt 2 = .ok (.invokevirtual 22, 3) := by decide +kernel
theorem dX4_cellAt_5 : decode cX4_cellAt 5 = .ok (.ifCond .eq 12, 3) := by decide +kernel
theorem dX4_cellAt_8 : decode cX4_cellAt 8 = .ok (.aload_n 0, 1) := by decide +kernel
theorem dX4_cellAt_9 : decode cX4_cellAt 9 = .ok (.getfield 15, 3) := by decide +kernel
theorem dX4_cellAt_12 : decode cX4_cellAt 12 = .ok (.iload_n 1, 1) := by decide +kernel
theorem dX4_cellAt_13 : decode cX4_cellAt 13 = .ok (.iaload, 1) := by decide +kernel
theorem dX4_cellAt_14 : decode cX4_cellAt 14 = .ok (.goto 5, 3) := by decide +kernel
theorem dX4_cellAt_17 : decode cX4_cellAt 17 = .ok (.bipush (-4), 2) := by decide +kernel
theorem dX4_cellAt_19 : decode cX4_cellAt 19 = .ok (.ireturn, 1) := by decide +kernel
theorem dX4_put_0 : decode cX4_put 0 = .ok (.aload_n 0, 1) := by decide +kernel
theorem dX4_put_1 : decode cX4_put 1 = .ok (.iload_n 1, 1) := by decide +kernel
theorem dX4_put_2 : decode cX4_put 2 = .ok (.invokevirtual 22, 3) := by decide +kernel
theorem dX4_put_5 : decode cX4_put 5 = .ok (.ifCond .eq 35, 3) := by decide +kernel
theorem dX4_put_8 : decode cX4_put 8 = .ok (.aload_n 0, 1) := by decide +kernel
theorem dX4_put_9 : decode cX4_put 9 = .ok (.getfield 15, 3) := by decide +kernel
theorem dX4_put_12 : decode cX4_put 12 = .ok (.iload_n 1, 1) := by decide +kernel
theorem dX4_put_13 : decode cX4_put 13 = .ok (.aload_n 0, 1) := by decide +kernel
theorem dX4_put_14 : decode cX4_put 14 = .ok (.getfield 9, 3) := by decide +kernel
theorem dX4_put_17 : decode cX4_put 17 = .ok (.ifCond .ne 8, 3) := by decide +kernel
theorem dX4_put_20 : decode cX4_put 20 = .ok (.iload_n 2, 1) := by decide +kernel
theorem dX4_put_21 : decode cX4_put 21 = .ok (.i2b, 1) := by decide +kernel
theorem dX4_put_22 : decode cX4_put 22 = .ok (.goto 17, 3) := by decide +kernel
theorem dX4_put_25 : decode cX4_put 25 = .ok (.aload_n 0, 1) := by decide +kernel
theorem dX4_put_26 : decode cX4_put 26 = .ok (.getfield 9, 3) := by decide +kernel
theorem dX4_put_29 : decode cX4_put 29 = .ok (.iconst 1, 1) := by decide +kernel
theorem dX4_put_30 : decode cX4_put 30 = .ok (.if_icmp .ne 8, 3) := by decide +kernel
theorem dX4_put_33 : decode cX4_put 33 = .ok (.iload_n 2, 1) := by decide +kernel
theorem dX4_put_34 : decode cX4_put 34 = .ok (.i2s, 1) := by decide +kernel
theorem dX4_put_35 : decode cX4_put 35 = .ok (.goto 4, 3) := by decide +kernel
theorem dX4_put_38 : decode cX4_put 38 = .ok (.iload_n 2, 1) := by decide +kernel
theorem dX4_put_39 : decode cX4_put 39 = .ok (.iastore, 1) := by decide +kernel
theorem dX4_put_40 : decode cX4_put 40 = .ok (.return_, 1) := by decide +kernel
theorem dX5_init_0 : decode cX5_init 0 = .ok (.aload_n 0, 1) := by decide +kernel
theorem dX5_init_1 : decode cX5_init 1 = .ok (.invokespecial 3, 3) := by decide +kernel
theorem dX5_init_4 : decode cX5_init 4 = .ok (.aload_n 0, 1) := by decide +kernel
theorem dX5_init_5 : decode cX5_init 5 = .ok (.sipush 160, 3) := by decide +kernel
theorem dX5_init_8 : decode cX5_init 8 = .ok (.newarray .byte, 2) := by decide +kernel
theorem dX5_init_10 : decode cX5_init 10 = .ok (.putfield 9, 3) := by decide +kernel
theorem dX5_init_13 : decode cX5_init 13 = .ok (.return_, 1) := by decide +kernel
theorem dX5_append_0 : decode cX5_append 0 = .ok (.aload_n 0, 1) := by decide +kernel
theorem dX5_append_1 : decode cX5_append 1 = .ok (.getfield 15, 3) := by decide +kernel
theorem dX5_append_4 : decode cX5_append 4 = .ok (.sipush 160, 3) := by decide +kernel
theorem dX5_append_7 : decode cX5_append 7 = .ok (.if_icmp .lt 5, 3) := by decide +kernel
theorem dX5_append_10 : decode cX5_append 10 = .ok (.iconst 0, 1) := by decide +kernel
theorem dX5_append_11 : decode cX5_append 11 = .ok (.ireturn, 1) := by decide +kernel
theorem dX5_append_12 : decode cX5_append 12 = .ok (.aload_n 0, 1) := by decide +kernel
theorem dX5_append_13 : decode cX5_append 13 = .ok (.getfield 9, 3) := by decide +kernel
theorem dX5_append_16 : decode cX5_append 16 = .ok (.aload_n 0, 1) := by decide +kernel
theorem dX5_append_17 : decode cX5_append 17 = .ok (.getfield 15, 3) := by decide +kernel
theorem dX5_append_20 : decode cX5_append 20 = .ok (.iload_n 1, 1) := by decide +kernel
theorem dX5_append_21 : decode cX5_append 21 = .ok (.i2b, 1) := by decide +kernel
theorem dX5_append_22 : decode cX5_append 22 = .ok (.bastore, 1) := by decide +kernel
theorem dX5_append_23 : decode cX5_append 23 = .ok (.aload_n 0, 1) := by decide +kernel
theorem dX5_append_24 : decode cX5_append 24 = .ok (.dup, 1) := by decide +kernel
theorem dX5_append_25 : decode cX5_append 25 = .ok (.getfield 15, 3) := by decide +kernel
theorem dX5_append_28 : decode cX5_append 28 = .ok (.iconst 1, 1) := by decide +kernel
theorem dX5_append_29 : decode cX5_append 29 = .ok (.iadd, 1) := by decide +kernel
theorem dX5_append_30 : decode cX5_append 30 = .ok (.putfield 15, 3) := by decide +kernel
theorem dX5_append_33 : decode cX5_append 33 = .ok (.iconst 1, 1) := by decide +kernel
theorem dX5_append_34 : decode cX5_append 34 = .ok (.ireturn, 1) := by decide +kernel
theorem dX5_byteAt_0 : decode cX5_byteAt 0 = .ok (.iload_n 1, 1) := by decide +kernel
theorem dX5_byteAt_1 : decode cX5_byteAt 1 = .ok (.ifCond .lt 20, 3) := by decide +kernel
theorem dX5_byteAt_4 : decode cX5_byteAt 4 = .ok (.iload_n 1, 1) := by decide +kernel
theorem dX5_byteAt_5 : decode cX5_byteAt 5 = .ok (.aload_n 0, 1) := by decide +kernel
theorem dX5_byteAt_6 : decode cX5_byteAt 6 = .ok (.getfield 15, 3) := by decide +kernel
theorem dX5_byteAt_9 : decode cX5_byteAt 9 = .ok (.if_icmp .ge 12, 3) := by decide +kernel
theorem dX5_byteAt_12 : decode cX5_byteAt 12 = .ok (.aload_n 0, 1) := by decide +kernel
theorem dX5_byteAt_13 : decode cX5_byteAt 13 = .ok (.getfield 9, 3) := by decide +kernel
theorem dX5_byteAt_16 : decode cX5_byteAt 16 = .ok (.iload_n 1, 1) := by decide +kernel
theorem dX5_byteAt_17 : decode cX5_byteAt 17 = .ok (.baload, 1) := by decide +kernel
theorem dX5_byteAt_18 : decode cX5_byteAt 18 = .ok (.goto 5, 3) := by decide +kernel
theorem dX5_byteAt_21 : decode cX5_byteAt 21 = .ok (.bipush (-4), 2) := by decide +kernel
theorem dX5_byteAt_23 : decode cX5_byteAt 23 = .ok (.ireturn, 1) := by decide +kernel
theorem dX6_init_0 : decode cX6_init 0 = .ok (.aload_n 0, 1) := by decide +kernel
theorem dX6_init_1 : decode cX6_init 1 = .ok (.invokespecial 3, 3) := by decide +kernel
theorem dX6_init_4 : decode cX6_init 4 = .ok (.aload_n 0, 1) := by decide +kernel
theorem dX6_init_5 : decode cX6_init 5 = .ok (.new 9, 3) := by decide +kernel
theorem dX6_init_8 : decode cX6_init 8 = .ok (.dup, 1) := by decide +kernel
theorem dX6_init_9 : decode cX6_init 9 = .ok (.invokespecial 11, 3) := by decide +kernel
theorem dX6_init_12 : decode cX6_init 12 = .ok (.putfield 12, 3) := by decide +kernel
theorem dX6_init_15 : decode cX6_init 15 = .ok (.aload_n 0, 1) := by decide +kernel
theorem dX6_init_16 : decode cX6_init 16 = .ok (.new 18, 3) := by decide +kernel
theorem dX6_init_19 : decode cX6_init 19 = .ok (.dup, 1) := by decide +kernel
theorem dX6_init_20 : decode cX6_init 20 = .ok (.invokespecial 20, 3) := by decide +kernel
theorem dX6_init_23 : decode cX6_init 23 = .ok (.putfield 21, 3) := by decide +kernel
theorem dX6_init_26 : decode cX6_init 26 = .ok (.aload_n 0, 1) := by decide +kernel
theorem dX6_init_27 : decode cX6_init 27 = .ok (.iconst 0, 1) := by decide +kernel
theorem dX6_init_28 : decode cX6_init 28 = .ok (.putfield 25, 3) := by decide +kernel
theorem dX6_init_31 : decode cX6_init 31 = .ok (.return_, 1) := by decide +kernel
theorem dX6_readAll_0 : decode cX6_readAll 0 = .ok (.aload_n 0, 1) := by decide +kernel
theorem dX6_readAll_1 : decode cX6_readAll 1 = .ok (.iconst 0, 1) := by decide +kernel
theorem dX6_readAll_2 : decode cX6_readAll 2 = .ok (.putfield 25, 3) := by decide +kernel
theorem dX6_readAll_5 : decode cX6_readAll 5 = .ok (.aload_n 0, 1) := by decide +kernel
theorem dX6_readAll_6 : decode cX6_readAll 6 = .ok (.iconst 0, 1) := by decide +kernel
theorem dX6_readAll_7 : decode cX6_readAll 7 = .ok (.putfield 29, 3) := by decide +kernel
theorem dX6_readAll_10 : decode cX6_readAll 10 = .ok (.aload_n 0, 1) := by decide +kernel
theorem dX6_readAll_11 : decode cX6_readAll 11 = .ok (.iconst 0, 1) := by decide +kernel
theorem dX6_readAll_12 : decode cX6_readAll 12 = .ok (.putfield 32, 3) := by decide +kernel
theorem dX6_readAll_15 : decode cX6_readAll 15 = .ok (.aload_n 0, 1) := by decide +kernel
theorem dX6_readAll_16 : decode cX6_readAll 16 = .ok (.getfield 21, 3) := by decide +kernel
theorem dX6_readAll_19 : decode cX6_readAll 19 = .ok (.invokevirtual 36, 3) := by decide +kernel
theorem dX6_readAll_22 : decode cX6_readAll 22 = .ok (.iconst 0, 1) := by decide +kernel
theorem dX6_readAll_23 : decode cX6_readAll 23 = .ok (.istore_n 1, 1) := by decide +kernel
theorem dX6_readAll_24 : decode cX6_readAll 24 = .ok (.aload_n 0, 1) := by decide +kernel
theorem dX6_readAll_25 : decode cX6_readAll 25 = .ok (.invokevirtual 39, 3) := by decide +kernel
theorem dX6_readAll_28 : decode cX6_readAll 28 = .ok (.istore_n 2, 1) := by decide +kernel
theorem dX6_readAll_29 : decode cX6_readAll 29 = .ok (.iload_n 2, 1) := by decide +kernel
theorem dX6_readAll_30 : decode cX6_readAll 30 = .ok (.ifCond .eq 43, 3) := by decide +kernel
theorem dX6_readAll_33 : decode cX6_readAll 33 = .ok (.aload_n 0, 1) := by decide +kernel
theorem dX6_readAll_34 : decode cX6_readAll 34 = .ok (.getfield 43, 3) := by decide +kernel
theorem dX6_readAll_37 : decode cX6_readAll 37 = .ok (.ifCond .eq 36, 3) := by decide +kernel
theorem dX6_readAll_40 : decode cX6_readAll 40 = .ok (.iload_n 1, 1) := by decide +kernel
theorem dX6_readAll_41 : decode cX6_readAll 41 = .ok (.sipush 160, 3) := by decide +kernel
theorem dX6_readAll_44 : decode cX6_readAll 44 = .ok (.if_icmp .ge 29, 3) := by decide +kernel
theorem dX6_readAll_47 : decode cX6_readAll 47 = .ok (.iinc 1 1, 3) := by decide +kernel
theorem dX6_readAll_50 : decode cX6_readAll 50 = .ok (.aload_n 0, 1) := by decide +kernel
theorem dX6_readAll_51 : decode cX6_readAll 51 = .ok (.invokevirtual 46, 3) := by decide +kernel
theorem dX6_readAll_54 : decode cX6_readAll 54 = .ok (.ifCond .eq 14, 3) := by decide +kernel
theorem dX6_readAll_57 : decode cX6_readAll 57 = .ok (.aload_n 0, 1) := by decide +kernel
theorem dX6_readAll_58 : decode cX6_readAll 58 = .ok (.invokevirtual 39, 3) := by decide +kernel
theorem dX6_readAll_61 : decode cX6_readAll 61 = .ok (.ifCond .eq 7, 3) := by decide +kernel
theorem dX6_readAll_64 : decode cX6_readAll 64 = .ok (.iconst 1, 1) := by decide +kernel
theorem dX6_readAll_65 : decode cX6_readAll 65 = .ok (.goto 4, 3) := by decide +kernel
theorem dX6_readAll_68 : decode cX6_readAll 68 = .ok (.iconst 0, 1) := by decide +kernel
theorem dX6_readAll_69 : decode cX6_readAll 69 = .ok (.istore_n 2, 1) := by decide +kernel
theorem dX6_readAll_70 : decode cX6_readAll 70 = .ok (.goto (-41), 3) := by decide +kernel
theorem dX6_readAll_73 : decode cX6_readAll 73 = .ok (.iload_n 2, 1) := by decide +kernel
theorem dX6_readAll_74 : decode cX6_readAll 74 = .ok (.ifCond .eq 27, 3) := by decide +kernel
theorem dX6_readAll_77 : decode cX6_readAll 77 = .ok (.aload_n 0, 1) := by decide +kernel
theorem dX6_readAll_78 : decode cX6_readAll 78 = .ok (.getfield 21, 3) := by decide +kernel
theorem dX6_readAll_81 : decode cX6_readAll 81 = .ok (.invokevirtual 49, 3) := by decide +kernel
theorem dX6_readAll_84 : decode cX6_readAll 84 = .ok (.ifCond .ne 17, 3) := by decide +kernel
theorem dX6_readAll_87 : decode cX6_readAll 87 = .ok (.aload_n 0, 1) := by decide +kernel
theorem dX6_readAll_88 : decode cX6_readAll 88 = .ok (.bipush 6, 2) := by decide +kernel
theorem dX6_readAll_90 : decode cX6_readAll 90 = .ok (.aload_n 0, 1) := by decide +kernel
theorem dX6_readAll_91 : decode cX6_readAll 91 = .ok (.getfield 12, 3) := by decide +kernel
theorem dX6_readAll_94 : decode cX6_readAll 94 = .ok (.getfield 52, 3) := by decide +kernel
theorem dX6_readAll_97 : decode cX6_readAll 97 = .ok (.invokevirtual 55, 3) := by decide +kernel
theorem dX6_readAll_100 : decode cX6_readAll 100 = .ok (.istore_n 2, 1) := by decide +kernel
theorem dX6_readAll_101 : decode cX6_readAll 101 = .ok (.iload_n 2, 1) := by decide +kernel
theorem dX6_readAll_102 : decode cX6_readAll 102 = .ok (.ifCond .eq 7, 3) := by decide +kernel
theorem dX6_readAll_105 : decode cX6_readAll 105 = .ok (.iload_n 1, 1) := by decide +kernel
theorem dX6_readAll_106 : decode cX6_readAll 106 = .ok (.goto 5, 3) := by decide +kernel
theorem dX6_readAll_109 : decode cX6_readAll 109 = .ok (.bipush (-4), 2) := by decide +kernel
theorem dX6_readAll_111 : decode cX6_readAll 111 = .ok (.ireturn, 1) := by decide +kernel
theorem dX6_refuse_0 : decode cX6_refuse 0 = .ok (.aload_n 0, 1) := by decide +kernel
theorem dX6_refuse_1 : decode cX6_refuse 1 = .ok (.iload_n 1, 1) := by decide +kernel
theorem dX6_refuse_2 : decode cX6_refuse 2 = .ok (.putfield 25, 3) := by decide +kernel
theorem dX6_refuse_5 : decode cX6_refuse 5 = .ok (.aload_n 0, 1) := by decide +kernel
theorem dX6_refuse_6 : decode cX6_refuse 6 = .ok (.iload_n 2, 1) := by decide +kernel
theorem dX6_refuse_7 : decode cX6_refuse 7 = .ok (.putfield 59, 3) := by decide +kernel
theorem dX6_refuse_10 : decode cX6_refuse 10 = .ok (.iconst 0, 1) := by decide +kernel
theorem dX6_refuse_11 : decode cX6_refuse 11 = .ok (.ireturn, 1) := by decide +kernel
theorem dX6_readLine_0 : decode cX6_readLine 0 = .ok (.aload_n 0, 1) := by decide +kernel
theorem dX6_readLine_1 : decode cX6_readLine 1 = .ok (.getfield 43, 3) := by decide +kernel
theorem dX6_readLine_4 : decode cX6_readLine 4 = .ok (.iconst 1, 1) := by decide +kernel
theorem dX6_readLine_5 : decode cX6_readLine 5 = .ok (.if_icmp .eq 13, 3) := by decide +kernel
theorem dX6_readLine_8 : decode cX6_readLine 8 = .ok (.aload_n 0, 1) := by decide +kernel
theorem dX6_readLine_9 : decode cX6_readLine 9 = .ok (.iconst 2, 1) := by decide +kernel
theorem dX6_readLine_10 : decode cX6_readLine 10 = .ok (.aload_n 0, 1) := by decide +kernel
theorem dX6_readLine_11 : decode cX6_readLine 11 = .ok (.getfield 62, 3) := by decide +kernel
theorem dX6_readLine_14 : decode cX6_readLine 14 = .ok (.invokevirtual 55, 3) := by decide +kernel
theorem dX6_readLine_17 : decode cX6_readLine 17 = .ok (.ireturn, 1) := by decide +kernel
theorem dX6_readLine_18 : decode cX6_readLine 18 = .ok (.aload_n 0, 1) := by decide +kernel
theorem dX6_readLine_19 : decode cX6_readLine 19 = .ok (.invokevirtual 65, 3) := by decide +kernel
theorem dX6_readLine_22 : decode cX6_readLine 22 = .ok (.istore_n 1, 1) := by decide +kernel
theorem dX6_readLine_23 : decode cX6_readLine 23 = .ok (.iload_n 1, 1) := by decide +kernel
theorem dX6_readLine_24 : decode cX6_readLine 24 = .ok (.tableswitch 65 0 6 #[44, 44, 44, 44, 50, 55, 60], 44) := by decide +kernel
theorem dX6_readLine_68 : decode cX6_readLine 68 = .ok (.aload_n 0, 1) := by decide +kernel
theorem dX6_readLine_69 : decode cX6_readLine 69 = .ok (.iload_n 1, 1) := by decide +kernel
theorem dX6_readLine_70 : decode cX6_readLine 70 = .ok (.invokevirtual 69, 3) := by decide +kernel
theorem dX6_readLine_73 : decode cX6_readLine 73 = .ok (.ireturn, 1) := by decide +kernel
theorem dX6_readLine_74 : decode cX6_readLine 74 = .ok (.aload_n 0, 1) := by decide +kernel
theorem dX6_readLine_75 : decode cX6_readLine 75 = .ok (.invokevirtual 73, 3) := by decide +kernel
theorem dX6_readLine_78 : decode cX6_readLine 78 = .ok (.ireturn, 1) := by decide +kernel
theorem dX6_readLine_79 : decode cX6_readLine 79 = .ok (.aload_n 0, 1) := by decide +kernel
theorem dX6_readLine_80 : decode cX6_readLine 80 = .ok (.invokevirtual 76, 3) := by decide +kernel
theorem dX6_readLine_83 : decode cX6_readLine 83 = .ok (.ireturn, 1) := by decide +kernel
theorem dX6_readLine_84 : decode cX6_readLine 84 = .ok (.aload_n 0, 1) := by decide +kernel
theorem dX6_readLine_85 : decode cX6_readLine 85 = .ok (.invokevirtual 79, 3) := by decide +kernel
theorem dX6_readLine_88 : decode cX6_readLine 88 = .ok (.ireturn, 1) := by decide +kernel
theorem dX6_readLine_89 : decode cX6_readLine 89 = .ok (.aload_n 0, 1) := by decide +kernel
theorem dX6_readLine_90 : decode cX6_readLine 90 = .ok (.iconst 2, 1) := by decide +kernel
theorem dX6_readLine_91 : decode cX6_readLine 91 = .ok (.aload_n 0, 1) := by decide +kernel
theorem dX6_readLine_92 : decode cX6_readLine 92 = .ok (.getfield 62, 3) := by decide +kernel
theorem dX6_readLine_95 : decode cX6_readLine 95 = .ok (.invokevirtual 55, 3) := by decide +kernel
theorem dX6_readLine_98 : decode cX6_readLine 98 = .ok (.ireturn, 1) := by decide +kernel
theorem dX6_readMan_0 : decode cX6_readMan 0 = .ok (.aload_n 0, 1) := by decide +kernel
theorem dX6_readMan_1 : decode cX6_readMan 1 = .ok (.getfield 21, 3) := by decide +kernel
theorem dX6_readMan_4 : decode cX6_readMan 4 = .ok (.iload_n 1, 1) := by decide +kernel
theorem dX6_readMan_5 : decode cX6_readMan 5 = .ok (.invokevirtual 82, 3) := by decide +kernel
theorem dX6_readMan_8 : decode cX6_readMan 8 = .ok (.astore_n 2, 1) := by decide +kernel
theorem dX6_readMan_9 : decode cX6_readMan 9 = .ok (.aload_n 2, 1) := by decide +kernel
theorem dX6_readMan_10 : decode cX6_readMan 10 = .ok (.ifnonnull 13, 3) := by decide +kernel
theorem dX6_readMan_13 : decode cX6_readMan 13 = .ok (.aload_n 0, 1) := by decide +kernel
theorem dX6_readMan_14 : decode cX6_readMan 14 = .ok (.iconst 5, 1) := by decide +kernel
theorem dX6_readMan_15 : decode cX6_readMan 15 = .ok (.aload_n 0, 1) := by decide +kernel
theorem dX6_readMan_16 : decode cX6_readMan 16 = .ok (.getfield 62, 3) := by decide +kernel
theorem dX6_readMan_19 : decode cX6_readMan 19 = .ok (.invokevirtual 55, 3) := by decide +kernel
theorem dX6_readMan_22 : decode cX6_readMan 22 = .ok (.ireturn, 1) := by decide +kernel
theorem dX6_readMan_23 : decode cX6_readMan 23 = .ok (.aload_n 0, 1) := by decide +kernel
theorem dX6_readMan_24 : decode cX6_readMan 24 = .ok (.iconst 0, 1) := by decide +kernel
theorem dX6_readMan_25 : decode cX6_readMan 25 = .ok (.bipush 9, 2) := by decide +kernel
theorem dX6_readMan_27 : decode cX6_readMan 27 = .ok (.invokevirtual 86, 3) := by decide +kernel
theorem dX6_readMan_30 : decode cX6_readMan 30 = .ok (.ifCond .ne 5, 3) := by decide +kernel
theorem dX6_readMan_33 : decode cX6_readMan 33 = .ok (.iconst 0, 1) := by decide +kernel
theorem dX6_readMan_34 : decode cX6_readMan 34 = .ok (.ireturn, 1) := by decide +kernel
theorem dX6_readMan_35 : decode cX6_readMan 35 = .ok (.aload_n 2, 1) := by decide +kernel
theorem dX6_readMan_36 : decode cX6_readMan 36 = .ok (.aload_n 0, 1) := by decide +kernel
theorem dX6_readMan_37 : decode cX6_readMan 37 = .ok (.getfield 89, 3) := by decide +kernel
theorem dX6_readMan_40 : decode cX6_readMan 40 = .ok (.putfield 92, 3) := by decide +kernel
theorem dX6_readMan_43 : decode cX6_readMan 43 = .ok (.aload_n 0, 1) := by decide +kernel
theorem dX6_readMan_44 : decode cX6_readMan 44 = .ok (.iconst 0, 1) := by decide +kernel
theorem dX6_readMan_45 : decode cX6_readMan 45 = .ok (.bipush 7, 2) := by decide +kernel
theorem dX6_readMan_47 : decode cX6_readMan 47 = .ok (.invokevirtual 86, 3) := by decide +kernel
theorem dX6_readMan_50 : decode cX6_readMan 50 = .ok (.ifCond .ne 5, 3) := by decide +kernel
theorem dX6_readMan_53 : decode cX6_readMan 53 = .ok (.iconst 0, 1) := by decide +kernel
theorem dX6_readMan_54 : decode cX6_readMan 54 = .ok (.ireturn, 1) := by decide +kernel
theorem dX6_readMan_55 : decode cX6_readMan 55 = .ok (.aload_n 2, 1) := by decide +kernel
theorem dX6_readMan_56 : decode cX6_readMan 56 = .ok (.aload_n 0, 1) := by decide +kernel
theorem dX6_readMan_57 : decode cX6_readMan 57 = .ok (.getfield 89, 3) := by decide +kernel
theorem dX6_readMan_60 : decode cX6_readMan 60 = .ok (.invokevirtual 97, 3) := by decide +kernel
theorem dX6_readMan_63 : decode cX6_readMan 63 = .ok (.pop, 1) := by decide +kernel
theorem dX6_readMan_64 : decode cX6_readMan 64 = .ok (.aload_n 0, 1) := by decide +kernel
theorem dX6_readMan_65 : decode cX6_readMan 65 = .ok (.aload_n 2, 1) := by decide +kernel
theorem dX6_readMan_66 : decode cX6_readMan 66 = .ok (.invokevirtual 100, 3) := by decide +kernel
theorem dX6_readMan_69 : decode cX6_readMan 69 = .ok (.ireturn, 1) := by decide +kernel
theorem dX6_readRestOfWalk_0 : decode cX6_readRestOfWalk 0 = .ok (.iconst 1, 1) := by decide +kernel
theorem dX6_readRestOfWalk_1 : decode cX6_readRestOfWalk 1 = .ok (.istore_n 2, 1) := by decide +kernel
theorem dX6_readRestOfWalk_2 : decode cX6_readRestOfWalk 2 = .ok (.iload_n 2, 1) := by decide +kernel
theorem dX6_readRestOfWalk_3 : decode cX6_readRestOfWalk 3 = .ok (.iconst 4, 1) := by decide +kernel
theorem dX6_readRestOfWalk_4 : decode cX6_readRestOfWalk 4 = .ok (.if_icmp .gt 87, 3) := by decide +kernel
theorem dX6_readRestOfWalk_7 : decode cX6_readRestOfWalk 7 = .ok (.aload_n 0, 1) := by decide +kernel
theorem dX6_readRestOfWalk_8 : decode cX6_readRestOfWalk 8 = .ok (.invokevirtual 39, 3) := by decide +kernel
theorem dX6_readRestOfWalk_11 : decode cX6_readRestOfWalk 11 = .ok (.ifCond .ne 5, 3) := by decide +kernel
theorem dX6_readRestOfWalk_14 : decode cX6_readRestOfWalk 14 = .ok (.iconst 0, 1) := by decide +kernel
theorem dX6_readRestOfWalk_15 : decode cX6_readRestOfWalk 15 = .ok (.ireturn, 1) := by decide +kernel
theorem dX6_readRestOfWalk_16 : decode cX6_readRestOfWalk 16 = .ok (.aload_n 0, 1) := by decide +kernel
theorem dX6_readRestOfWalk_17 : decode cX6_readRestOfWalk 17 = .ok (.getfield 43, 3) := by decide +kernel
theorem dX6_readRestOfWalk_20 : decode cX6_readRestOfWalk 20 = .ok (.iconst 3, 1) := by decide +kernel
theorem dX6_readRestOfWalk_21 : decode cX6_readRestOfWalk 21 = .ok (.if_icmp .ne 5, 3) := by decide +kernel
theorem dX6_readRestOfWalk_24 : decode cX6_readRestOfWalk 24 = .ok (.iconst 1, 1) := by decide +kernel
theorem dX6_readRestOfWalk_25 : decode cX6_readRestOfWalk 25 = .ok (.ireturn, 1) := by decide +kernel
theorem dX6_readRestOfWalk_26 : decode cX6_readRestOfWalk 26 = .ok (.aload_n 0, 1) := by decide +kernel
theorem dX6_readRestOfWalk_27 : decode cX6_readRestOfWalk 27 = .ok (.getfield 43, 3) := by decide +kernel
theorem dX6_readRestOfWalk_30 : decode cX6_readRestOfWalk 30 = .ok (.iconst 2, 1) := by decide +kernel
theorem dX6_readRestOfWalk_31 : decode cX6_readRestOfWalk 31 = .ok (.if_icmp .eq 13, 3) := by decide +kernel
theorem dX6_readRestOfWalk_34 : decode cX6_readRestOfWalk 34 = .ok (.aload_n 0, 1) := by decide +kernel
theorem dX6_readRestOfWalk_35 : decode cX6_readRestOfWalk 35 = .ok (.iconst 2, 1) := by decide +kernel
theorem dX6_readRestOfWalk_36 : decode cX6_readRestOfWalk 36 = .ok (.aload_n 0, 1) := by decide +kernel
theorem dX6_readRestOfWalk_37 : decode cX6_readRestOfWalk 37 = .ok (.getfield 62, 3) := by decide +kernel
theorem dX6_readRestOfWalk_40 : decode cX6_readRestOfWalk 40 = .ok (.invokevirtual 55, 3) := by decide +kernel
theorem dX6_readRestOfWalk_43 : decode cX6_readRestOfWalk 43 = .ok (.ireturn, 1) := by decide +kernel
theorem dX6_readRestOfWalk_44 : decode cX6_readRestOfWalk 44 = .ok (.aload_n 1, 1) := by decide +kernel
theorem dX6_readRestOfWalk_45 : decode cX6_readRestOfWalk 45 = .ok (.aload_n 0, 1) := by decide +kernel
theorem dX6_readRestOfWalk_46 : decode cX6_readRestOfWalk 46 = .ok (.getfield 89, 3) := by decide +kernel
theorem dX6_readRestOfWalk_49 : decode cX6_readRestOfWalk 49 = .ok (.invokevirtual 97, 3) := by decide +kernel
theorem dX6_readRestOfWalk_52 : decode cX6_readRestOfWalk 52 = .ok (.ifCond .ne 13, 3) := by decide +kernel
theorem dX6_readRestOfWalk_55 : decode cX6_readRestOfWalk 55 = .ok (.aload_n 0, 1) := by decide +kernel
theorem dX6_readRestOfWalk_56 : decode cX6_readRestOfWalk 56 = .ok (.iconst 5, 1) := by decide +kernel
theorem dX6_readRestOfWalk_57 : decode cX6_readRestOfWalk 57 = .ok (.aload_n 0, 1) := by decide +kernel
theorem dX6_readRestOfWalk_58 : decode cX6_readRestOfWalk 58 = .ok (.getfield 62, 3) := by decide +kernel
theorem dX6_readRestOfWalk_61 : decode cX6_readRestOfWalk 61 = .ok (.invokevirtual 55, 3) := by decide +kernel
theorem dX6_readRestOfWalk_64 : decode cX6_readRestOfWalk 64 = .ok (.ireturn, 1) := by decide +kernel
theorem dX6_readRestOfWalk_65 : decode cX6_readRestOfWalk 65 = .ok (.aload_n 0, 1) := by decide +kernel
theorem dX6_readRestOfWalk_66 : decode cX6_readRestOfWalk 66 = .ok (.getfield 89, 3) := by decide +kernel
theorem dX6_readRestOfWalk_69 : decode cX6_readRestOfWalk 69 = .ok (.invokestatic 104, 3) := by decide +kernel
theorem dX6_readRestOfWalk_72 : decode cX6_readRestOfWalk 72 = .ok (.ifCond .ne 13, 3) := by decide +kernel
theorem dX6_readRestOfWalk_75 : decode cX6_readRestOfWalk 75 = .ok (.aload_n 0, 1) := by decide +kernel
theorem dX6_readRestOfWalk_76 : decode cX6_readRestOfWalk 76 = .ok (.iconst 3, 1) := by decide +kernel
theorem dX6_readRestOfWalk_77 : decode cX6_readRestOfWalk 77 = .ok (.aload_n 0, 1) := by decide +kernel
theorem dX6_readRestOfWalk_78 : decode cX6_readRestOfWalk 78 = .ok (.getfield 62, 3) := by decide +kernel
theorem dX6_readRestOfWalk_81 : decode cX6_readRestOfWalk 81 = .ok (.invokevirtual 55, 3) := by decide +kernel
theorem dX6_readRestOfWalk_84 : decode cX6_readRestOfWalk 84 = .ok (.ireturn, 1) := by decide +kernel
theorem dX6_readRestOfWalk_85 : decode cX6_readRestOfWalk 85 = .ok (.iinc 2 1, 3) := by decide +kernel
theorem dX6_readRestOfWalk_88 : decode cX6_readRestOfWalk 88 = .ok (.goto (-86), 3) := by decide +kernel
theorem dX6_readRestOfWalk_91 : decode cX6_readRestOfWalk 91 = .ok (.iconst 0, 1) := by decide +kernel
theorem dX6_readRestOfWalk_92 : decode cX6_readRestOfWalk 92 = .ok (.ireturn, 1) := by decide +kernel
theorem dX6_readStreet_0 : decode cX6_readStreet 0 = .ok (.aload_n 0, 1) := by decide +kernel
theorem dX6_readStreet_1 : decode cX6_readStreet 1 = .ok (.getfield 21, 3) := by decide +kernel
theorem dX6_readStreet_4 : decode cX6_readStreet 4 = .ok (.getfield 107, 3) := by decide +kernel
theorem dX6_readStreet_7 : decode cX6_readStreet 7 = .ok (.bipush 9, 2) := by decide +kernel
theorem dX6_readStreet_9 : decode cX6_readStreet 9 = .ok (.if_icmp .lt 13, 3) := by decide +kernel
theorem dX6_readStreet_12 : decode cX6_readStreet 12 = .ok (.aload_n 0, 1) := by decide +kernel
theorem dX6_readStreet_13 : decode cX6_readStreet 13 = .ok (.iconst 5, 1) := by decide +kernel
theorem dX6_readStreet_14 : decode cX6_readStreet 14 = .ok (.aload_n 0, 1) := by decide +kernel
theorem dX6_readStreet_15 : decode cX6_readStreet 15 = .ok (.getfield 62, 3) := by decide +kernel
theorem dX6_readStreet_18 : decode cX6_readStreet 18 = .ok (.invokevirtual 55, 3) := by decide +kernel
theorem dX6_readStreet_21 : decode cX6_readStreet 21 = .ok (.ireturn, 1) := by decide +kernel
theorem dX6_readStreet_22 : decode cX6_readStreet 22 = .ok (.aload_n 0, 1) := by decide +kernel
theorem dX6_readStreet_23 : decode cX6_readStreet 23 = .ok (.iconst 0, 1) := by decide +kernel
theorem dX6_readStreet_24 : decode cX6_readStreet 24 = .ok (.bipush 7, 2) := by decide +kernel
theorem dX6_readStreet_26 : decode cX6_readStreet 26 = .ok (.invokevirtual 86, 3) := by decide +kernel
theorem dX6_readStreet_29 : decode cX6_readStreet 29 = .ok (.ifCond .ne 5, 3) := by decide +kernel
theorem dX6_readStreet_32 : decode cX6_readStreet 32 = .ok (.iconst 0, 1) := by decide +kernel
theorem dX6_readStreet_33 : decode cX6_readStreet 33 = .ok (.ireturn, 1) := by decide +kernel
theorem dX6_readStreet_34 : decode cX6_readStreet 34 = .ok (.aload_n 0, 1) := by decide +kernel
theorem dX6_readStreet_35 : decode cX6_readStreet 35 = .ok (.getfield 89, 3) := by decide +kernel
theorem dX6_readStreet_38 : decode cX6_readStreet 38 = .ok (.istore_n 1, 1) := by decide +kernel
theorem dX6_readStreet_39 : decode cX6_readStreet 39 = .ok (.aload_n 0, 1) := by decide +kernel
theorem dX6_readStreet_40 : decode cX6_readStreet 40 = .ok (.iconst 0, 1) := by decide +kernel
theorem dX6_readStreet_41 : decode cX6_readStreet 41 = .ok (.bipush 7, 2) := by decide +kernel
theorem dX6_readStreet_43 : decode cX6_readStreet 43 = .ok (.invokevirtual 86, 3) := by decide +kernel
theorem dX6_readStreet_46 : decode cX6_readStreet 46 = .ok (.ifCond .ne 5, 3) := by decide +kernel
theorem dX6_readStreet_49 : decode cX6_readStreet 49 = .ok (.iconst 0, 1) := by decide +kernel
theorem dX6_readStreet_50 : decode cX6_readStreet 50 = .ok (.ireturn, 1) := by decide +kernel
theorem dX6_readStreet_51 : decode cX6_readStreet 51 = .ok (.aload_n 0, 1) := by decide +kernel
theorem dX6_readStreet_52 : decode cX6_readStreet 52 = .ok (.getfield 89, 3) := by decide +kernel
theorem dX6_readStreet_55 : decode cX6_readStreet 55 = .ok (.iload_n 1, 1) := by decide +kernel
theorem dX6_readStreet_56 : decode cX6_readStreet 56 = .ok (.if_icmp .ne 13, 3) := by decide +kernel
theorem dX6_readStreet_59 : decode cX6_readStreet 59 = .ok (.aload_n 0, 1) := by decide +kernel
theorem dX6_readStreet_60 : decode cX6_readStreet 60 = .ok (.iconst 3, 1) := by decide +kernel
theorem dX6_readStreet_61 : decode cX6_readStreet 61 = .ok (.aload_n 0, 1) := by decide +kernel
theorem dX6_readStreet_62 : decode cX6_readStreet 62 = .ok (.getfield 62, 3) := by decide +kernel
theorem dX6_readStreet_65 : decode cX6_readStreet 65 = .ok (.invokevirtual 55, 3) := by decide +kernel
theorem dX6_readStreet_68 : decode cX6_readStreet 68 = .ok (.ireturn, 1) := by decide +kernel
theorem dX6_readStreet_69 : decode cX6_readStreet 69 = .ok (.aload_n 0, 1) := by decide +kernel
theorem dX6_readStreet_70 : decode cX6_readStreet 70 = .ok (.getfield 21, 3) := by decide +kernel
theorem dX6_readStreet_73 : decode cX6_readStreet 73 = .ok (.iload_n 1, 1) := by decide +kernel
theorem dX6_readStreet_74 : decode cX6_readStreet 74 = .ok (.aload_n 0, 1) := by decide +kernel
theorem dX6_readStreet_75 : decode cX6_readStreet 75 = .ok (.getfield 89, 3) := by decide +kernel
theorem dX6_readStreet_78 : decode cX6_readStreet 78 = .ok (.invokevirtual 110, 3) := by decide +kernel
theorem dX6_readStreet_81 : decode cX6_readStreet 81 = .ok (.pop, 1) := by decide +kernel
theorem dX6_readStreet_82 : decode cX6_readStreet 82 = .ok (.aload_n 0, 1) := by decide +kernel
theorem dX6_readStreet_83 : decode cX6_readStreet 83 = .ok (.invokevirtual 113, 3) := by decide +kernel
theorem dX6_readStreet_86 : decode cX6_readStreet 86 = .ok (.ireturn, 1) := by decide +kernel
theorem dX6_readReader_0 : decode cX6_readReader 0 = .ok (.aload_n 0, 1) := by decide +kernel
theorem dX6_readReader_1 : decode cX6_readReader 1 = .ok (.getfield 21, 3) := by decide +kernel
theorem dX6_readReader_4 : decode cX6_readReader 4 = .ok (.invokevirtual 116, 3) := by decide +kernel
theorem dX6_readReader_7 : decode cX6_readReader 7 = .ok (.astore_n 1, 1) := by decide +kernel
theorem dX6_readReader_8 : decode cX6_readReader 8 = .ok (.aload_n 1, 1) := by decide +kernel
theorem dX6_readReader_9 : decode cX6_readReader 9 = .ok (.ifnonnull 13, 3) := by decide +kernel
theorem dX6_readReader_12 : decode cX6_readReader 12 = .ok (.aload_n 0, 1) := by decide +kernel
theorem dX6_readReader_13 : decode cX6_readReader 13 = .ok (.iconst 5, 1) := by decide +kernel
theorem dX6_readReader_14 : decode cX6_readReader 14 = .ok (.aload_n 0, 1) := by decide +kernel
theorem dX6_readReader_15 : decode cX6_readReader 15 = .ok (.getfield 62, 3) := by decide +kernel
theorem dX6_readReader_18 : decode cX6_readReader 18 = .ok (.invokevirtual 55, 3) := by decide +kernel
theorem dX6_readReader_21 : decode cX6_readReader 21 = .ok (.ireturn, 1) := by decide +kernel
theorem dX6_readReader_22 : decode cX6_readReader 22 = .ok (.aload_n 0, 1) := by decide +kernel
theorem dX6_readReader_23 : decode cX6_readReader 23 = .ok (.iconst 0, 1) := by decide +kernel
theorem dX6_readReader_24 : decode cX6_readReader 24 = .ok (.bipush 7, 2) := by decide +kernel
theorem dX6_readReader_26 : decode cX6_readReader 26 = .ok (.invokevirtual 86, 3) := by decide +kernel
theorem dX6_readReader_29 : decode cX6_readReader 29 = .ok (.ifCond .ne 5, 3) := by decide +kernel
theorem dX6_readReader_32 : decode cX6_readReader 32 = .ok (.iconst 0, 1) := by decide +kernel
theorem dX6_readReader_33 : decode cX6_readReader 33 = .ok (.ireturn, 1) := by decide +kernel
theorem dX6_readReader_34 : decode cX6_readReader 34 = .ok (.aload_n 1, 1) := by decide +kernel
theorem dX6_readReader_35 : decode cX6_readReader 35 = .ok (.aload_n 0, 1) := by decide +kernel
theorem dX6_readReader_36 : decode cX6_readReader 36 = .ok (.getfield 89, 3) := by decide +kernel
theorem dX6_readReader_39 : decode cX6_readReader 39 = .ok (.putfield 120, 3) := by decide +kernel
theorem dX6_readReader_42 : decode cX6_readReader 42 = .ok (.aload_n 0, 1) := by decide +kernel
theorem dX6_readReader_43 : decode cX6_readReader 43 = .ok (.iconst 0, 1) := by decide +kernel
theorem dX6_readReader_44 : decode cX6_readReader 44 = .ok (.bipush 59, 2) := by decide +kernel
theorem dX6_readReader_46 : decode cX6_readReader 46 = .ok (.invokevirtual 86, 3) := by decide +kernel
theorem dX6_readReader_49 : decode cX6_readReader 49 = .ok (.ifCond .ne 5, 3) := by decide +kernel
theorem dX6_readReader_52 : decode cX6_readReader 52 = .ok (.iconst 0, 1) := by decide +kernel
theorem dX6_readReader_53 : decode cX6_readReader 53 = .ok (.ireturn, 1) := by decide +kernel
theorem dX6_readReader_54 : decode cX6_readReader 54 = .ok (.aload_n 1, 1) := by decide +kernel
theorem dX6_readReader_55 : decode cX6_readReader 55 = .ok (.aload_n 0, 1) := by decide +kernel
theorem dX6_readReader_56 : decode cX6_readReader 56 = .ok (.getfield 89, 3) := by decide +kernel
theorem dX6_readReader_59 : decode cX6_readReader 59 = .ok (.putfield 125, 3) := by decide +kernel
theorem dX6_readReader_62 : decode cX6_readReader 62 = .ok (.aload_n 0, 1) := by decide +kernel
theorem dX6_readReader_63 : decode cX6_readReader 63 = .ok (.aload_n 1, 1) := by decide +kernel
theorem dX6_readReader_64 : decode cX6_readReader 64 = .ok (.getfield 125, 3) := by decide +kernel
theorem dX6_readReader_67 : decode cX6_readReader 67 = .ok (.bipush 59, 2) := by decide +kernel
theorem dX6_readReader_69 : decode cX6_readReader 69 = .ok (.invokevirtual 86, 3) := by decide +kernel
theorem dX6_readReader_72 : decode cX6_readReader 72 = .ok (.ifCond .ne 5, 3) := by decide +kernel
theorem dX6_readReader_75 : decode cX6_readReader 75 = .ok (.iconst 0, 1) := by decide +kernel
theorem dX6_readReader_76 : decode cX6_readReader 76 = .ok (.ireturn, 1) := by decide +kernel
theorem dX6_readReader_77 : decode cX6_readReader 77 = .ok (.aload_n 1, 1) := by decide +kernel
theorem dX6_readReader_78 : decode cX6_readReader 78 = .ok (.aload_n 0, 1) := by decide +kernel
theorem dX6_readReader_79 : decode cX6_readReader 79 = .ok (.getfield 89, 3) := by decide +kernel
theorem dX6_readReader_82 : decode cX6_readReader 82 = .ok (.putfield 128, 3) := by decide +kernel
theorem dX6_readReader_85 : decode cX6_readReader 85 = .ok (.aload_n 0, 1) := by decide +kernel
theorem dX6_readReader_86 : decode cX6_readReader 86 = .ok (.invokevirtual 113, 3) := by decide +kernel
theorem dX6_readReader_89 : decode cX6_readReader 89 = .ok (.ireturn, 1) := by decide +kernel
theorem dX6_readRain_0 : decode cX6_readRain 0 = .ok (.aload_n 0, 1) := by decide +kernel
theorem dX6_readRain_1 : decode cX6_readRain 1 = .ok (.getfield 32, 3) := by decide +kernel
theorem dX6_readRain_4 : decode cX6_readRain 4 = .ok (.ifCond .eq 13, 3) := by decide +kernel
theorem dX6_readRain_7 : decode cX6_readRain 7 = .ok (.aload_n 0, 1) := by decide +kernel
theorem dX6_readRain_8 : decode cX6_readRain 8 = .ok (.iconst 4, 1) := by decide +kernel
theorem dX6_readRain_9 : decode cX6_readRain 9 = .ok (.aload_n 0, 1) := by decide +kernel
theorem dX6_readRain_10 : decode cX6_readRain 10 = .ok (.getfield 62, 3) := by decide +kernel
theorem dX6_readRain_13 : decode cX6_readRain 13 = .ok (.invokevirtual 55, 3) := by decide +kernel
theorem dX6_readRain_16 : decode cX6_readRain 16 = .ok (.ireturn, 1) := by decide +kernel
theorem dX6_readRain_17 : decode cX6_readRain 17 = .ok (.aload_n 0, 1) := by decide +kernel
theorem dX6_readRain_18 : decode cX6_readRain 18 = .ok (.iconst 1, 1) := by decide +kernel
theorem dX6_readRain_19 : decode cX6_readRain 19 = .ok (.putfield 32, 3) := by decide +kernel
theorem dX6_readRain_22 : decode cX6_readRain 22 = .ok (.aload_n 0, 1) := by decide +kernel
theorem dX6_readRain_23 : decode cX6_readRain 23 = .ok (.iconst 0, 1) := by decide +kernel
theorem dX6_readRain_24 : decode cX6_readRain 24 = .ok (.bipush 59, 2) := by decide +kernel
theorem dX6_readRain_26 : decode cX6_readRain 26 = .ok (.invokevirtual 86, 3) := by decide +kernel
theorem dX6_readRain_29 : decode cX6_readRain 29 = .ok (.ifCond .ne 5, 3) := by decide +kernel
theorem dX6_readRain_32 : decode cX6_readRain 32 = .ok (.iconst 0, 1) := by decide +kernel
theorem dX6_readRain_33 : decode cX6_readRain 33 = .ok (.ireturn, 1) := by decide +kernel
theorem dX6_readRain_34 : decode cX6_readRain 34 = .ok (.aload_n 0, 1) := by decide +kernel
theorem dX6_readRain_35 : decode cX6_readRain 35 = .ok (.getfield 89, 3) := by decide +kernel
theorem dX6_readRain_38 : decode cX6_readRain 38 = .ok (.istore_n 1, 1) := by decide +kernel
theorem dX6_readRain_39 : decode cX6_readRain 39 = .ok (.aload_n 0, 1) := by decide +kernel
theorem dX6_readRain_40 : decode cX6_readRain 40 = .ok (.iconst 0, 1) := by decide +kernel
theorem dX6_readRain_41 : decode cX6_readRain 41 = .ok (.bipush 59, 2) := by decide +kernel
theorem dX6_readRain_43 : decode cX6_readRain 43 = .ok (.invokevirtual 86, 3) := by decide +kernel
theorem dX6_readRain_46 : decode cX6_readRain 46 = .ok (.ifCond .ne 5, 3) := by decide +kernel
theorem dX6_readRain_49 : decode cX6_readRain 49 = .ok (.iconst 0, 1) := by decide +kernel
theorem dX6_readRain_50 : decode cX6_readRain 50 = .ok (.ireturn, 1) := by decide +kernel
theorem dX6_readRain_51 : decode cX6_readRain 51 = .ok (.aload_n 0, 1) := by decide +kernel
theorem dX6_readRain_52 : decode cX6_readRain 52 = .ok (.getfield 21, 3) := by decide +kernel
theorem dX6_readRain_55 : decode cX6_readRain 55 = .ok (.iload_n 1, 1) := by decide +kernel
theorem dX6_readRain_56 : decode cX6_readRain 56 = .ok (.aload_n 0, 1) := by decide +kernel
theorem dX6_readRain_57 : decode cX6_readRain 57 = .ok (.getfield 89, 3) := by decide +kernel
theorem dX6_readRain_60 : decode cX6_readRain 60 = .ok (.invokevirtual 131, 3) := by decide +kernel
theorem dX6_readRain_63 : decode cX6_readRain 63 = .ok (.aload_n 0, 1) := by decide +kernel
theorem dX6_readRain_64 : decode cX6_readRain 64 = .ok (.invokevirtual 113, 3) := by decide +kernel
theorem dX6_readRain_67 : decode cX6_readRain 67 = .ok (.ireturn, 1) := by decide +kernel
theorem dX6_takeNumber_0 : decode cX6_takeNumber 0 = .ok (.aload_n 0, 1) := by decide +kernel
theorem dX6_takeNumber_1 : decode cX6_takeNumber 1 = .ok (.invokevirtual 39, 3) := by decide +kernel
theorem dX6_takeNumber_4 : decode cX6_takeNumber 4 = .ok (.ifCond .ne 5, 3) := by decide +kernel
theorem dX6_takeNumber_7 : decode cX6_takeNumber 7 = .ok (.iconst 0, 1) := by decide +kernel
theorem dX6_takeNumber_8 : decode cX6_takeNumber 8 = .ok (.ireturn, 1) := by decide +kernel
theorem dX6_takeNumber_9 : decode cX6_takeNumber 9 = .ok (.aload_n 0, 1) := by decide +kernel
theorem dX6_takeNumber_10 : decode cX6_takeNumber 10 = .ok (.getfield 43, 3) := by decide +kernel
theorem dX6_takeNumber_13 : decode cX6_takeNumber 13 = .ok (.iconst 2, 1) := by decide +kernel
theorem dX6_takeNumber_14 : decode cX6_takeNumber 14 = .ok (.if_icmp .eq 13, 3) := by decide +kernel
theorem dX6_takeNumber_17 : decode cX6_takeNumber 17 = .ok (.aload_n 0, 1) := by decide +kernel
theorem dX6_takeNumber_18 : decode cX6_takeNumber 18 = .ok (.iconst 2, 1) := by decide +kernel
theorem dX6_takeNumber_19 : decode cX6_takeNumber 19 = .ok (.aload_n 0, 1) := by decide +kernel
theorem dX6_takeNumber_20 : decode cX6_takeNumber 20 = .ok (.getfield 62, 3) := by decide +kernel
theorem dX6_takeNumber_23 : decode cX6_takeNumber 23 = .ok (.invokevirtual 55, 3) := by decide +kernel
theorem dX6_takeNumber_26 : decode cX6_takeNumber 26 = .ok (.ireturn, 1) := by decide +kernel
theorem dX6_takeNumber_27 : decode cX6_takeNumber 27 = .ok (.aload_n 0, 1) := by decide +kernel
theorem dX6_takeNumber_28 : decode cX6_takeNumber 28 = .ok (.getfield 89, 3) := by decide +kernel
theorem dX6_takeNumber_31 : decode cX6_takeNumber 31 = .ok (.iload_n 1, 1) := by decide +kernel
theorem dX6_takeNumber_32 : decode cX6_takeNumber 32 = .ok (.iload_n 2, 1) := by decide +kernel
theorem dX6_takeNumber_33 : decode cX6_takeNumber 33 = .ok (.invokestatic 135, 3) := by decide +kernel
theorem dX6_takeNumber_36 : decode cX6_takeNumber 36 = .ok (.ifCond .ne 15, 3) := by decide +kernel
theorem dX6_takeNumber_39 : decode cX6_takeNumber 39 = .ok (.aload_n 0, 1) := by decide +kernel
theorem dX6_takeNumber_40 : decode cX6_takeNumber 40 = .ok (.iconst 3, 1) := by decide +kernel
theorem dX6_takeNumber_41 : decode cX6_takeNumber 41 = .ok (.aload_n 0, 1) := by decide +kernel
theorem dX6_takeNumber_42 : decode cX6_takeNumber 42 = .ok (.getfield 62, 3) := by decide +kernel
theorem dX6_takeNumber_45 : decode cX6_takeNumber 45 = .ok (.invokevirtual 55, 3) := by decide +kernel
theorem dX6_takeNumber_48 : decode cX6_takeNumber 48 = .ok (.ifCond .eq 7, 3) := by decide +kernel
theorem dX6_takeNumber_51 : decode cX6_takeNumber 51 = .ok (.iconst 1, 1) := by decide +kernel
theorem dX6_takeNumber_52 : decode cX6_takeNumber 52 = .ok (.goto 4, 3) := by decide +kernel
theorem dX6_takeNumber_55 : decode cX6_takeNumber 55 = .ok (.iconst 0, 1) := by decide +kernel
theorem dX6_takeNumber_56 : decode cX6_takeNumber 56 = .ok (.ireturn, 1) := by decide +kernel
theorem dX6_takeSemicolon_0 : decode cX6_takeSemicolon 0 = .ok (.aload_n 0, 1) := by decide +kernel
theorem dX6_takeSemicolon_1 : decode cX6_takeSemicolon 1 = .ok (.invokevirtual 39, 3) := by decide +kernel
theorem dX6_takeSemicolon_4 : decode cX6_takeSemicolon 4 = .ok (.ifCond .eq 27, 3) := by decide +kernel
theorem dX6_takeSemicolon_7 : decode cX6_takeSemicolon 7 = .ok (.aload_n 0, 1) := by decide +kernel
theorem dX6_takeSemicolon_8 : decode cX6_takeSemicolon 8 = .ok (.getfield 43, 3) := by decide +kernel
theorem dX6_takeSemicolon_11 : decode cX6_takeSemicolon 11 = .ok (.iconst 3, 1) := by decide +kernel
theorem dX6_takeSemicolon_12 : decode cX6_takeSemicolon 12 = .ok (.if_icmp .eq 15, 3) := by decide +kernel
theorem dX6_takeSemicolon_15 : decode cX6_takeSemicolon 15 = .ok (.aload_n 0, 1) := by decide +kernel
theorem dX6_takeSemicolon_16 : decode cX6_takeSemicolon 16 = .ok (.iconst 2, 1) := by decide +kernel
theorem dX6_takeSemicolon_17 : decode cX6_takeSemicolon 17 = .ok (.aload_n 0, 1) := by decide +kernel
theorem dX6_takeSemicolon_18 : decode cX6_takeSemicolon 18 = .ok (.getfield 62, 3) := by decide +kernel
theorem dX6_takeSemicolon_21 : decode cX6_takeSemicolon 21 = .ok (.invokevirtual 55, 3) := by decide +kernel
theorem dX6_takeSemicolon_24 : decode cX6_takeSemicolon 24 = .ok (.ifCond .eq 7, 3) := by decide +kernel
theorem dX6_takeSemicolon_27 : decode cX6_takeSemicolon 27 = .ok (.iconst 1, 1) := by decide +kernel
theorem dX6_takeSemicolon_28 : decode cX6_takeSemicolon 28 = .ok (.goto 4, 3) := by decide +kernel
theorem dX6_takeSemicolon_31 : decode cX6_takeSemicolon 31 = .ok (.iconst 0, 1) := by decide +kernel
theorem dX6_takeSemicolon_32 : decode cX6_takeSemicolon 32 = .ok (.ireturn, 1) := by decide +kernel
theorem dX6_readToken_0 : decode cX6_readToken 0 = .ok (.aload_n 0, 1) := by decide +kernel
theorem dX6_readToken_1 : decode cX6_readToken 1 = .ok (.getfield 29, 3) := by decide +kernel
theorem dX6_readToken_4 : decode cX6_readToken 4 = .ok (.aload_n 0, 1) := by decide +kernel
theorem dX6_readToken_5 : decode cX6_readToken 5 = .ok (.getfield 12, 3) := by decide +kernel
theorem dX6_readToken_8 : decode cX6_readToken 8 = .ok (.getfield 52, 3) := by decide +kernel
theorem dX6_readToken_11 : decode cX6_readToken 11 = .ok (.if_icmp .ge 32, 3) := by decide +kernel
theorem dX6_readToken_14 : decode cX6_readToken 14 = .ok (.aload_n 0, 1) := by decide +kernel
theorem dX6_readToken_15 : decode cX6_readToken 15 = .ok (.getfield 12, 3) := by decide +kernel
theorem dX6_readToken_18 : decode cX6_readToken 18 = .ok (.aload_n 0, 1) := by decide +kernel
theorem dX6_readToken_19 : decode cX6_readToken 19 = .ok (.getfield 29, 3) := by decide +kernel
theorem dX6_readToken_22 : decode cX6_readToken 22 = .ok (.invokevirtual 139, 3) := by decide +kernel
theorem dX6_readToken_25 : decode cX6_readToken 25 = .ok (.bipush 32, 2) := by decide +kernel
theorem dX6_readToken_27 : decode cX6_readToken 27 = .ok (.if_icmp .ne 16, 3) := by decide +kernel
theorem dX6_readToken_30 : decode cX6_readToken 30 = .ok (.aload_n 0, 1) := by decide +kernel
theorem dX6_readToken_31 : decode cX6_readToken 31 = .ok (.dup, 1) := by decide +kernel
theorem dX6_readToken_32 : decode cX6_readToken 32 = .ok (.getfield 29, 3) := by decide +kernel
theorem dX6_readToken_35 : decode cX6_readToken 35 = .ok (.iconst 1, 1) := by decide +kernel
theorem dX6_readToken_36 : decode cX6_readToken 36 = .ok (.iadd, 1) := by decide +kernel
theorem dX6_readToken_37 : decode cX6_readToken 37 = .ok (.putfield 29, 3) := by decide +kernel
theorem dX6_readToken_40 : decode cX6_readToken 40 = .ok (.goto (-40), 3) := by decide +kernel
theorem dX6_readToken_43 : decode cX6_readToken 43 = .ok (.aload_n 0, 1) := by decide +kernel
theorem dX6_readToken_44 : decode cX6_readToken 44 = .ok (.aload_n 0, 1) := by decide +kernel
theorem dX6_readToken_45 : decode cX6_readToken 45 = .ok (.getfield 29, 3) := by decide +kernel
theorem dX6_readToken_48 : decode cX6_readToken 48 = .ok (.putfield 62, 3) := by decide +kernel
theorem dX6_readToken_51 : decode cX6_readToken 51 = .ok (.aload_n 0, 1) := by decide +kernel
theorem dX6_readToken_52 : decode cX6_readToken 52 = .ok (.getfield 12, 3) := by decide +kernel
theorem dX6_readToken_55 : decode cX6_readToken 55 = .ok (.aload_n 0, 1) := by decide +kernel
theorem dX6_readToken_56 : decode cX6_readToken 56 = .ok (.getfield 29, 3) := by decide +kernel
theorem dX6_readToken_59 : decode cX6_readToken 59 = .ok (.invokevirtual 139, 3) := by decide +kernel
theorem dX6_readToken_62 : decode cX6_readToken 62 = .ok (.istore_n 1, 1) := by decide +kernel
theorem dX6_readToken_63 : decode cX6_readToken 63 = .ok (.iload_n 1, 1) := by decide +kernel
theorem dX6_readToken_64 : decode cX6_readToken 64 = .ok (.bipush (-4), 2) := by decide +kernel
theorem dX6_readToken_66 : decode cX6_readToken 66 = .ok (.if_icmp .ne 10, 3) := by decide +kernel
theorem dX6_readToken_69 : decode cX6_readToken 69 = .ok (.aload_n 0, 1) := by decide +kernel
theorem dX6_readToken_70 : decode cX6_readToken 70 = .ok (.iconst 0, 1) := by decide +kernel
theorem dX6_readToken_71 : decode cX6_readToken 71 = .ok (.putfield 43, 3) := by decide +kernel
theorem dX6_readToken_74 : decode cX6_readToken 74 = .ok (.iconst 1, 1) := by decide +kernel
theorem dX6_readToken_75 : decode cX6_readToken 75 = .ok (.ireturn, 1) := by decide +kernel
theorem dX6_readToken_76 : decode cX6_readToken 76 = .ok (.iload_n 1, 1) := by decide +kernel
theorem dX6_readToken_77 : decode cX6_readToken 77 = .ok (.bipush 59, 2) := by decide +kernel
theorem dX6_readToken_79 : decode cX6_readToken 79 = .ok (.if_icmp .ne 20, 3) := by decide +kernel
theorem dX6_readToken_82 : decode cX6_readToken 82 = .ok (.aload_n 0, 1) := by decide +kernel
theorem dX6_readToken_83 : decode cX6_readToken 83 = .ok (.iconst 3, 1) := by decide +kernel
theorem dX6_readToken_84 : decode cX6_readToken 84 = .ok (.putfield 43, 3) := by decide +kernel
theorem dX6_readToken_87 : decode cX6_readToken 87 = .ok (.aload_n 0, 1) := by decide +kernel
theorem dX6_readToken_88 : decode cX6_readToken 88 = .ok (.dup, 1) := by decide +kernel
theorem dX6_readToken_89 : decode cX6_readToken 89 = .ok (.getfield 29, 3) := by decide +kernel
theorem dX6_readToken_92 : decode cX6_readToken 92 = .ok (.iconst 1, 1) := by decide +kernel
theorem dX6_readToken_93 : decode cX6_readToken 93 = .ok (.iadd, 1) := by decide +kernel
theorem dX6_readToken_94 : decode cX6_readToken 94 = .ok (.putfield 29, 3) := by decide +kernel
theorem dX6_readToken_97 : decode cX6_readToken 97 = .ok (.iconst 1, 1) := by decide +kernel
theorem dX6_readToken_98 : decode cX6_readToken 98 = .ok (.ireturn, 1) := by decide +kernel
theorem dX6_readToken_99 : decode cX6_readToken 99 = .ok (.iload_n 1, 1) := by decide +kernel
theorem dX6_readToken_100 : decode cX6_readToken 100 = .ok (.invokestatic 143, 3) := by decide +kernel
theorem dX6_readToken_103 : decode cX6_readToken 103 = .ok (.ifCond .eq 54, 3) := by decide +kernel
theorem dX6_readToken_106 : decode cX6_readToken 106 = .ok (.aload_n 0, 1) := by decide +kernel
theorem dX6_readToken_107 : decode cX6_readToken 107 = .ok (.iconst 1, 1) := by decide +kernel
theorem dX6_readToken_108 : decode cX6_readToken 108 = .ok (.putfield 43, 3) := by decide +kernel
theorem dX6_readToken_111 : decode cX6_readToken 111 = .ok (.aload_n 0, 1) := by decide +kernel
theorem dX6_readToken_112 : decode cX6_readToken 112 = .ok (.getfield 29, 3) := by decide +kernel
theorem dX6_readToken_115 : decode cX6_readToken 115 = .ok (.aload_n 0, 1) := by decide +kernel
theorem dX6_readToken_116 : decode cX6_readToken 116 = .ok (.getfield 12, 3) := by decide +kernel
theorem dX6_readToken_119 : decode cX6_readToken 119 = .ok (.getfield 52, 3) := by decide +kernel
theorem dX6_readToken_122 : decode cX6_readToken 122 = .ok (.if_icmp .ge 33, 3) := by decide +kernel
theorem dX6_readToken_125 : decode cX6_readToken 125 = .ok (.aload_n 0, 1) := by decide +kernel
theorem dX6_readToken_126 : decode cX6_readToken 126 = .ok (.getfield 12, 3) := by decide +kernel
theorem dX6_readToken_129 : decode cX6_readToken 129 = .ok (.aload_n 0, 1) := by decide +kernel
theorem dX6_readToken_130 : decode cX6_readToken 130 = .ok (.getfield 29, 3) := by decide +kernel
theorem dX6_readToken_133 : decode cX6_readToken 133 = .ok (.invokevirtual 139, 3) := by decide +kernel
theorem dX6_readToken_136 : decode cX6_readToken 136 = .ok (.invokestatic 143, 3) := by decide +kernel
theorem dX6_readToken_139 : decode cX6_readToken 139 = .ok (.ifCond .eq 16, 3) := by decide +kernel
theorem dX6_readToken_142 : decode cX6_readToken 142 = .ok (.aload_n 0, 1) := by decide +kernel
theorem dX6_readToken_143 : decode cX6_readToken 143 = .ok (.dup, 1) := by decide +kernel
theorem dX6_readToken_144 : decode cX6_readToken 144 = .ok (.getfield 29, 3) := by decide +kernel
theorem dX6_readToken_147 : decode cX6_readToken 147 = .ok (.iconst 1, 1) := by decide +kernel
theorem dX6_readToken_148 : decode cX6_readToken 148 = .ok (.iadd, 1) := by decide +kernel
theorem dX6_readToken_149 : decode cX6_readToken 149 = .ok (.putfield 29, 3) := by decide +kernel
theorem dX6_readToken_152 : decode cX6_readToken 152 = .ok (.goto (-41), 3) := by decide +kernel
theorem dX6_readToken_155 : decode cX6_readToken 155 = .ok (.iconst 1, 1) := by decide +kernel
theorem dX6_readToken_156 : decode cX6_readToken 156 = .ok (.ireturn, 1) := by decide +kernel
theorem dX6_readToken_157 : decode cX6_readToken 157 = .ok (.aload_n 0, 1) := by decide +kernel
theorem dX6_readToken_158 : decode cX6_readToken 158 = .ok (.iconst 2, 1) := by decide +kernel
theorem dX6_readToken_159 : decode cX6_readToken 159 = .ok (.putfield 43, 3) := by decide +kernel
theorem dX6_readToken_162 : decode cX6_readToken 162 = .ok (.aload_n 0, 1) := by decide +kernel
theorem dX6_readToken_163 : decode cX6_readToken 163 = .ok (.iconst 0, 1) := by decide +kernel
theorem dX6_readToken_164 : decode cX6_readToken 164 = .ok (.putfield 89, 3) := by decide +kernel
theorem dX6_readToken_167 : decode cX6_readToken 167 = .ok (.aload_n 0, 1) := by decide +kernel
theorem dX6_readToken_168 : decode cX6_readToken 168 = .ok (.getfield 29, 3) := by decide +kernel
theorem dX6_readToken_171 : decode cX6_readToken 171 = .ok (.aload_n 0, 1) := by decide +kernel
theorem dX6_readToken_172 : decode cX6_readToken 172 = .ok (.getfield 12, 3) := by decide +kernel
theorem dX6_readToken_175 : decode cX6_readToken 175 = .ok (.getfield 52, 3) := by decide +kernel
theorem dX6_readToken_178 : decode cX6_readToken 178 = .ok (.if_icmp .ge 59, 3) := by decide +kernel
theorem dX6_readToken_181 : decode cX6_readToken 181 = .ok (.aload_n 0, 1) := by decide +kernel
theorem dX6_readToken_182 : decode cX6_readToken 182 = .ok (.getfield 12, 3) := by decide +kernel
theorem dX6_readToken_185 : decode cX6_readToken 185 = .ok (.aload_n 0, 1) := by decide +kernel
theorem dX6_readToken_186 : decode cX6_readToken 186 = .ok (.getfield 29, 3) := by decide +kernel
theorem dX6_readToken_189 : decode cX6_readToken 189 = .ok (.invokevirtual 139, 3) := by decide +kernel
theorem dX6_readToken_192 : decode cX6_readToken 192 = .ok (.invokestatic 146, 3) := by decide +kernel
theorem dX6_readToken_195 : decode cX6_readToken 195 = .ok (.ifCond .eq 42, 3) := by decide +kernel
theorem dX6_readToken_198 : decode cX6_readToken 198 = .ok (.aload_n 0, 1) := by decide +kernel
theorem dX6_readToken_199 : decode cX6_readToken 199 = .ok (.bipush 10, 2) := by decide +kernel
theorem dX6_readToken_201 : decode cX6_readToken 201 = .ok (.aload_n 0, 1) := by decide +kernel
theorem dX6_readToken_202 : decode cX6_readToken 202 = .ok (.getfield 89, 3) := by decide +kernel
theorem dX6_readToken_205 : decode cX6_readToken 205 = .ok (.imul, 1) := by decide +kernel
theorem dX6_readToken_206 : decode cX6_readToken 206 = .ok (.aload_n 0, 1) := by decide +kernel
theorem dX6_readToken_207 : decode cX6_readToken 207 = .ok (.getfield 12, 3) := by decide +kernel
theorem dX6_readToken_210 : decode cX6_readToken 210 = .ok (.aload_n 0, 1) := by decide +kernel
theorem dX6_readToken_211 : decode cX6_readToken 211 = .ok (.getfield 29, 3) := by decide +kernel
theorem dX6_readToken_214 : decode cX6_readToken 214 = .ok (.invokevirtual 139, 3) := by decide +kernel
theorem dX6_readToken_217 : decode cX6_readToken 217 = .ok (.iadd, 1) := by decide +kernel
theorem dX6_readToken_218 : decode cX6_readToken 218 = .ok (.bipush 48, 2) := by decide +kernel
theorem dX6_readToken_220 : decode cX6_readToken 220 = .ok (.isub, 1) := by decide +kernel
theorem dX6_readToken_221 : decode cX6_readToken 221 = .ok (.putfield 89, 3) := by decide +kernel
theorem dX6_readToken_224 : decode cX6_readToken 224 = .ok (.aload_n 0, 1) := by decide +kernel
theorem dX6_readToken_225 : decode cX6_readToken 225 = .ok (.dup, 1) := by decide +kernel
theorem dX6_readToken_226 : decode cX6_readToken 226 = .ok (.getfield 29, 3) := by decide +kernel
theorem dX6_readToken_229 : decode cX6_readToken 229 = .ok (.iconst 1, 1) := by decide +kernel
theorem dX6_readToken_230 : decode cX6_readToken 230 = .ok (.iadd, 1) := by decide +kernel
theorem dX6_readToken_231 : decode cX6_readToken 231 = .ok (.putfield 29, 3) := by decide +kernel
theorem dX6_readToken_234 : decode cX6_readToken 234 = .ok (.goto (-67), 3) := by decide +kernel
theorem dX6_readToken_237 : decode cX6_readToken 237 = .ok (.aload_n 0, 1) := by decide +kernel
theorem dX6_readToken_238 : decode cX6_readToken 238 = .ok (.getfield 29, 3) := by decide +kernel
theorem dX6_readToken_241 : decode cX6_readToken 241 = .ok (.aload_n 0, 1) := by decide +kernel
theorem dX6_readToken_242 : decode cX6_readToken 242 = .ok (.getfield 62, 3) := by decide +kernel
theorem dX6_readToken_245 : decode cX6_readToken 245 = .ok (.isub, 1) := by decide +kernel
theorem dX6_readToken_246 : decode cX6_readToken 246 = .ok (.istore_n 2, 1) := by decide +kernel
theorem dX6_readToken_247 : decode cX6_readToken 247 = .ok (.iload_n 2, 1) := by decide +kernel
theorem dX6_readToken_248 : decode cX6_readToken 248 = .ok (.iconst 1, 1) := by decide +kernel
theorem dX6_readToken_249 : decode cX6_readToken 249 = .ok (.iconst 2, 1) := by decide +kernel
theorem dX6_readToken_250 : decode cX6_readToken 250 = .ok (.invokestatic 135, 3) := by decide +kernel
theorem dX6_readToken_253 : decode cX6_readToken 253 = .ok (.ifCond .ne 15, 3) := by decide +kernel
theorem dX6_readToken_256 : decode cX6_readToken 256 = .ok (.aload_n 0, 1) := by decide +kernel
theorem dX6_readToken_257 : decode cX6_readToken 257 = .ok (.iconst 1, 1) := by decide +kernel
theorem dX6_readToken_258 : decode cX6_readToken 258 = .ok (.aload_n 0, 1) := by decide +kernel
theorem dX6_readToken_259 : decode cX6_readToken 259 = .ok (.getfield 62, 3) := by decide +kernel
theorem dX6_readToken_262 : decode cX6_readToken 262 = .ok (.invokevirtual 55, 3) := by decide +kernel
theorem dX6_readToken_265 : decode cX6_readToken 265 = .ok (.ifCond .eq 7, 3) := by decide +kernel
theorem dX6_readToken_268 : decode cX6_readToken 268 = .ok (.iconst 1, 1) := by decide +kernel
theorem dX6_readToken_269 : decode cX6_readToken 269 = .ok (.goto 4, 3) := by decide +kernel
theorem dX6_readToken_272 : decode cX6_readToken 272 = .ok (.iconst 0, 1) := by decide +kernel
theorem dX6_readToken_273 : decode cX6_readToken 273 = .ok (.ireturn, 1) := by decide +kernel
theorem dX6_lineNamed_0 : decode cX6_lineNamed 0 = .ok (.aload_n 0, 1) := by decide +kernel
theorem dX6_lineNamed_1 : decode cX6_lineNamed 1 = .ok (.ldc 149, 2) := by decide +kernel
theorem dX6_lineNamed_3 : decode cX6_lineNamed 3 = .ok (.invokevirtual 151, 3) := by decide +kernel
theorem dX6_lineNamed_6 : decode cX6_lineNamed 6 = .ok (.ifCond .eq 5, 3) := by decide +kernel
theorem dX6_lineNamed_9 : decode cX6_lineNamed 9 = .ok (.iconst 0, 1) := by decide +kernel
theorem dX6_lineNamed_10 : decode cX6_lineNamed 10 = .ok (.ireturn, 1) := by decide +kernel
theorem dX6_lineNamed_11 : decode cX6_lineNamed 11 = .ok (.aload_n 0, 1) := by decide +kernel
theorem dX6_lineNamed_12 : decode cX6_lineNamed 12 = .ok (.ldc 155, 2) := by decide +kernel
theorem dX6_lineNamed_14 : decode cX6_lineNamed 14 = .ok (.invokevirtual 151, 3) := by decide +kernel
theorem dX6_lineNamed_17 : decode cX6_lineNamed 17 = .ok (.ifCond .eq 5, 3) := by decide +kernel
theorem dX6_lineNamed_20 : decode cX6_lineNamed 20 = .ok (.iconst 1, 1) := by decide +kernel
theorem dX6_lineNamed_21 : decode cX6_lineNamed 21 = .ok (.ireturn, 1) := by decide +kernel
theorem dX6_lineNamed_22 : decode cX6_lineNamed 22 = .ok (.aload_n 0, 1) := by decide +kernel
theorem dX6_lineNamed_23 : decode cX6_lineNamed 23 = .ok (.ldc 157, 2) := by decide +kernel
theorem dX6_lineNamed_25 : decode cX6_lineNamed 25 = .ok (.invokevirtual 151, 3) := by decide +kernel
theorem dX6_lineNamed_28 : decode cX6_lineNamed 28 = .ok (.ifCond .eq 5, 3) := by decide +kernel
theorem dX6_lineNamed_31 : decode cX6_lineNamed 31 = .ok (.iconst 2, 1) := by decide +kernel
theorem dX6_lineNamed_32 : decode cX6_lineNamed 32 = .ok (.ireturn, 1) := by decide +kernel
theorem dX6_lineNamed_33 : decode cX6_lineNamed 33 = .ok (.aload_n 0, 1) := by decide +kernel
theorem dX6_lineNamed_34 : decode cX6_lineNamed 34 = .ok (.ldc 159, 2) := by decide +kernel
theorem dX6_lineNamed_36 : decode cX6_lineNamed 36 = .ok (.invokevirtual 151, 3) := by decide +kernel
theorem dX6_lineNamed_39 : decode cX6_lineNamed 39 = .ok (.ifCond .eq 5, 3) := by decide +kernel
theorem dX6_lineNamed_42 : decode cX6_lineNamed 42 = .ok (.iconst 3, 1) := by decide +kernel
theorem dX6_lineNamed_43 : decode cX6_lineNamed 43 = .ok (.ireturn, 1) := by decide +kernel
theorem dX6_lineNamed_44 : decode cX6_lineNamed 44 = .ok (.aload_n 0, 1) := by decide +kernel
theorem dX6_lineNamed_45 : decode cX6_lineNamed 45 = .ok (.ldc 161, 2) := by decide +kernel
theorem dX6_lineNamed_47 : decode cX6_lineNamed 47 = .ok (.invokevirtual 151, 3) := by decide +kernel
theorem dX6_lineNamed_50 : decode cX6_lineNamed 50 = .ok (.ifCond .eq 5, 3) := by decide +kernel
theorem dX6_lineNamed_53 : decode cX6_lineNamed 53 = .ok (.iconst 4, 1) := by decide +kernel
theorem dX6_lineNamed_54 : decode cX6_lineNamed 54 = .ok (.ireturn, 1) := by decide +kernel
theorem dX6_lineNamed_55 : decode cX6_lineNamed 55 = .ok (.aload_n 0, 1) := by decide +kernel
theorem dX6_lineNamed_56 : decode cX6_lineNamed 56 = .ok (.ldc 163, 2) := by decide +kernel
theorem dX6_lineNamed_58 : decode cX6_lineNamed 58 = .ok (.invokevirtual 151, 3) := by decide +kernel
theorem dX6_lineNamed_61 : decode cX6_lineNamed 61 = .ok (.ifCond .eq 5, 3) := by decide +kernel
theorem dX6_lineNamed_64 : decode cX6_lineNamed 64 = .ok (.iconst 5, 1) := by decide +kernel
theorem dX6_lineNamed_65 : decode cX6_lineNamed 65 = .ok (.ireturn, 1) := by decide +kernel
theorem dX6_lineNamed_66 : decode cX6_lineNamed 66 = .ok (.aload_n 0, 1) := by decide +kernel
theorem dX6_lineNamed_67 : decode cX6_lineNamed 67 = .ok (.ldc 165, 2) := by decide +kernel
theorem dX6_lineNamed_69 : decode cX6_lineNamed 69 = .ok (.invokevirtual 151, 3) := by decide +kernel
theorem dX6_lineNamed_72 : decode cX6_lineNamed 72 = .ok (.ifCond .eq 8, 3) := by decide +kernel
theorem dX6_lineNamed_75 : decode cX6_lineNamed 75 = .ok (.bipush 6, 2) := by decide +kernel
theorem dX6_lineNamed_77 : decode cX6_lineNamed 77 = .ok (.goto 5, 3) := by decide +kernel
theorem dX6_lineNamed_80 : decode cX6_lineNamed 80 = .ok (.bipush (-4), 2) := by decide +kernel
theorem dX6_lineNamed_82 : decode cX6_lineNamed 82 = .ok (.ireturn, 1) := by decide +kernel
theorem dX6_isNamed_0 : decode cX6_isNamed 0 = .ok (.aload_n 0, 1) := by decide +kernel
theorem dX6_isNamed_1 : decode cX6_isNamed 1 = .ok (.getfield 29, 3) := by decide +kernel
theorem dX6_isNamed_4 : decode cX6_isNamed 4 = .ok (.aload_n 0, 1) := by decide +kernel
theorem dX6_isNamed_5 : decode cX6_isNamed 5 = .ok (.getfield 62, 3) := by decide +kernel
theorem dX6_isNamed_8 : decode cX6_isNamed 8 = .ok (.isub, 1) := by decide +kernel
theorem dX6_isNamed_9 : decode cX6_isNamed 9 = .ok (.aload_n 1, 1) := by decide +kernel
theorem dX6_isNamed_10 : decode cX6_isNamed 10 = .ok (.invokevirtual 167, 3) := by decide +kernel
theorem dX6_isNamed_13 : decode cX6_isNamed 13 = .ok (.if_icmp .eq 5, 3) := by decide +kernel
theorem dX6_isNamed_16 : decode cX6_isNamed 16 = .ok (.iconst 0, 1) := by decide +kernel
theorem dX6_isNamed_17 : decode cX6_isNamed 17 = .ok (.ireturn, 1) := by decide +kernel
theorem dX6_isNamed_18 : decode cX6_isNamed 18 = .ok (.iconst 0, 1) := by decide +kernel
theorem dX6_isNamed_19 : decode cX6_isNamed 19 = .ok (.istore_n 2, 1) := by decide +kernel
theorem dX6_isNamed_20 : decode cX6_isNamed 20 = .ok (.iload_n 2, 1) := by decide +kernel
theorem dX6_isNamed_21 : decode cX6_isNamed 21 = .ok (.aload_n 1, 1) := by decide +kernel
theorem dX6_isNamed_22 : decode cX6_isNamed 22 = .ok (.invokevirtual 167, 3) := by decide +kernel
theorem dX6_isNamed_25 : decode cX6_isNamed 25 = .ok (.if_icmp .ge 32, 3) := by decide +kernel
theorem dX6_isNamed_28 : decode cX6_isNamed 28 = .ok (.aload_n 0, 1) := by decide +kernel
theorem dX6_isNamed_29 : decode cX6_isNamed 29 = .ok (.getfield 12, 3) := by decide +kernel
theorem dX6_isNamed_32 : decode cX6_isNamed 32 = .ok (.aload_n 0, 1) := by decide +kernel
theorem dX6_isNamed_33 : decode cX6_isNamed 33 = .ok (.getfield 62, 3) := by decide +kernel
theorem dX6_isNamed_36 : decode cX6_isNamed 36 = .ok (.iload_n 2, 1) := by decide +kernel
theorem dX6_isNamed_37 : decode cX6_isNamed 37 = .ok (.iadd, 1) := by decide +kernel
theorem dX6_isNamed_38 : decode cX6_isNamed 38 = .ok (.invokevirtual 139, 3) := by decide +kernel
theorem dX6_isNamed_41 : decode cX6_isNamed 41 = .ok (.aload_n 1, 1) := by decide +kernel
theorem dX6_isNamed_42 : decode cX6_isNamed 42 = .ok (.iload_n 2, 1) := by decide +kernel
theorem dX6_isNamed_43 : decode cX6_isNamed 43 = .ok (.invokevirtual 171, 3) := by decide +kernel
theorem dX6_isNamed_46 : decode cX6_isNamed 46 = .ok (.if_icmp .eq 5, 3) := by decide +kernel
theorem dX6_isNamed_49 : decode cX6_isNamed 49 = .ok (.iconst 0, 1) := by decide +kernel
theorem dX6_isNamed_50 : decode cX6_isNamed 50 = .ok (.ireturn, 1) := by decide +kernel
theorem dX6_isNamed_51 : decode cX6_isNamed 51 = .ok (.iinc 2 1, 3) := by decide +kernel
theorem dX6_isNamed_54 : decode cX6_isNamed 54 = .ok (.goto (-34), 3) := by decide +kernel
theorem dX6_isNamed_57 : decode cX6_isNamed 57 = .ok (.iconst 1, 1) := by decide +kernel
theorem dX6_isNamed_58 : decode cX6_isNamed 58 = .ok (.ireturn, 1) := by decide +kernel
theorem dX6_isLetter_0 : decode cX6_isLetter 0 = .ok (.iload_n 0, 1) := by decide +kernel
theorem dX6_isLetter_1 : decode cX6_isLetter 1 = .ok (.bipush 97, 2) := by decide +kernel
theorem dX6_isLetter_3 : decode cX6_isLetter 3 = .ok (.if_icmp .lt 13, 3) := by decide +kernel
theorem dX6_isLetter_6 : decode cX6_isLetter 6 = .ok (.iload_n 0, 1) := by decide +kernel
theorem dX6_isLetter_7 : decode cX6_isLetter 7 = .ok (.bipush 122, 2) := by decide +kernel
theorem dX6_isLetter_9 : decode cX6_isLetter 9 = .ok (.if_icmp .gt 7, 3) := by decide +kernel
theorem dX6_isLetter_12 : decode cX6_isLetter 12 = .ok (.iconst 1, 1) := by decide +kernel
theorem dX6_isLetter_13 : decode cX6_isLetter 13 = .ok (.goto 4, 3) := by decide +kernel
theorem dX6_isLetter_16 : decode cX6_isLetter 16 = .ok (.iconst 0, 1) := by decide +kernel
theorem dX6_isLetter_17 : decode cX6_isLetter 17 = .ok (.ireturn, 1) := by decide +kernel
theorem dX6_isFigure_0 : decode cX6_isFigure 0 = .ok (.iload_n 0, 1) := by decide +kernel
theorem dX6_isFigure_1 : decode cX6_isFigure 1 = .ok (.bipush 48, 2) := by decide +kernel
theorem dX6_isFigure_3 : decode cX6_isFigure 3 = .ok (.if_icmp .lt 13, 3) := by decide +kernel
theorem dX6_isFigure_6 : decode cX6_isFigure 6 = .ok (.iload_n 0, 1) := by decide +kernel
theorem dX6_isFigure_7 : decode cX6_isFigure 7 = .ok (.bipush 57, 2) := by decide +kernel
theorem dX6_isFigure_9 : decode cX6_isFigure 9 = .ok (.if_icmp .gt 7, 3) := by decide +kernel
theorem dX6_isFigure_12 : decode cX6_isFigure 12 = .ok (.iconst 1, 1) := by decide +kernel
theorem dX6_isFigure_13 : decode cX6_isFigure 13 = .ok (.goto 4, 3) := by decide +kernel
theorem dX6_isFigure_16 : decode cX6_isFigure 16 = .ok (.iconst 0, 1) := by decide +kernel
theorem dX6_isFigure_17 : decode cX6_isFigure 17 = .ok (.ireturn, 1) := by decide +kernel
theorem dX7_init_0 : decode cX7_init 0 = .ok (.aload_n 0, 1) := by decide +kernel
theorem dX7_init_1 : decode cX7_init 1 = .ok (.invokespecial 3, 3) := by decide +kernel
theorem dX7_init_4 : decode cX7_init 4 = .ok (.aload_n 0, 1) := by decide +kernel
theorem dX7_init_5 : decode cX7_init 5 = .ok (.iconst 4, 1) := by decide +kernel
theorem dX7_init_6 : decode cX7_init 6 = .ok (.anewarray 9, 3) := by decide +kernel
theorem dX7_init_9 : decode cX7_init 9 = .ok (.putfield 11, 3) := by decide +kernel
theorem dX7_init_12 : decode cX7_init 12 = .ok (.aload_n 0, 1) := by decide +kernel
theorem dX7_init_13 : decode cX7_init 13 = .ok (.iconst 4, 1) := by decide +kernel
theorem dX7_init_14 : decode cX7_init 14 = .ok (.anewarray 17, 3) := by decide +kernel
theorem dX7_init_17 : decode cX7_init 17 = .ok (.putfield 19, 3) := by decide +kernel
theorem dX7_init_20 : decode cX7_init 20 = .ok (.aload_n 0, 1) := by decide +kernel
theorem dX7_init_21 : decode cX7_init 21 = .ok (.bipush 9, 2) := by decide +kernel
theorem dX7_init_23 : decode cX7_init 23 = .ok (.newarray .int, 2) := by decide +kernel
theorem dX7_init_25 : decode cX7_init 25 = .ok (.putfield 23, 3) := by decide +kernel
theorem dX7_init_28 : decode cX7_init 28 = .ok (.aload_n 0, 1) := by decide +kernel
theorem dX7_init_29 : decode cX7_init 29 = .ok (.bipush 9, 2) := by decide +kernel
theorem dX7_init_31 : decode cX7_init 31 = .ok (.newarray .int, 2) := by decide +kernel
theorem dX7_init_33 : decode cX7_init 33 = .ok (.putfield 27, 3) := by decide +kernel
theorem dX7_init_36 : decode cX7_init 36 = .ok (.iconst 0, 1) := by decide +kernel
theorem dX7_init_37 : decode cX7_init 37 = .ok (.istore_n 1, 1) := by decide +kernel
theorem dX7_init_38 : decode cX7_init 38 = .ok (.iload_n 1, 1) := by decide +kernel
theorem dX7_init_39 : decode cX7_init 39 = .ok (.iconst 4, 1) := by decide +kernel
theorem dX7_init_40 : decode cX7_init 40 = .ok (.if_icmp .ge 22, 3) := by decide +kernel
theorem dX7_init_43 : decode cX7_init 43 = .ok (.aload_n 0, 1) := by decide +kernel
theorem dX7_init_44 : decode cX7_init 44 = .ok (.getfield 11, 3) := by decide +kernel
theorem dX7_init_47 : decode cX7_init 47 = .ok (.iload_n 1, 1) := by decide +kernel
theorem dX7_init_48 : decode cX7_init 48 = .ok (.new 9, 3) := by decide +kernel
