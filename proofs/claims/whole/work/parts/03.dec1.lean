theorem dX7_init_51 : decode cX7_init 51 = .ok (.dup, 1) := by decide +kernel
theorem dX7_init_52 : decode cX7_init 52 = .ok (.invokespecial 30, 3) := by decide +kernel
theorem dX7_init_55 : decode cX7_init 55 = .ok (.aastore, 1) := by decide +kernel
theorem dX7_init_56 : decode cX7_init 56 = .ok (.iinc 1 1, 3) := by decide +kernel
theorem dX7_init_59 : decode cX7_init 59 = .ok (.goto (-21), 3) := by decide +kernel
theorem dX7_init_62 : decode cX7_init 62 = .ok (.iconst 0, 1) := by decide +kernel
theorem dX7_init_63 : decode cX7_init 63 = .ok (.istore_n 1, 1) := by decide +kernel
theorem dX7_init_64 : decode cX7_init 64 = .ok (.iload_n 1, 1) := by decide +kernel
theorem dX7_init_65 : decode cX7_init 65 = .ok (.iconst 4, 1) := by decide +kernel
theorem dX7_init_66 : decode cX7_init 66 = .ok (.if_icmp .ge 22, 3) := by decide +kernel
theorem dX7_init_69 : decode cX7_init 69 = .ok (.aload_n 0, 1) := by decide +kernel
theorem dX7_init_70 : decode cX7_init 70 = .ok (.getfield 19, 3) := by decide +kernel
theorem dX7_init_73 : decode cX7_init 73 = .ok (.iload_n 1, 1) := by decide +kernel
theorem dX7_init_74 : decode cX7_init 74 = .ok (.new 17, 3) := by decide +kernel
theorem dX7_init_77 : decode cX7_init 77 = .ok (.dup, 1) := by decide +kernel
theorem dX7_init_78 : decode cX7_init 78 = .ok (.invokespecial 31, 3) := by decide +kernel
theorem dX7_init_81 : decode cX7_init 81 = .ok (.aastore, 1) := by decide +kernel
theorem dX7_init_82 : decode cX7_init 82 = .ok (.iinc 1 1, 3) := by decide +kernel
theorem dX7_init_85 : decode cX7_init 85 = .ok (.goto (-21), 3) := by decide +kernel
theorem dX7_init_88 : decode cX7_init 88 = .ok (.return_, 1) := by decide +kernel
theorem dX7_clear_0 : decode cX7_clear 0 = .ok (.aload_n 0, 1) := by decide +kernel
theorem dX7_clear_1 : decode cX7_clear 1 = .ok (.iconst 0, 1) := by decide +kernel
theorem dX7_clear_2 : decode cX7_clear 2 = .ok (.putfield 32, 3) := by decide +kernel
theorem dX7_clear_5 : decode cX7_clear 5 = .ok (.aload_n 0, 1) := by decide +kernel
theorem dX7_clear_6 : decode cX7_clear 6 = .ok (.iconst 0, 1) := by decide +kernel
theorem dX7_clear_7 : decode cX7_clear 7 = .ok (.putfield 36, 3) := by decide +kernel
theorem dX7_clear_10 : decode cX7_clear 10 = .ok (.aload_n 0, 1) := by decide +kernel
theorem dX7_clear_11 : decode cX7_clear 11 = .ok (.iconst 0, 1) := by decide +kernel
theorem dX7_clear_12 : decode cX7_clear 12 = .ok (.putfield 39, 3) := by decide +kernel
theorem dX7_clear_15 : decode cX7_clear 15 = .ok (.aload_n 0, 1) := by decide +kernel
theorem dX7_clear_16 : decode cX7_clear 16 = .ok (.iconst 0, 1) := by decide +kernel
theorem dX7_clear_17 : decode cX7_clear 17 = .ok (.iconst 0, 1) := by decide +kernel
theorem dX7_clear_18 : decode cX7_clear 18 = .ok (.invokevirtual 42, 3) := by decide +kernel
theorem dX7_clear_21 : decode cX7_clear 21 = .ok (.return_, 1) := by decide +kernel
theorem dX7_copyFrom_0 : decode cX7_copyFrom 0 = .ok (.aload_n 0, 1) := by decide +kernel
theorem dX7_copyFrom_1 : decode cX7_copyFrom 1 = .ok (.aload_n 1, 1) := by decide +kernel
theorem dX7_copyFrom_2 : decode cX7_copyFrom 2 = .ok (.getfield 32, 3) := by decide +kernel
theorem dX7_copyFrom_5 : decode cX7_copyFrom 5 = .ok (.putfield 32, 3) := by decide +kernel
theorem dX7_copyFrom_8 : decode cX7_copyFrom 8 = .ok (.aload_n 0, 1) := by decide +kernel
theorem dX7_copyFrom_9 : decode cX7_copyFrom 9 = .ok (.aload_n 1, 1) := by decide +kernel
theorem dX7_copyFrom_10 : decode cX7_copyFrom 10 = .ok (.getfield 36, 3) := by decide +kernel
theorem dX7_copyFrom_13 : decode cX7_copyFrom 13 = .ok (.putfield 36, 3) := by decide +kernel
theorem dX7_copyFrom_16 : decode cX7_copyFrom 16 = .ok (.aload_n 0, 1) := by decide +kernel
theorem dX7_copyFrom_17 : decode cX7_copyFrom 17 = .ok (.aload_n 1, 1) := by decide +kernel
theorem dX7_copyFrom_18 : decode cX7_copyFrom 18 = .ok (.getfield 39, 3) := by decide +kernel
theorem dX7_copyFrom_21 : decode cX7_copyFrom 21 = .ok (.putfield 39, 3) := by decide +kernel
theorem dX7_copyFrom_24 : decode cX7_copyFrom 24 = .ok (.aload_n 0, 1) := by decide +kernel
theorem dX7_copyFrom_25 : decode cX7_copyFrom 25 = .ok (.aload_n 1, 1) := by decide +kernel
theorem dX7_copyFrom_26 : decode cX7_copyFrom 26 = .ok (.getfield 46, 3) := by decide +kernel
theorem dX7_copyFrom_29 : decode cX7_copyFrom 29 = .ok (.aload_n 1, 1) := by decide +kernel
theorem dX7_copyFrom_30 : decode cX7_copyFrom 30 = .ok (.getfield 49, 3) := by decide +kernel
theorem dX7_copyFrom_33 : decode cX7_copyFrom 33 = .ok (.invokevirtual 42, 3) := by decide +kernel
theorem dX7_copyFrom_36 : decode cX7_copyFrom 36 = .ok (.iconst 0, 1) := by decide +kernel
theorem dX7_copyFrom_37 : decode cX7_copyFrom 37 = .ok (.istore_n 2, 1) := by decide +kernel
theorem dX7_copyFrom_38 : decode cX7_copyFrom 38 = .ok (.iload_n 2, 1) := by decide +kernel
theorem dX7_copyFrom_39 : decode cX7_copyFrom 39 = .ok (.aload_n 0, 1) := by decide +kernel
theorem dX7_copyFrom_40 : decode cX7_copyFrom 40 = .ok (.getfield 32, 3) := by decide +kernel
theorem dX7_copyFrom_43 : decode cX7_copyFrom 43 = .ok (.if_icmp .ge 24, 3) := by decide +kernel
theorem dX7_copyFrom_46 : decode cX7_copyFrom 46 = .ok (.aload_n 0, 1) := by decide +kernel
theorem dX7_copyFrom_47 : decode cX7_copyFrom 47 = .ok (.getfield 11, 3) := by decide +kernel
theorem dX7_copyFrom_50 : decode cX7_copyFrom 50 = .ok (.iload_n 2, 1) := by decide +kernel
theorem dX7_copyFrom_51 : decode cX7_copyFrom 51 = .ok (.aaload, 1) := by decide +kernel
theorem dX7_copyFrom_52 : decode cX7_copyFrom 52 = .ok (.aload_n 1, 1) := by decide +kernel
theorem dX7_copyFrom_53 : decode cX7_copyFrom 53 = .ok (.getfield 11, 3) := by decide +kernel
theorem dX7_copyFrom_56 : decode cX7_copyFrom 56 = .ok (.iload_n 2, 1) := by decide +kernel
theorem dX7_copyFrom_57 : decode cX7_copyFrom 57 = .ok (.aaload, 1) := by decide +kernel
theorem dX7_copyFrom_58 : decode cX7_copyFrom 58 = .ok (.invokevirtual 52, 3) := by decide +kernel
theorem dX7_copyFrom_61 : decode cX7_copyFrom 61 = .ok (.iinc 2 1, 3) := by decide +kernel
theorem dX7_copyFrom_64 : decode cX7_copyFrom 64 = .ok (.goto (-26), 3) := by decide +kernel
theorem dX7_copyFrom_67 : decode cX7_copyFrom 67 = .ok (.iconst 0, 1) := by decide +kernel
theorem dX7_copyFrom_68 : decode cX7_copyFrom 68 = .ok (.istore_n 2, 1) := by decide +kernel
theorem dX7_copyFrom_69 : decode cX7_copyFrom 69 = .ok (.iload_n 2, 1) := by decide +kernel
theorem dX7_copyFrom_70 : decode cX7_copyFrom 70 = .ok (.aload_n 0, 1) := by decide +kernel
theorem dX7_copyFrom_71 : decode cX7_copyFrom 71 = .ok (.getfield 39, 3) := by decide +kernel
theorem dX7_copyFrom_74 : decode cX7_copyFrom 74 = .ok (.if_icmp .ge 24, 3) := by decide +kernel
theorem dX7_copyFrom_77 : decode cX7_copyFrom 77 = .ok (.aload_n 0, 1) := by decide +kernel
theorem dX7_copyFrom_78 : decode cX7_copyFrom 78 = .ok (.getfield 19, 3) := by decide +kernel
theorem dX7_copyFrom_81 : decode cX7_copyFrom 81 = .ok (.iload_n 2, 1) := by decide +kernel
theorem dX7_copyFrom_82 : decode cX7_copyFrom 82 = .ok (.aaload, 1) := by decide +kernel
theorem dX7_copyFrom_83 : decode cX7_copyFrom 83 = .ok (.aload_n 1, 1) := by decide +kernel
theorem dX7_copyFrom_84 : decode cX7_copyFrom 84 = .ok (.getfield 19, 3) := by decide +kernel
theorem dX7_copyFrom_87 : decode cX7_copyFrom 87 = .ok (.iload_n 2, 1) := by decide +kernel
theorem dX7_copyFrom_88 : decode cX7_copyFrom 88 = .ok (.aaload, 1) := by decide +kernel
theorem dX7_copyFrom_89 : decode cX7_copyFrom 89 = .ok (.invokevirtual 56, 3) := by decide +kernel
theorem dX7_copyFrom_92 : decode cX7_copyFrom 92 = .ok (.iinc 2 1, 3) := by decide +kernel
theorem dX7_copyFrom_95 : decode cX7_copyFrom 95 = .ok (.goto (-26), 3) := by decide +kernel
theorem dX7_copyFrom_98 : decode cX7_copyFrom 98 = .ok (.iconst 0, 1) := by decide +kernel
theorem dX7_copyFrom_99 : decode cX7_copyFrom 99 = .ok (.istore_n 2, 1) := by decide +kernel
theorem dX7_copyFrom_100 : decode cX7_copyFrom 100 = .ok (.iload_n 2, 1) := by decide +kernel
theorem dX7_copyFrom_101 : decode cX7_copyFrom 101 = .ok (.aload_n 0, 1) := by decide +kernel
theorem dX7_copyFrom_102 : decode cX7_copyFrom 102 = .ok (.getfield 36, 3) := by decide +kernel
theorem dX7_copyFrom_105 : decode cX7_copyFrom 105 = .ok (.if_icmp .ge 33, 3) := by decide +kernel
theorem dX7_copyFrom_108 : decode cX7_copyFrom 108 = .ok (.aload_n 0, 1) := by decide +kernel
theorem dX7_copyFrom_109 : decode cX7_copyFrom 109 = .ok (.getfield 23, 3) := by decide +kernel
theorem dX7_copyFrom_112 : decode cX7_copyFrom 112 = .ok (.iload_n 2, 1) := by decide +kernel
theorem dX7_copyFrom_113 : decode cX7_copyFrom 113 = .ok (.aload_n 1, 1) := by decide +kernel
theorem dX7_copyFrom_114 : decode cX7_copyFrom 114 = .ok (.getfield 23, 3) := by decide +kernel
theorem dX7_copyFrom_117 : decode cX7_copyFrom 117 = .ok (.iload_n 2, 1) := by decide +kernel
theorem dX7_copyFrom_118 : decode cX7_copyFrom 118 = .ok (.iaload, 1) := by decide +kernel
theorem dX7_copyFrom_119 : decode cX7_copyFrom 119 = .ok (.iastore, 1) := by decide +kernel
theorem dX7_copyFrom_120 : decode cX7_copyFrom 120 = .ok (.aload_n 0, 1) := by decide +kernel
theorem dX7_copyFrom_121 : decode cX7_copyFrom 121 = .ok (.getfield 27, 3) := by decide +kernel
theorem dX7_copyFrom_124 : decode cX7_copyFrom 124 = .ok (.iload_n 2, 1) := by decide +kernel
theorem dX7_copyFrom_125 : decode cX7_copyFrom 125 = .ok (.aload_n 1, 1) := by decide +kernel
theorem dX7_copyFrom_126 : decode cX7_copyFrom 126 = .ok (.getfield 27, 3) := by decide +kernel
theorem dX7_copyFrom_129 : decode cX7_copyFrom 129 = .ok (.iload_n 2, 1) := by decide +kernel
theorem dX7_copyFrom_130 : decode cX7_copyFrom 130 = .ok (.iaload, 1) := by decide +kernel
theorem dX7_copyFrom_131 : decode cX7_copyFrom 131 = .ok (.iastore, 1) := by decide +kernel
theorem dX7_copyFrom_132 : decode cX7_copyFrom 132 = .ok (.iinc 2 1, 3) := by decide +kernel
theorem dX7_copyFrom_135 : decode cX7_copyFrom 135 = .ok (.goto (-35), 3) := by decide +kernel
theorem dX7_copyFrom_138 : decode cX7_copyFrom 138 = .ok (.return_, 1) := by decide +kernel
theorem dX7_manAt_0 : decode cX7_manAt 0 = .ok (.iload_n 1, 1) := by decide +kernel
theorem dX7_manAt_1 : decode cX7_manAt 1 = .ok (.ifCond .lt 20, 3) := by decide +kernel
theorem dX7_manAt_4 : decode cX7_manAt 4 = .ok (.iload_n 1, 1) := by decide +kernel
theorem dX7_manAt_5 : decode cX7_manAt 5 = .ok (.aload_n 0, 1) := by decide +kernel
theorem dX7_manAt_6 : decode cX7_manAt 6 = .ok (.getfield 32, 3) := by decide +kernel
theorem dX7_manAt_9 : decode cX7_manAt 9 = .ok (.if_icmp .ge 12, 3) := by decide +kernel
theorem dX7_manAt_12 : decode cX7_manAt 12 = .ok (.aload_n 0, 1) := by decide +kernel
theorem dX7_manAt_13 : decode cX7_manAt 13 = .ok (.getfield 11, 3) := by decide +kernel
theorem dX7_manAt_16 : decode cX7_manAt 16 = .ok (.iload_n 1, 1) := by decide +kernel
theorem dX7_manAt_17 : decode cX7_manAt 17 = .ok (.aaload, 1) := by decide +kernel
theorem dX7_manAt_18 : decode cX7_manAt 18 = .ok (.goto 4, 3) := by decide +kernel
theorem dX7_manAt_21 : decode cX7_manAt 21 = .ok (.aconst_null, 1) := by decide +kernel
theorem dX7_manAt_22 : decode cX7_manAt 22 = .ok (.areturn, 1) := by decide +kernel
theorem dX7_readerAt_0 : decode cX7_readerAt 0 = .ok (.iload_n 1, 1) := by decide +kernel
theorem dX7_readerAt_1 : decode cX7_readerAt 1 = .ok (.ifCond .lt 20, 3) := by decide +kernel
theorem dX7_readerAt_4 : decode cX7_readerAt 4 = .ok (.iload_n 1, 1) := by decide +kernel
theorem dX7_readerAt_5 : decode cX7_readerAt 5 = .ok (.aload_n 0, 1) := by decide +kernel
theorem dX7_readerAt_6 : decode cX7_readerAt 6 = .ok (.getfield 39, 3) := by decide +kernel
theorem dX7_readerAt_9 : decode cX7_readerAt 9 = .ok (.if_icmp .ge 12, 3) := by decide +kernel
theorem dX7_readerAt_12 : decode cX7_readerAt 12 = .ok (.aload_n 0, 1) := by decide +kernel
theorem dX7_readerAt_13 : decode cX7_readerAt 13 = .ok (.getfield 19, 3) := by decide +kernel
theorem dX7_readerAt_16 : decode cX7_readerAt 16 = .ok (.iload_n 1, 1) := by decide +kernel
theorem dX7_readerAt_17 : decode cX7_readerAt 17 = .ok (.aaload, 1) := by decide +kernel
theorem dX7_readerAt_18 : decode cX7_readerAt 18 = .ok (.goto 4, 3) := by decide +kernel
theorem dX7_readerAt_21 : decode cX7_readerAt 21 = .ok (.aconst_null, 1) := by decide +kernel
theorem dX7_readerAt_22 : decode cX7_readerAt 22 = .ok (.areturn, 1) := by decide +kernel
theorem dX7_addMan_0 : decode cX7_addMan 0 = .ok (.aload_n 0, 1) := by decide +kernel
theorem dX7_addMan_1 : decode cX7_addMan 1 = .ok (.getfield 32, 3) := by decide +kernel
theorem dX7_addMan_4 : decode cX7_addMan 4 = .ok (.iconst 4, 1) := by decide +kernel
theorem dX7_addMan_5 : decode cX7_addMan 5 = .ok (.if_icmp .lt 5, 3) := by decide +kernel
theorem dX7_addMan_8 : decode cX7_addMan 8 = .ok (.aconst_null, 1) := by decide +kernel
theorem dX7_addMan_9 : decode cX7_addMan 9 = .ok (.areturn, 1) := by decide +kernel
theorem dX7_addMan_10 : decode cX7_addMan 10 = .ok (.aload_n 0, 1) := by decide +kernel
theorem dX7_addMan_11 : decode cX7_addMan 11 = .ok (.getfield 11, 3) := by decide +kernel
theorem dX7_addMan_14 : decode cX7_addMan 14 = .ok (.aload_n 0, 1) := by decide +kernel
theorem dX7_addMan_15 : decode cX7_addMan 15 = .ok (.getfield 32, 3) := by decide +kernel
theorem dX7_addMan_18 : decode cX7_addMan 18 = .ok (.aaload, 1) := by decide +kernel
theorem dX7_addMan_19 : decode cX7_addMan 19 = .ok (.astore_n 2, 1) := by decide +kernel
theorem dX7_addMan_20 : decode cX7_addMan 20 = .ok (.aload_n 2, 1) := by decide +kernel
theorem dX7_addMan_21 : decode cX7_addMan 21 = .ok (.iload_n 1, 1) := by decide +kernel
theorem dX7_addMan_22 : decode cX7_addMan 22 = .ok (.putfield 59, 3) := by decide +kernel
theorem dX7_addMan_25 : decode cX7_addMan 25 = .ok (.aload_n 2, 1) := by decide +kernel
theorem dX7_addMan_26 : decode cX7_addMan 26 = .ok (.iconst 0, 1) := by decide +kernel
theorem dX7_addMan_27 : decode cX7_addMan 27 = .ok (.putfield 62, 3) := by decide +kernel
theorem dX7_addMan_30 : decode cX7_addMan 30 = .ok (.aload_n 0, 1) := by decide +kernel
theorem dX7_addMan_31 : decode cX7_addMan 31 = .ok (.dup, 1) := by decide +kernel
theorem dX7_addMan_32 : decode cX7_addMan 32 = .ok (.getfield 32, 3) := by decide +kernel
theorem dX7_addMan_35 : decode cX7_addMan 35 = .ok (.iconst 1, 1) := by decide +kernel
theorem dX7_addMan_36 : decode cX7_addMan 36 = .ok (.iadd, 1) := by decide +kernel
theorem dX7_addMan_37 : decode cX7_addMan 37 = .ok (.putfield 32, 3) := by decide +kernel
theorem dX7_addMan_40 : decode cX7_addMan 40 = .ok (.aload_n 2, 1) := by decide +kernel
theorem dX7_addMan_41 : decode cX7_addMan 41 = .ok (.areturn, 1) := by decide +kernel
theorem dX7_addReader_0 : decode cX7_addReader 0 = .ok (.aload_n 0, 1) := by decide +kernel
theorem dX7_addReader_1 : decode cX7_addReader 1 = .ok (.getfield 39, 3) := by decide +kernel
theorem dX7_addReader_4 : decode cX7_addReader 4 = .ok (.iconst 4, 1) := by decide +kernel
theorem dX7_addReader_5 : decode cX7_addReader 5 = .ok (.if_icmp .lt 5, 3) := by decide +kernel
theorem dX7_addReader_8 : decode cX7_addReader 8 = .ok (.aconst_null, 1) := by decide +kernel
theorem dX7_addReader_9 : decode cX7_addReader 9 = .ok (.areturn, 1) := by decide +kernel
theorem dX7_addReader_10 : decode cX7_addReader 10 = .ok (.aload_n 0, 1) := by decide +kernel
theorem dX7_addReader_11 : decode cX7_addReader 11 = .ok (.dup, 1) := by decide +kernel
theorem dX7_addReader_12 : decode cX7_addReader 12 = .ok (.getfield 39, 3) := by decide +kernel
theorem dX7_addReader_15 : decode cX7_addReader 15 = .ok (.iconst 1, 1) := by decide +kernel
theorem dX7_addReader_16 : decode cX7_addReader 16 = .ok (.iadd, 1) := by decide +kernel
theorem dX7_addReader_17 : decode cX7_addReader 17 = .ok (.putfield 39, 3) := by decide +kernel
theorem dX7_addReader_20 : decode cX7_addReader 20 = .ok (.aload_n 0, 1) := by decide +kernel
theorem dX7_addReader_21 : decode cX7_addReader 21 = .ok (.getfield 19, 3) := by decide +kernel
theorem dX7_addReader_24 : decode cX7_addReader 24 = .ok (.aload_n 0, 1) := by decide +kernel
theorem dX7_addReader_25 : decode cX7_addReader 25 = .ok (.getfield 39, 3) := by decide +kernel
theorem dX7_addReader_28 : decode cX7_addReader 28 = .ok (.iconst 1, 1) := by decide +kernel
theorem dX7_addReader_29 : decode cX7_addReader 29 = .ok (.isub, 1) := by decide +kernel
theorem dX7_addReader_30 : decode cX7_addReader 30 = .ok (.aaload, 1) := by decide +kernel
theorem dX7_addReader_31 : decode cX7_addReader 31 = .ok (.areturn, 1) := by decide +kernel
theorem dX7_addStreet_0 : decode cX7_addStreet 0 = .ok (.aload_n 0, 1) := by decide +kernel
theorem dX7_addStreet_1 : decode cX7_addStreet 1 = .ok (.getfield 36, 3) := by decide +kernel
theorem dX7_addStreet_4 : decode cX7_addStreet 4 = .ok (.bipush 9, 2) := by decide +kernel
theorem dX7_addStreet_6 : decode cX7_addStreet 6 = .ok (.if_icmp .lt 5, 3) := by decide +kernel
theorem dX7_addStreet_9 : decode cX7_addStreet 9 = .ok (.iconst 0, 1) := by decide +kernel
theorem dX7_addStreet_10 : decode cX7_addStreet 10 = .ok (.ireturn, 1) := by decide +kernel
theorem dX7_addStreet_11 : decode cX7_addStreet 11 = .ok (.aload_n 0, 1) := by decide +kernel
theorem dX7_addStreet_12 : decode cX7_addStreet 12 = .ok (.getfield 23, 3) := by decide +kernel
theorem dX7_addStreet_15 : decode cX7_addStreet 15 = .ok (.aload_n 0, 1) := by decide +kernel
theorem dX7_addStreet_16 : decode cX7_addStreet 16 = .ok (.getfield 36, 3) := by decide +kernel
theorem dX7_addStreet_19 : decode cX7_addStreet 19 = .ok (.iload_n 1, 1) := by decide +kernel
theorem dX7_addStreet_20 : decode cX7_addStreet 20 = .ok (.iastore, 1) := by decide +kernel
theorem dX7_addStreet_21 : decode cX7_addStreet 21 = .ok (.aload_n 0, 1) := by decide +kernel
theorem dX7_addStreet_22 : decode cX7_addStreet 22 = .ok (.getfield 27, 3) := by decide +kernel
theorem dX7_addStreet_25 : decode cX7_addStreet 25 = .ok (.aload_n 0, 1) := by decide +kernel
theorem dX7_addStreet_26 : decode cX7_addStreet 26 = .ok (.getfield 36, 3) := by decide +kernel
theorem dX7_addStreet_29 : decode cX7_addStreet 29 = .ok (.iload_n 2, 1) := by decide +kernel
theorem dX7_addStreet_30 : decode cX7_addStreet 30 = .ok (.iastore, 1) := by decide +kernel
theorem dX7_addStreet_31 : decode cX7_addStreet 31 = .ok (.aload_n 0, 1) := by decide +kernel
theorem dX7_addStreet_32 : decode cX7_addStreet 32 = .ok (.dup, 1) := by decide +kernel
theorem dX7_addStreet_33 : decode cX7_addStreet 33 = .ok (.getfield 36, 3) := by decide +kernel
theorem dX7_addStreet_36 : decode cX7_addStreet 36 = .ok (.iconst 1, 1) := by decide +kernel
theorem dX7_addStreet_37 : decode cX7_addStreet 37 = .ok (.iadd, 1) := by decide +kernel
theorem dX7_addStreet_38 : decode cX7_addStreet 38 = .ok (.putfield 36, 3) := by decide +kernel
theorem dX7_addStreet_41 : decode cX7_addStreet 41 = .ok (.iconst 1, 1) := by decide +kernel
theorem dX7_addStreet_42 : decode cX7_addStreet 42 = .ok (.ireturn, 1) := by decide +kernel
theorem dX7_setRain_0 : decode cX7_setRain 0 = .ok (.aload_n 0, 1) := by decide +kernel
theorem dX7_setRain_1 : decode cX7_setRain 1 = .ok (.iload_n 1, 1) := by decide +kernel
theorem dX7_setRain_2 : decode cX7_setRain 2 = .ok (.putfield 46, 3) := by decide +kernel
theorem dX7_setRain_5 : decode cX7_setRain 5 = .ok (.aload_n 0, 1) := by decide +kernel
theorem dX7_setRain_6 : decode cX7_setRain 6 = .ok (.iload_n 2, 1) := by decide +kernel
theorem dX7_setRain_7 : decode cX7_setRain 7 = .ok (.putfield 49, 3) := by decide +kernel
theorem dX7_setRain_10 : decode cX7_setRain 10 = .ok (.return_, 1) := by decide +kernel
theorem dX7_hasStreet_0 : decode cX7_hasStreet 0 = .ok (.iconst 0, 1) := by decide +kernel
theorem dX7_hasStreet_1 : decode cX7_hasStreet 1 = .ok (.istore_n 3, 1) := by decide +kernel
theorem dX7_hasStreet_2 : decode cX7_hasStreet 2 = .ok (.iload_n 3, 1) := by decide +kernel
theorem dX7_hasStreet_3 : decode cX7_hasStreet 3 = .ok (.aload_n 0, 1) := by decide +kernel
theorem dX7_hasStreet_4 : decode cX7_hasStreet 4 = .ok (.getfield 36, 3) := by decide +kernel
theorem dX7_hasStreet_7 : decode cX7_hasStreet 7 = .ok (.if_icmp .ge 51, 3) := by decide +kernel
theorem dX7_hasStreet_10 : decode cX7_hasStreet 10 = .ok (.aload_n 0, 1) := by decide +kernel
theorem dX7_hasStreet_11 : decode cX7_hasStreet 11 = .ok (.getfield 23, 3) := by decide +kernel
theorem dX7_hasStreet_14 : decode cX7_hasStreet 14 = .ok (.iload_n 3, 1) := by decide +kernel
theorem dX7_hasStreet_15 : decode cX7_hasStreet 15 = .ok (.iaload, 1) := by decide +kernel
theorem dX7_hasStreet_16 : decode cX7_hasStreet 16 = .ok (.iload_n 1, 1) := by decide +kernel
theorem dX7_hasStreet_17 : decode cX7_hasStreet 17 = .ok (.if_icmp .ne 13, 3) := by decide +kernel
theorem dX7_hasStreet_20 : decode cX7_hasStreet 20 = .ok (.aload_n 0, 1) := by decide +kernel
theorem dX7_hasStreet_21 : decode cX7_hasStreet 21 = .ok (.getfield 27, 3) := by decide +kernel
theorem dX7_hasStreet_24 : decode cX7_hasStreet 24 = .ok (.iload_n 3, 1) := by decide +kernel
theorem dX7_hasStreet_25 : decode cX7_hasStreet 25 = .ok (.iaload, 1) := by decide +kernel
theorem dX7_hasStreet_26 : decode cX7_hasStreet 26 = .ok (.iload_n 2, 1) := by decide +kernel
theorem dX7_hasStreet_27 : decode cX7_hasStreet 27 = .ok (.if_icmp .eq 23, 3) := by decide +kernel
theorem dX7_hasStreet_30 : decode cX7_hasStreet 30 = .ok (.aload_n 0, 1) := by decide +kernel
theorem dX7_hasStreet_31 : decode cX7_hasStreet 31 = .ok (.getfield 23, 3) := by decide +kernel
theorem dX7_hasStreet_34 : decode cX7_hasStreet 34 = .ok (.iload_n 3, 1) := by decide +kernel
theorem dX7_hasStreet_35 : decode cX7_hasStreet 35 = .ok (.iaload, 1) := by decide +kernel
theorem dX7_hasStreet_36 : decode cX7_hasStreet 36 = .ok (.iload_n 2, 1) := by decide +kernel
theorem dX7_hasStreet_37 : decode cX7_hasStreet 37 = .ok (.if_icmp .ne 15, 3) := by decide +kernel
theorem dX7_hasStreet_40 : decode cX7_hasStreet 40 = .ok (.aload_n 0, 1) := by decide +kernel
theorem dX7_hasStreet_41 : decode cX7_hasStreet 41 = .ok (.getfield 27, 3) := by decide +kernel
theorem dX7_hasStreet_44 : decode cX7_hasStreet 44 = .ok (.iload_n 3, 1) := by decide +kernel
theorem dX7_hasStreet_45 : decode cX7_hasStreet 45 = .ok (.iaload, 1) := by decide +kernel
theorem dX7_hasStreet_46 : decode cX7_hasStreet 46 = .ok (.iload_n 1, 1) := by decide +kernel
theorem dX7_hasStreet_47 : decode cX7_hasStreet 47 = .ok (.if_icmp .ne 5, 3) := by decide +kernel
theorem dX7_hasStreet_50 : decode cX7_hasStreet 50 = .ok (.iconst 1, 1) := by decide +kernel
theorem dX7_hasStreet_51 : decode cX7_hasStreet 51 = .ok (.ireturn, 1) := by decide +kernel
theorem dX7_hasStreet_52 : decode cX7_hasStreet 52 = .ok (.iinc 3 1, 3) := by decide +kernel
theorem dX7_hasStreet_55 : decode cX7_hasStreet 55 = .ok (.goto (-53), 3) := by decide +kernel
theorem dX7_hasStreet_58 : decode cX7_hasStreet 58 = .ok (.iconst 0, 1) := by decide +kernel
theorem dX7_hasStreet_59 : decode cX7_hasStreet 59 = .ok (.ireturn, 1) := by decide +kernel
theorem dX7_canWalk_0 : decode cX7_canWalk 0 = .ok (.iconst 0, 1) := by decide +kernel
theorem dX7_canWalk_1 : decode cX7_canWalk 1 = .ok (.istore_n 2, 1) := by decide +kernel
theorem dX7_canWalk_2 : decode cX7_canWalk 2 = .ok (.aload_n 1, 1) := by decide +kernel
theorem dX7_canWalk_3 : decode cX7_canWalk 3 = .ok (.getfield 62, 3) := by decide +kernel
theorem dX7_canWalk_6 : decode cX7_canWalk 6 = .ok (.iconst 1, 1) := by decide +kernel
theorem dX7_canWalk_7 : decode cX7_canWalk 7 = .ok (.if_icmp .le 56, 3) := by decide +kernel
theorem dX7_canWalk_10 : decode cX7_canWalk 10 = .ok (.iload_n 2, 1) := by decide +kernel
theorem dX7_canWalk_11 : decode cX7_canWalk 11 = .ok (.aload_n 1, 1) := by decide +kernel
theorem dX7_canWalk_12 : decode cX7_canWalk 12 = .ok (.getfield 62, 3) := by decide +kernel
theorem dX7_canWalk_15 : decode cX7_canWalk 15 = .ok (.if_icmp .ge 48, 3) := by decide +kernel
theorem dX7_canWalk_18 : decode cX7_canWalk 18 = .ok (.iload_n 2, 1) := by decide +kernel
theorem dX7_canWalk_19 : decode cX7_canWalk 19 = .ok (.iconst 1, 1) := by decide +kernel
theorem dX7_canWalk_20 : decode cX7_canWalk 20 = .ok (.iadd, 1) := by decide +kernel
theorem dX7_canWalk_21 : decode cX7_canWalk 21 = .ok (.aload_n 1, 1) := by decide +kernel
theorem dX7_canWalk_22 : decode cX7_canWalk 22 = .ok (.getfield 62, 3) := by decide +kernel
theorem dX7_canWalk_25 : decode cX7_canWalk 25 = .ok (.if_icmp .ge 9, 3) := by decide +kernel
theorem dX7_canWalk_28 : decode cX7_canWalk 28 = .ok (.iload_n 2, 1) := by decide +kernel
theorem dX7_canWalk_29 : decode cX7_canWalk 29 = .ok (.iconst 1, 1) := by decide +kernel
theorem dX7_canWalk_30 : decode cX7_canWalk 30 = .ok (.iadd, 1) := by decide +kernel
theorem dX7_canWalk_31 : decode cX7_canWalk 31 = .ok (.goto 4, 3) := by decide +kernel
theorem dX7_canWalk_34 : decode cX7_canWalk 34 = .ok (.iconst 0, 1) := by decide +kernel
theorem dX7_canWalk_35 : decode cX7_canWalk 35 = .ok (.istore_n 3, 1) := by decide +kernel
theorem dX7_canWalk_36 : decode cX7_canWalk 36 = .ok (.aload_n 0, 1) := by decide +kernel
theorem dX7_canWalk_37 : decode cX7_canWalk 37 = .ok (.aload_n 1, 1) := by decide +kernel
theorem dX7_canWalk_38 : decode cX7_canWalk 38 = .ok (.getfield 65, 3) := by decide +kernel
theorem dX7_canWalk_41 : decode cX7_canWalk 41 = .ok (.iload_n 2, 1) := by decide +kernel
theorem dX7_canWalk_42 : decode cX7_canWalk 42 = .ok (.iaload, 1) := by decide +kernel
theorem dX7_canWalk_43 : decode cX7_canWalk 43 = .ok (.aload_n 1, 1) := by decide +kernel
theorem dX7_canWalk_44 : decode cX7_canWalk 44 = .ok (.getfield 65, 3) := by decide +kernel
theorem dX7_canWalk_47 : decode cX7_canWalk 47 = .ok (.iload_n 3, 1) := by decide +kernel
theorem dX7_canWalk_48 : decode cX7_canWalk 48 = .ok (.iaload, 1) := by decide +kernel
theorem dX7_canWalk_49 : decode cX7_canWalk 49 = .ok (.invokevirtual 68, 3) := by decide +kernel
theorem dX7_canWalk_52 : decode cX7_canWalk 52 = .ok (.ifCond .ne 5, 3) := by decide +kernel
theorem dX7_canWalk_55 : decode cX7_canWalk 55 = .ok (.iconst 0, 1) := by decide +kernel
theorem dX7_canWalk_56 : decode cX7_canWalk 56 = .ok (.ireturn, 1) := by decide +kernel
theorem dX7_canWalk_57 : decode cX7_canWalk 57 = .ok (.iinc 2 1, 3) := by decide +kernel
theorem dX7_canWalk_60 : decode cX7_canWalk 60 = .ok (.goto (-58), 3) := by decide +kernel
theorem dX7_canWalk_63 : decode cX7_canWalk 63 = .ok (.iconst 1, 1) := by decide +kernel
theorem dX7_canWalk_64 : decode cX7_canWalk 64 = .ok (.ireturn, 1) := by decide +kernel
theorem dX7_canAllWalk_0 : decode cX7_canAllWalk 0 = .ok (.iconst 0, 1) := by decide +kernel
theorem dX7_canAllWalk_1 : decode cX7_canAllWalk 1 = .ok (.istore_n 1, 1) := by decide +kernel
theorem dX7_canAllWalk_2 : decode cX7_canAllWalk 2 = .ok (.iload_n 1, 1) := by decide +kernel
theorem dX7_canAllWalk_3 : decode cX7_canAllWalk 3 = .ok (.aload_n 0, 1) := by decide +kernel
theorem dX7_canAllWalk_4 : decode cX7_canAllWalk 4 = .ok (.getfield 32, 3) := by decide +kernel
theorem dX7_canAllWalk_7 : decode cX7_canAllWalk 7 = .ok (.if_icmp .ge 24, 3) := by decide +kernel
theorem dX7_canAllWalk_10 : decode cX7_canAllWalk 10 = .ok (.aload_n 0, 1) := by decide +kernel
theorem dX7_canAllWalk_11 : decode cX7_canAllWalk 11 = .ok (.aload_n 0, 1) := by decide +kernel
theorem dX7_canAllWalk_12 : decode cX7_canAllWalk 12 = .ok (.getfield 11, 3) := by decide +kernel
theorem dX7_canAllWalk_15 : decode cX7_canAllWalk 15 = .ok (.iload_n 1, 1) := by decide +kernel
theorem dX7_canAllWalk_16 : decode cX7_canAllWalk 16 = .ok (.aaload, 1) := by decide +kernel
theorem dX7_canAllWalk_17 : decode cX7_canAllWalk 17 = .ok (.invokevirtual 72, 3) := by decide +kernel
theorem dX7_canAllWalk_20 : decode cX7_canAllWalk 20 = .ok (.ifCond .ne 5, 3) := by decide +kernel
theorem dX7_canAllWalk_23 : decode cX7_canAllWalk 23 = .ok (.iconst 0, 1) := by decide +kernel
theorem dX7_canAllWalk_24 : decode cX7_canAllWalk 24 = .ok (.ireturn, 1) := by decide +kernel
theorem dX7_canAllWalk_25 : decode cX7_canAllWalk 25 = .ok (.iinc 1 1, 3) := by decide +kernel
theorem dX7_canAllWalk_28 : decode cX7_canAllWalk 28 = .ok (.goto (-26), 3) := by decide +kernel
theorem dX7_canAllWalk_31 : decode cX7_canAllWalk 31 = .ok (.iconst 1, 1) := by decide +kernel
theorem dX7_canAllWalk_32 : decode cX7_canAllWalk 32 = .ok (.ireturn, 1) := by decide +kernel
theorem dX7_minutesOf_0 : decode cX7_minutesOf 0 = .ok (.lconst 1, 1) := by decide +kernel
theorem dX7_minutesOf_1 : decode cX7_minutesOf 1 = .ok (.aload_n 0, 1) := by decide +kernel
theorem dX7_minutesOf_2 : decode cX7_minutesOf 2 = .ok (.getfield 49, 3) := by decide +kernel
theorem dX7_minutesOf_5 : decode cX7_minutesOf 5 = .ok (.lshl, 1) := by decide +kernel
theorem dX7_minutesOf_6 : decode cX7_minutesOf 6 = .ok (.lconst 1, 1) := by decide +kernel
theorem dX7_minutesOf_7 : decode cX7_minutesOf 7 = .ok (.lsub, 1) := by decide +kernel
theorem dX7_minutesOf_8 : decode cX7_minutesOf 8 = .ok (.aload_n 0, 1) := by decide +kernel
theorem dX7_minutesOf_9 : decode cX7_minutesOf 9 = .ok (.getfield 46, 3) := by decide +kernel
theorem dX7_minutesOf_12 : decode cX7_minutesOf 12 = .ok (.lshl, 1) := by decide +kernel
theorem dX7_minutesOf_13 : decode cX7_minutesOf 13 = .ok (.lstore_n 2, 1) := by decide +kernel
theorem dX7_minutesOf_14 : decode cX7_minutesOf 14 = .ok (.aload_n 1, 1) := by decide +kernel
theorem dX7_minutesOf_15 : decode cX7_minutesOf 15 = .ok (.getfield 76, 3) := by decide +kernel
theorem dX7_minutesOf_18 : decode cX7_minutesOf 18 = .ok (.aload_n 1, 1) := by decide +kernel
theorem dX7_minutesOf_19 : decode cX7_minutesOf 19 = .ok (.getfield 79, 3) := by decide +kernel
theorem dX7_minutesOf_22 : decode cX7_minutesOf 22 = .ok (.invokestatic 82, 3) := by decide +kernel
theorem dX7_minutesOf_25 : decode cX7_minutesOf 25 = .ok (.lload_n 2, 1) := by decide +kernel
theorem dX7_minutesOf_26 : decode cX7_minutesOf 26 = .ok (.ldc2_w 86, 3) := by decide +kernel
theorem dX7_minutesOf_29 : decode cX7_minutesOf 29 = .ok (.lxor, 1) := by decide +kernel
theorem dX7_minutesOf_30 : decode cX7_minutesOf 30 = .ok (.land, 1) := by decide +kernel
theorem dX7_minutesOf_31 : decode cX7_minutesOf 31 = .ok (.lreturn, 1) := by decide +kernel
theorem dX7_menRead_0 : decode cX7_menRead 0 = .ok (.aload_n 0, 1) := by decide +kernel
theorem dX7_menRead_1 : decode cX7_menRead 1 = .ok (.aload_n 1, 1) := by decide +kernel
theorem dX7_menRead_2 : decode cX7_menRead 2 = .ok (.invokevirtual 88, 3) := by decide +kernel
theorem dX7_menRead_5 : decode cX7_menRead 5 = .ok (.iload_n 2, 1) := by decide +kernel
theorem dX7_menRead_6 : decode cX7_menRead 6 = .ok (.iload_n 2, 1) := by decide +kernel
theorem dX7_menRead_7 : decode cX7_menRead 7 = .ok (.invokestatic 82, 3) := by decide +kernel
theorem dX7_menRead_10 : decode cX7_menRead 10 = .ok (.land, 1) := by decide +kernel
theorem dX7_menRead_11 : decode cX7_menRead 11 = .ok (.lstore 4, 2) := by decide +kernel
theorem dX7_menRead_13 : decode cX7_menRead 13 = .ok (.iconst 0, 1) := by decide +kernel
theorem dX7_menRead_14 : decode cX7_menRead 14 = .ok (.istore 6, 2) := by decide +kernel
theorem dX7_menRead_16 : decode cX7_menRead 16 = .ok (.iconst 0, 1) := by decide +kernel
theorem dX7_menRead_17 : decode cX7_menRead 17 = .ok (.istore 7, 2) := by decide +kernel
theorem dX7_menRead_19 : decode cX7_menRead 19 = .ok (.iload 7, 2) := by decide +kernel
theorem dX7_menRead_21 : decode cX7_menRead 21 = .ok (.aload_n 0, 1) := by decide +kernel
theorem dX7_menRead_22 : decode cX7_menRead 22 = .ok (.getfield 32, 3) := by decide +kernel
theorem dX7_menRead_25 : decode cX7_menRead 25 = .ok (.if_icmp .ge 41, 3) := by decide +kernel
theorem dX7_menRead_28 : decode cX7_menRead 28 = .ok (.aload_n 0, 1) := by decide +kernel
theorem dX7_menRead_29 : decode cX7_menRead 29 = .ok (.getfield 11, 3) := by decide +kernel
theorem dX7_menRead_32 : decode cX7_menRead 32 = .ok (.iload 7, 2) := by decide +kernel
theorem dX7_menRead_34 : decode cX7_menRead 34 = .ok (.aaload, 1) := by decide +kernel
theorem dX7_menRead_35 : decode cX7_menRead 35 = .ok (.aload_n 1, 1) := by decide +kernel
theorem dX7_menRead_36 : decode cX7_menRead 36 = .ok (.getfield 92, 3) := by decide +kernel
theorem dX7_menRead_39 : decode cX7_menRead 39 = .ok (.iload_n 3, 1) := by decide +kernel
theorem dX7_menRead_40 : decode cX7_menRead 40 = .ok (.invokevirtual 95, 3) := by decide +kernel
theorem dX7_menRead_43 : decode cX7_menRead 43 = .ok (.lload 4, 2) := by decide +kernel
theorem dX7_menRead_45 : decode cX7_menRead 45 = .ok (.land, 1) := by decide +kernel
theorem dX7_menRead_46 : decode cX7_menRead 46 = .ok (.lconst 0, 1) := by decide +kernel
theorem dX7_menRead_47 : decode cX7_menRead 47 = .ok (.lcmp, 1) := by decide +kernel
theorem dX7_menRead_48 : decode cX7_menRead 48 = .ok (.ifCond .eq 12, 3) := by decide +kernel
theorem dX7_menRead_51 : decode cX7_menRead 51 = .ok (.iload 6, 2) := by decide +kernel
theorem dX7_menRead_53 : decode cX7_menRead 53 = .ok (.iconst 1, 1) := by decide +kernel
theorem dX7_menRead_54 : decode cX7_menRead 54 = .ok (.iload 7, 2) := by decide +kernel
theorem dX7_menRead_56 : decode cX7_menRead 56 = .ok (.ishl, 1) := by decide +kernel
theorem dX7_menRead_57 : decode cX7_menRead 57 = .ok (.ior, 1) := by decide +kernel
theorem dX7_menRead_58 : decode cX7_menRead 58 = .ok (.istore 6, 2) := by decide +kernel
theorem dX7_menRead_60 : decode cX7_menRead 60 = .ok (.iinc 7 1, 3) := by decide +kernel
theorem dX7_menRead_63 : decode cX7_menRead 63 = .ok (.goto (-44), 3) := by decide +kernel
theorem dX7_menRead_66 : decode cX7_menRead 66 = .ok (.iload 6, 2) := by decide +kernel
theorem dX7_menRead_68 : decode cX7_menRead 68 = .ok (.ireturn, 1) := by decide +kernel
theorem dX7_newsRead_0 : decode cX7_newsRead 0 = .ok (.aload_n 0, 1) := by decide +kernel
theorem dX7_newsRead_1 : decode cX7_newsRead 1 = .ok (.aload_n 1, 1) := by decide +kernel
theorem dX7_newsRead_2 : decode cX7_newsRead 2 = .ok (.invokevirtual 88, 3) := by decide +kernel
theorem dX7_newsRead_5 : decode cX7_newsRead 5 = .ok (.lload_n 3, 1) := by decide +kernel
theorem dX7_newsRead_6 : decode cX7_newsRead 6 = .ok (.land, 1) := by decide +kernel
theorem dX7_newsRead_7 : decode cX7_newsRead 7 = .ok (.lstore 6, 2) := by decide +kernel
theorem dX7_newsRead_9 : decode cX7_newsRead 9 = .ok (.iconst 0, 1) := by decide +kernel
theorem dX7_newsRead_10 : decode cX7_newsRead 10 = .ok (.istore 8, 2) := by decide +kernel
theorem dX7_newsRead_12 : decode cX7_newsRead 12 = .ok (.iconst 0, 1) := by decide +kernel
theorem dX7_newsRead_13 : decode cX7_newsRead 13 = .ok (.istore 9, 2) := by decide +kernel
theorem dX7_newsRead_15 : decode cX7_newsRead 15 = .ok (.iload 9, 2) := by decide +kernel
theorem dX7_newsRead_17 : decode cX7_newsRead 17 = .ok (.aload_n 0, 1) := by decide +kernel
theorem dX7_newsRead_18 : decode cX7_newsRead 18 = .ok (.getfield 32, 3) := by decide +kernel
theorem dX7_newsRead_21 : decode cX7_newsRead 21 = .ok (.if_icmp .ge 72, 3) := by decide +kernel
theorem dX7_newsRead_24 : decode cX7_newsRead 24 = .ok (.iload 5, 2) := by decide +kernel
theorem dX7_newsRead_26 : decode cX7_newsRead 26 = .ok (.iload 9, 2) := by decide +kernel
theorem dX7_newsRead_28 : decode cX7_newsRead 28 = .ok (.ishr, 1) := by decide +kernel
theorem dX7_newsRead_29 : decode cX7_newsRead 29 = .ok (.iconst 1, 1) := by decide +kernel
theorem dX7_newsRead_30 : decode cX7_newsRead 30 = .ok (.iand, 1) := by decide +kernel
theorem dX7_newsRead_31 : decode cX7_newsRead 31 = .ok (.iconst 1, 1) := by decide +kernel
theorem dX7_newsRead_32 : decode cX7_newsRead 32 = .ok (.if_icmp .ne 7, 3) := by decide +kernel
theorem dX7_newsRead_35 : decode cX7_newsRead 35 = .ok (.iconst 1, 1) := by decide +kernel
theorem dX7_newsRead_36 : decode cX7_newsRead 36 = .ok (.goto 4, 3) := by decide +kernel
theorem dX7_newsRead_39 : decode cX7_newsRead 39 = .ok (.iconst 0, 1) := by decide +kernel
theorem dX7_newsRead_40 : decode cX7_newsRead 40 = .ok (.istore 10, 2) := by decide +kernel
theorem dX7_newsRead_42 : decode cX7_newsRead 42 = .ok (.iload 10, 2) := by decide +kernel
theorem dX7_newsRead_44 : decode cX7_newsRead 44 = .ok (.ifCond .eq 43, 3) := by decide +kernel
theorem dX7_newsRead_47 : decode cX7_newsRead 47 = .ok (.aload_n 0, 1) := by decide +kernel
theorem dX7_newsRead_48 : decode cX7_newsRead 48 = .ok (.getfield 11, 3) := by decide +kernel
theorem dX7_newsRead_51 : decode cX7_newsRead 51 = .ok (.iload 9, 2) := by decide +kernel
theorem dX7_newsRead_53 : decode cX7_newsRead 53 = .ok (.aaload, 1) := by decide +kernel
theorem dX7_newsRead_54 : decode cX7_newsRead 54 = .ok (.aload_n 1, 1) := by decide +kernel
theorem dX7_newsRead_55 : decode cX7_newsRead 55 = .ok (.getfield 92, 3) := by decide +kernel
theorem dX7_newsRead_58 : decode cX7_newsRead 58 = .ok (.iload_n 2, 1) := by decide +kernel
theorem dX7_newsRead_59 : decode cX7_newsRead 59 = .ok (.invokevirtual 95, 3) := by decide +kernel
theorem dX7_newsRead_62 : decode cX7_newsRead 62 = .ok (.lload 6, 2) := by decide +kernel
theorem dX7_newsRead_64 : decode cX7_newsRead 64 = .ok (.land, 1) := by decide +kernel
theorem dX7_newsRead_65 : decode cX7_newsRead 65 = .ok (.lconst 0, 1) := by decide +kernel
theorem dX7_newsRead_66 : decode cX7_newsRead 66 = .ok (.lcmp, 1) := by decide +kernel
theorem dX7_newsRead_67 : decode cX7_newsRead 67 = .ok (.ifCond .eq 20, 3) := by decide +kernel
theorem dX7_newsRead_70 : decode cX7_newsRead 70 = .ok (.iload 8, 2) := by decide +kernel
theorem dX7_newsRead_72 : decode cX7_newsRead 72 = .ok (.iconst 1, 1) := by decide +kernel
theorem dX7_newsRead_73 : decode cX7_newsRead 73 = .ok (.aload_n 0, 1) := by decide +kernel
theorem dX7_newsRead_74 : decode cX7_newsRead 74 = .ok (.getfield 11, 3) := by decide +kernel
theorem dX7_newsRead_77 : decode cX7_newsRead 77 = .ok (.iload 9, 2) := by decide +kernel
theorem dX7_newsRead_79 : decode cX7_newsRead 79 = .ok (.aaload, 1) := by decide +kernel
theorem dX7_newsRead_80 : decode cX7_newsRead 80 = .ok (.getfield 98, 3) := by decide +kernel
theorem dX7_newsRead_83 : decode cX7_newsRead 83 = .ok (.ishl, 1) := by decide +kernel
theorem dX7_newsRead_84 : decode cX7_newsRead 84 = .ok (.ior, 1) := by decide +kernel
theorem dX7_newsRead_85 : decode cX7_newsRead 85 = .ok (.istore 8, 2) := by decide +kernel
theorem dX7_newsRead_87 : decode cX7_newsRead 87 = .ok (.iinc 9 1, 3) := by decide +kernel
theorem dX7_newsRead_90 : decode cX7_newsRead 90 = .ok (.goto (-75), 3) := by decide +kernel
theorem dX7_newsRead_93 : decode cX7_newsRead 93 = .ok (.iload 8, 2) := by decide +kernel
theorem dX7_newsRead_95 : decode cX7_newsRead 95 = .ok (.ireturn, 1) := by decide +kernel
theorem dX7_wholeNews_0 : decode cX7_wholeNews 0 = .ok (.aload_n 0, 1) := by decide +kernel
theorem dX7_wholeNews_1 : decode cX7_wholeNews 1 = .ok (.aload_n 1, 1) := by decide +kernel
theorem dX7_wholeNews_2 : decode cX7_wholeNews 2 = .ok (.iconst 0, 1) := by decide +kernel
theorem dX7_wholeNews_3 : decode cX7_wholeNews 3 = .ok (.lload_n 2, 1) := by decide +kernel
theorem dX7_wholeNews_4 : decode cX7_wholeNews 4 = .ok (.iload 4, 2) := by decide +kernel
theorem dX7_wholeNews_6 : decode cX7_wholeNews 6 = .ok (.invokevirtual 101, 3) := by decide +kernel
theorem dX7_wholeNews_9 : decode cX7_wholeNews 9 = .ok (.aload_n 0, 1) := by decide +kernel
theorem dX7_wholeNews_10 : decode cX7_wholeNews 10 = .ok (.aload_n 1, 1) := by decide +kernel
theorem dX7_wholeNews_11 : decode cX7_wholeNews 11 = .ok (.iconst 1, 1) := by decide +kernel
theorem dX7_wholeNews_12 : decode cX7_wholeNews 12 = .ok (.lload_n 2, 1) := by decide +kernel
theorem dX7_wholeNews_13 : decode cX7_wholeNews 13 = .ok (.iload 4, 2) := by decide +kernel
theorem dX7_wholeNews_15 : decode cX7_wholeNews 15 = .ok (.invokevirtual 101, 3) := by decide +kernel
theorem dX7_wholeNews_18 : decode cX7_wholeNews 18 = .ok (.iand, 1) := by decide +kernel
theorem dX7_wholeNews_19 : decode cX7_wholeNews 19 = .ok (.ireturn, 1) := by decide +kernel
theorem dX7_pairs_0 : decode cX7_pairs 0 = .ok (.iconst 0, 1) := by decide +kernel
theorem dX7_pairs_1 : decode cX7_pairs 1 = .ok (.istore_n 2, 1) := by decide +kernel
theorem dX7_pairs_2 : decode cX7_pairs 2 = .ok (.iconst 0, 1) := by decide +kernel
theorem dX7_pairs_3 : decode cX7_pairs 3 = .ok (.istore_n 3, 1) := by decide +kernel
theorem dX7_pairs_4 : decode cX7_pairs 4 = .ok (.iload_n 3, 1) := by decide +kernel
theorem dX7_pairs_5 : decode cX7_pairs 5 = .ok (.aload_n 0, 1) := by decide +kernel
theorem dX7_pairs_6 : decode cX7_pairs 6 = .ok (.getfield 39, 3) := by decide +kernel
theorem dX7_pairs_9 : decode cX7_pairs 9 = .ok (.if_icmp .ge 29, 3) := by decide +kernel
theorem dX7_pairs_12 : decode cX7_pairs 12 = .ok (.iload_n 2, 1) := by decide +kernel
theorem dX7_pairs_13 : decode cX7_pairs 13 = .ok (.aload_n 0, 1) := by decide +kernel
theorem dX7_pairs_14 : decode cX7_pairs 14 = .ok (.aload_n 0, 1) := by decide +kernel
theorem dX7_pairs_15 : decode cX7_pairs 15 = .ok (.getfield 19, 3) := by decide +kernel
theorem dX7_pairs_18 : decode cX7_pairs 18 = .ok (.iload_n 3, 1) := by decide +kernel
theorem dX7_pairs_19 : decode cX7_pairs 19 = .ok (.aaload, 1) := by decide +kernel
theorem dX7_pairs_20 : decode cX7_pairs 20 = .ok (.ldc2_w 105, 3) := by decide +kernel
theorem dX7_pairs_23 : decode cX7_pairs 23 = .ok (.iload_n 1, 1) := by decide +kernel
theorem dX7_pairs_24 : decode cX7_pairs 24 = .ok (.invokevirtual 107, 3) := by decide +kernel
theorem dX7_pairs_27 : decode cX7_pairs 27 = .ok (.invokestatic 111, 3) := by decide +kernel
theorem dX7_pairs_30 : decode cX7_pairs 30 = .ok (.iadd, 1) := by decide +kernel
theorem dX7_pairs_31 : decode cX7_pairs 31 = .ok (.istore_n 2, 1) := by decide +kernel
theorem dX7_pairs_32 : decode cX7_pairs 32 = .ok (.iinc 3 1, 3) := by decide +kernel
theorem dX7_pairs_35 : decode cX7_pairs 35 = .ok (.goto (-31), 3) := by decide +kernel
theorem dX7_pairs_38 : decode cX7_pairs 38 = .ok (.iload_n 2, 1) := by decide +kernel
theorem dX7_pairs_39 : decode cX7_pairs 39 = .ok (.ireturn, 1) := by decide +kernel
theorem dX7_minutesRead_0 : decode cX7_minutesRead 0 = .ok (.lconst 0, 1) := by decide +kernel
theorem dX7_minutesRead_1 : decode cX7_minutesRead 1 = .ok (.lstore 4, 2) := by decide +kernel
theorem dX7_minutesRead_3 : decode cX7_minutesRead 3 = .ok (.iconst 0, 1) := by decide +kernel
theorem dX7_minutesRead_4 : decode cX7_minutesRead 4 = .ok (.istore 6, 2) := by decide +kernel
theorem dX7_minutesRead_6 : decode cX7_minutesRead 6 = .ok (.iload 6, 2) := by decide +kernel
theorem dX7_minutesRead_8 : decode cX7_minutesRead 8 = .ok (.aload_n 0, 1) := by decide +kernel
theorem dX7_minutesRead_9 : decode cX7_minutesRead 9 = .ok (.getfield 32, 3) := by decide +kernel
theorem dX7_minutesRead_12 : decode cX7_minutesRead 12 = .ok (.if_icmp .ge 43, 3) := by decide +kernel
theorem dX7_minutesRead_15 : decode cX7_minutesRead 15 = .ok (.aload_n 0, 1) := by decide +kernel
theorem dX7_minutesRead_16 : decode cX7_minutesRead 16 = .ok (.getfield 11, 3) := by decide +kernel
theorem dX7_minutesRead_19 : decode cX7_minutesRead 19 = .ok (.iload 6, 2) := by decide +kernel
theorem dX7_minutesRead_21 : decode cX7_minutesRead 21 = .ok (.aaload, 1) := by decide +kernel
theorem dX7_minutesRead_22 : decode cX7_minutesRead 22 = .ok (.getfield 98, 3) := by decide +kernel
theorem dX7_minutesRead_25 : decode cX7_minutesRead 25 = .ok (.iload_n 3, 1) := by decide +kernel
theorem dX7_minutesRead_26 : decode cX7_minutesRead 26 = .ok (.if_icmp .ne 23, 3) := by decide +kernel
theorem dX7_minutesRead_29 : decode cX7_minutesRead 29 = .ok (.lload 4, 2) := by decide +kernel
theorem dX7_minutesRead_31 : decode cX7_minutesRead 31 = .ok (.aload_n 0, 1) := by decide +kernel
theorem dX7_minutesRead_32 : decode cX7_minutesRead 32 = .ok (.getfield 11, 3) := by decide +kernel
theorem dX7_minutesRead_35 : decode cX7_minutesRead 35 = .ok (.iload 6, 2) := by decide +kernel
theorem dX7_minutesRead_37 : decode cX7_minutesRead 37 = .ok (.aaload, 1) := by decide +kernel
theorem dX7_minutesRead_38 : decode cX7_minutesRead 38 = .ok (.aload_n 1, 1) := by decide +kernel
theorem dX7_minutesRead_39 : decode cX7_minutesRead 39 = .ok (.getfield 92, 3) := by decide +kernel
theorem dX7_minutesRead_42 : decode cX7_minutesRead 42 = .ok (.iload_n 2, 1) := by decide +kernel
theorem dX7_minutesRead_43 : decode cX7_minutesRead 43 = .ok (.invokevirtual 95, 3) := by decide +kernel
theorem dX7_minutesRead_46 : decode cX7_minutesRead 46 = .ok (.lor, 1) := by decide +kernel
theorem dX7_minutesRead_47 : decode cX7_minutesRead 47 = .ok (.lstore 4, 2) := by decide +kernel
theorem dX7_minutesRead_49 : decode cX7_minutesRead 49 = .ok (.iinc 6 1, 3) := by decide +kernel
theorem dX7_minutesRead_52 : decode cX7_minutesRead 52 = .ok (.goto (-46), 3) := by decide +kernel
theorem dX7_minutesRead_55 : decode cX7_minutesRead 55 = .ok (.lload 4, 2) := by decide +kernel
theorem dX7_minutesRead_57 : decode cX7_minutesRead 57 = .ok (.aload_n 0, 1) := by decide +kernel
theorem dX7_minutesRead_58 : decode cX7_minutesRead 58 = .ok (.aload_n 1, 1) := by decide +kernel
theorem dX7_minutesRead_59 : decode cX7_minutesRead 59 = .ok (.invokevirtual 88, 3) := by decide +kernel
theorem dX7_minutesRead_62 : decode cX7_minutesRead 62 = .ok (.land, 1) := by decide +kernel
theorem dX7_minutesRead_63 : decode cX7_minutesRead 63 = .ok (.lreturn, 1) := by decide +kernel
theorem dX7_firstWhole_0 : decode cX7_firstWhole 0 = .ok (.aload_n 0, 1) := by decide +kernel
theorem dX7_firstWhole_1 : decode cX7_firstWhole 1 = .ok (.aload_n 1, 1) := by decide +kernel
theorem dX7_firstWhole_2 : decode cX7_firstWhole 2 = .ok (.iconst 0, 1) := by decide +kernel
theorem dX7_firstWhole_3 : decode cX7_firstWhole 3 = .ok (.iload_n 2, 1) := by decide +kernel
theorem dX7_firstWhole_4 : decode cX7_firstWhole 4 = .ok (.invokevirtual 117, 3) := by decide +kernel
theorem dX7_firstWhole_7 : decode cX7_firstWhole 7 = .ok (.invokestatic 121, 3) := by decide +kernel
theorem dX7_firstWhole_10 : decode cX7_firstWhole 10 = .ok (.istore_n 3, 1) := by decide +kernel
theorem dX7_firstWhole_11 : decode cX7_firstWhole 11 = .ok (.aload_n 0, 1) := by decide +kernel
theorem dX7_firstWhole_12 : decode cX7_firstWhole 12 = .ok (.aload_n 1, 1) := by decide +kernel
theorem dX7_firstWhole_13 : decode cX7_firstWhole 13 = .ok (.iconst 1, 1) := by decide +kernel
theorem dX7_firstWhole_14 : decode cX7_firstWhole 14 = .ok (.iload_n 2, 1) := by decide +kernel
theorem dX7_firstWhole_15 : decode cX7_firstWhole 15 = .ok (.invokevirtual 117, 3) := by decide +kernel
theorem dX7_firstWhole_18 : decode cX7_firstWhole 18 = .ok (.invokestatic 121, 3) := by decide +kernel
theorem dX7_firstWhole_21 : decode cX7_firstWhole 21 = .ok (.istore 4, 2) := by decide +kernel
theorem dX7_firstWhole_23 : decode cX7_firstWhole 23 = .ok (.iload_n 3, 1) := by decide +kernel
theorem dX7_firstWhole_24 : decode cX7_firstWhole 24 = .ok (.bipush (-4), 2) := by decide +kernel
theorem dX7_firstWhole_26 : decode cX7_firstWhole 26 = .ok (.if_icmp .eq 10, 3) := by decide +kernel
theorem dX7_firstWhole_29 : decode cX7_firstWhole 29 = .ok (.iload 4, 2) := by decide +kernel
theorem dX7_firstWhole_31 : decode cX7_firstWhole 31 = .ok (.bipush (-4), 2) := by decide +kernel
theorem dX7_firstWhole_33 : decode cX7_firstWhole 33 = .ok (.if_icmp .ne 8, 3) := by decide +kernel
theorem dX7_firstWhole_36 : decode cX7_firstWhole 36 = .ok (.bipush (-4), 2) := by decide +kernel
theorem dX7_firstWhole_38 : decode cX7_firstWhole 38 = .ok (.goto 9, 3) := by decide +kernel
theorem dX7_firstWhole_41 : decode cX7_firstWhole 41 = .ok (.iload_n 3, 1) := by decide +kernel
theorem dX7_firstWhole_42 : decode cX7_firstWhole 42 = .ok (.iload 4, 2) := by decide +kernel
theorem dX7_firstWhole_44 : decode cX7_firstWhole 44 = .ok (.invokestatic 125, 3) := by decide +kernel
theorem dX7_firstWhole_47 : decode cX7_firstWhole 47 = .ok (.ireturn, 1) := by decide +kernel
theorem dX7_changePlanks_0 : decode cX7_changePlanks 0 = .ok (.aload_n 0, 1) := by decide +kernel
theorem dX7_changePlanks_1 : decode cX7_changePlanks 1 = .ok (.iload_n 1, 1) := by decide +kernel
theorem dX7_changePlanks_2 : decode cX7_changePlanks 2 = .ok (.invokevirtual 131, 3) := by decide +kernel
theorem dX7_changePlanks_5 : decode cX7_changePlanks 5 = .ok (.astore_n 3, 1) := by decide +kernel
theorem dX7_changePlanks_6 : decode cX7_changePlanks 6 = .ok (.aload_n 0, 1) := by decide +kernel
theorem dX7_changePlanks_7 : decode cX7_changePlanks 7 = .ok (.iload_n 2, 1) := by decide +kernel
theorem dX7_changePlanks_8 : decode cX7_changePlanks 8 = .ok (.invokevirtual 131, 3) := by decide +kernel
theorem dX7_changePlanks_11 : decode cX7_changePlanks 11 = .ok (.astore 4, 2) := by decide +kernel
theorem dX7_changePlanks_13 : decode cX7_changePlanks 13 = .ok (.aload_n 3, 1) := by decide +kernel
theorem dX7_changePlanks_14 : decode cX7_changePlanks 14 = .ok (.ifnull 30, 3) := by decide +kernel
theorem dX7_changePlanks_17 : decode cX7_changePlanks 17 = .ok (.aload 4, 2) := by decide +kernel
theorem dX7_changePlanks_19 : decode cX7_changePlanks 19 = .ok (.ifnull 25, 3) := by decide +kernel
theorem dX7_changePlanks_22 : decode cX7_changePlanks 22 = .ok (.aload_n 3, 1) := by decide +kernel
theorem dX7_changePlanks_23 : decode cX7_changePlanks 23 = .ok (.getfield 98, 3) := by decide +kernel
theorem dX7_changePlanks_26 : decode cX7_changePlanks 26 = .ok (.istore 5, 2) := by decide +kernel
theorem dX7_changePlanks_28 : decode cX7_changePlanks 28 = .ok (.aload_n 3, 1) := by decide +kernel
theorem dX7_changePlanks_29 : decode cX7_changePlanks 29 = .ok (.aload 4, 2) := by decide +kernel
theorem dX7_changePlanks_31 : decode cX7_changePlanks 31 = .ok (.getfield 98, 3) := by decide +kernel
theorem dX7_changePlanks_34 : decode cX7_changePlanks 34 = .ok (.putfield 98, 3) := by decide +kernel
theorem dX7_changePlanks_37 : decode cX7_changePlanks 37 = .ok (.aload 4, 2) := by decide +kernel
theorem dX7_changePlanks_39 : decode cX7_changePlanks 39 = .ok (.iload 5, 2) := by decide +kernel
theorem dX7_changePlanks_41 : decode cX7_changePlanks 41 = .ok (.putfield 98, 3) := by decide +kernel
theorem dX7_changePlanks_44 : decode cX7_changePlanks 44 = .ok (.return_, 1) := by decide +kernel
theorem dX7_weight_0 : decode cX7_weight 0 = .ok (.lconst 1, 1) := by decide +kernel
theorem dX7_weight_1 : decode cX7_weight 1 = .ok (.lstore_n 3, 1) := by decide +kernel
theorem dX7_weight_2 : decode cX7_weight 2 = .ok (.iconst 0, 1) := by decide +kernel
theorem dX7_weight_3 : decode cX7_weight 3 = .ok (.istore 5, 2) := by decide +kernel
theorem dX7_weight_5 : decode cX7_weight 5 = .ok (.iload 5, 2) := by decide +kernel
theorem dX7_weight_7 : decode cX7_weight 7 = .ok (.aload_n 0, 1) := by decide +kernel
theorem dX7_weight_8 : decode cX7_weight 8 = .ok (.getfield 32, 3) := by decide +kernel
theorem dX7_weight_11 : decode cX7_weight 11 = .ok (.if_icmp .ge 32, 3) := by decide +kernel
theorem dX7_weight_14 : decode cX7_weight 14 = .ok (.lload_n 3, 1) := by decide +kernel
theorem dX7_weight_15 : decode cX7_weight 15 = .ok (.iload_n 2, 1) := by decide +kernel
theorem dX7_weight_16 : decode cX7_weight 16 = .ok (.iload 5, 2) := by decide +kernel
theorem dX7_weight_18 : decode cX7_weight 18 = .ok (.ishr, 1) := by decide +kernel
theorem dX7_weight_19 : decode cX7_weight 19 = .ok (.iconst 1, 1) := by decide +kernel
theorem dX7_weight_20 : decode cX7_weight 20 = .ok (.iand, 1) := by decide +kernel
theorem dX7_weight_21 : decode cX7_weight 21 = .ok (.iconst 1, 1) := by decide +kernel
theorem dX7_weight_22 : decode cX7_weight 22 = .ok (.if_icmp .ne 11, 3) := by decide +kernel
theorem dX7_weight_25 : decode cX7_weight 25 = .ok (.bipush 10, 2) := by decide +kernel
theorem dX7_weight_27 : decode cX7_weight 27 = .ok (.iload_n 1, 1) := by decide +kernel
theorem dX7_weight_28 : decode cX7_weight 28 = .ok (.isub, 1) := by decide +kernel
theorem dX7_weight_29 : decode cX7_weight 29 = .ok (.i2l, 1) := by decide +kernel
theorem dX7_weight_30 : decode cX7_weight 30 = .ok (.goto 5, 3) := by decide +kernel
theorem dX7_weight_33 : decode cX7_weight 33 = .ok (.iload_n 1, 1) := by decide +kernel
theorem dX7_weight_34 : decode cX7_weight 34 = .ok (.i2l, 1) := by decide +kernel
theorem dX7_weight_35 : decode cX7_weight 35 = .ok (.lmul, 1) := by decide +kernel
theorem dX7_weight_36 : decode cX7_weight 36 = .ok (.lstore_n 3, 1) := by decide +kernel
theorem dX7_weight_37 : decode cX7_weight 37 = .ok (.iinc 5 1, 3) := by decide +kernel
theorem dX7_weight_40 : decode cX7_weight 40 = .ok (.goto (-35), 3) := by decide +kernel
theorem dX7_weight_43 : decode cX7_weight 43 = .ok (.lload_n 3, 1) := by decide +kernel
theorem dX7_weight_44 : decode cX7_weight 44 = .ok (.lreturn, 1) := by decide +kernel
theorem dX7_weightOfAll_0 : decode cX7_weightOfAll 0 = .ok (.lconst 1, 1) := by decide +kernel
theorem dX7_weightOfAll_1 : decode cX7_weightOfAll 1 = .ok (.lstore_n 1, 1) := by decide +kernel
theorem dX7_weightOfAll_2 : decode cX7_weightOfAll 2 = .ok (.iconst 0, 1) := by decide +kernel
theorem dX7_weightOfAll_3 : decode cX7_weightOfAll 3 = .ok (.istore_n 3, 1) := by decide +kernel
theorem dX7_weightOfAll_4 : decode cX7_weightOfAll 4 = .ok (.iload_n 3, 1) := by decide +kernel
theorem dX7_weightOfAll_5 : decode cX7_weightOfAll 5 = .ok (.aload_n 0, 1) := by decide +kernel
theorem dX7_weightOfAll_6 : decode cX7_weightOfAll 6 = .ok (.getfield 32, 3) := by decide +kernel
theorem dX7_weightOfAll_9 : decode cX7_weightOfAll 9 = .ok (.if_icmp .ge 15, 3) := by decide +kernel
theorem dX7_weightOfAll_12 : decode cX7_weightOfAll 12 = .ok (.lload_n 1, 1) := by decide +kernel
theorem dX7_weightOfAll_13 : decode cX7_weightOfAll 13 = .ok (.ldc2_w 135, 3) := by decide +kernel
theorem dX7_weightOfAll_16 : decode cX7_weightOfAll 16 = .ok (.lmul, 1) := by decide +kernel
theorem dX7_weightOfAll_17 : decode cX7_weightOfAll 17 = .ok (.lstore_n 1, 1) := by decide +kernel
theorem dX7_weightOfAll_18 : decode cX7_weightOfAll 18 = .ok (.iinc 3 1, 3) := by decide +kernel
theorem dX7_weightOfAll_21 : decode cX7_weightOfAll 21 = .ok (.goto (-17), 3) := by decide +kernel
theorem dX7_weightOfAll_24 : decode cX7_weightOfAll 24 = .ok (.lload_n 1, 1) := by decide +kernel
theorem dX7_weightOfAll_25 : decode cX7_weightOfAll 25 = .ok (.lreturn, 1) := by decide +kernel
theorem dX7_driftBy_0 : decode cX7_driftBy 0 = .ok (.aload_n 0, 1) := by decide +kernel
theorem dX7_driftBy_1 : decode cX7_driftBy 1 = .ok (.getfield 32, 3) := by decide +kernel
theorem dX7_driftBy_4 : decode cX7_driftBy 4 = .ok (.iconst 1, 1) := by decide +kernel
theorem dX7_driftBy_5 : decode cX7_driftBy 5 = .ok (.if_icmp .ge 7, 3) := by decide +kernel
theorem dX7_driftBy_8 : decode cX7_driftBy 8 = .ok (.aconst_null, 1) := by decide +kernel
theorem dX7_driftBy_9 : decode cX7_driftBy 9 = .ok (.goto 13, 3) := by decide +kernel
theorem dX7_driftBy_12 : decode cX7_driftBy 12 = .ok (.aload_n 0, 1) := by decide +kernel
theorem dX7_driftBy_13 : decode cX7_driftBy 13 = .ok (.iload_n 1, 1) := by decide +kernel
theorem dX7_driftBy_14 : decode cX7_driftBy 14 = .ok (.aload_n 0, 1) := by decide +kernel
theorem dX7_driftBy_15 : decode cX7_driftBy 15 = .ok (.getfield 32, 3) := by decide +kernel
theorem dX7_driftBy_18 : decode cX7_driftBy 18 = .ok (.irem, 1) := by decide +kernel
theorem dX7_driftBy_19 : decode cX7_driftBy 19 = .ok (.invokevirtual 131, 3) := by decide +kernel
theorem dX7_driftBy_22 : decode cX7_driftBy 22 = .ok (.astore_n 2, 1) := by decide +kernel
theorem dX7_driftBy_23 : decode cX7_driftBy 23 = .ok (.aload_n 2, 1) := by decide +kernel
theorem dX7_driftBy_24 : decode cX7_driftBy 24 = .ok (.ifnull 22, 3) := by decide +kernel
theorem dX7_driftBy_27 : decode cX7_driftBy 27 = .ok (.aload_n 2, 1) := by decide +kernel
theorem dX7_driftBy_28 : decode cX7_driftBy 28 = .ok (.getfield 62, 3) := by decide +kernel
theorem dX7_driftBy_31 : decode cX7_driftBy 31 = .ok (.ifCond .le 15, 3) := by decide +kernel
theorem dX7_driftBy_34 : decode cX7_driftBy 34 = .ok (.aload_n 2, 1) := by decide +kernel
theorem dX7_driftBy_35 : decode cX7_driftBy 35 = .ok (.iload_n 1, 1) := by decide +kernel
theorem dX7_driftBy_36 : decode cX7_driftBy 36 = .ok (.iconst 4, 1) := by decide +kernel
theorem dX7_driftBy_37 : decode cX7_driftBy 37 = .ok (.idiv, 1) := by decide +kernel
theorem dX7_driftBy_38 : decode cX7_driftBy 38 = .ok (.aload_n 2, 1) := by decide +kernel
theorem dX7_driftBy_39 : decode cX7_driftBy 39 = .ok (.getfield 62, 3) := by decide +kernel
theorem dX7_driftBy_42 : decode cX7_driftBy 42 = .ok (.irem, 1) := by decide +kernel
theorem dX7_driftBy_43 : decode cX7_driftBy 43 = .ok (.invokevirtual 137, 3) := by decide +kernel
theorem dX7_driftBy_46 : decode cX7_driftBy 46 = .ok (.aload_n 0, 1) := by decide +kernel
theorem dX7_driftBy_47 : decode cX7_driftBy 47 = .ok (.iload_n 1, 1) := by decide +kernel
theorem dX7_driftBy_48 : decode cX7_driftBy 48 = .ok (.bipush 16, 2) := by decide +kernel
theorem dX7_driftBy_50 : decode cX7_driftBy 50 = .ok (.idiv, 1) := by decide +kernel
theorem dX7_driftBy_51 : decode cX7_driftBy 51 = .ok (.bipush 60, 2) := by decide +kernel
theorem dX7_driftBy_53 : decode cX7_driftBy 53 = .ok (.irem, 1) := by decide +kernel
theorem dX7_driftBy_54 : decode cX7_driftBy 54 = .ok (.bipush 10, 2) := by decide +kernel
theorem dX7_driftBy_56 : decode cX7_driftBy 56 = .ok (.invokevirtual 42, 3) := by decide +kernel
theorem dX7_driftBy_59 : decode cX7_driftBy 59 = .ok (.return_, 1) := by decide +kernel
theorem dX7_cornersOfAllWalks_0 : decode cX7_cornersOfAllWalks 0 = .ok (.iconst 0, 1) := by decide +kernel
theorem dX7_cornersOfAllWalks_1 : decode cX7_cornersOfAllWalks 1 = .ok (.istore_n 1, 1) := by decide +kernel
theorem dX7_cornersOfAllWalks_2 : decode cX7_cornersOfAllWalks 2 = .ok (.iconst 0, 1) := by decide +kernel
theorem dX7_cornersOfAllWalks_3 : decode cX7_cornersOfAllWalks 3 = .ok (.istore_n 2, 1) := by decide +kernel
theorem dX7_cornersOfAllWalks_4 : decode cX7_cornersOfAllWalks 4 = .ok (.iload_n 2, 1) := by decide +kernel
theorem dX7_cornersOfAllWalks_5 : decode cX7_cornersOfAllWalks 5 = .ok (.aload_n 0, 1) := by decide +kernel
theorem dX7_cornersOfAllWalks_6 : decode cX7_cornersOfAllWalks 6 = .ok (.getfield 32, 3) := by decide +kernel
theorem dX7_cornersOfAllWalks_9 : decode cX7_cornersOfAllWalks 9 = .ok (.if_icmp .ge 21, 3) := by decide +kernel
theorem dX7_cornersOfAllWalks_12 : decode cX7_cornersOfAllWalks 12 = .ok (.iload_n 1, 1) := by decide +kernel
theorem dX7_cornersOfAllWalks_13 : decode cX7_cornersOfAllWalks 13 = .ok (.aload_n 0, 1) := by decide +kernel
theorem dX7_cornersOfAllWalks_14 : decode cX7_cornersOfAllWalks 14 = .ok (.getfield 11, 3) := by decide +kernel
theorem dX7_cornersOfAllWalks_17 : decode cX7_cornersOfAllWalks 17 = .ok (.iload_n 2, 1) := by decide +kernel
theorem dX7_cornersOfAllWalks_18 : decode cX7_cornersOfAllWalks 18 = .ok (.aaload, 1) := by decide +kernel
theorem dX7_cornersOfAllWalks_19 : decode cX7_cornersOfAllWalks 19 = .ok (.getfield 62, 3) := by decide +kernel
theorem dX7_cornersOfAllWalks_22 : decode cX7_cornersOfAllWalks 22 = .ok (.iadd, 1) := by decide +kernel
theorem dX7_cornersOfAllWalks_23 : decode cX7_cornersOfAllWalks 23 = .ok (.istore_n 1, 1) := by decide +kernel
theorem dX7_cornersOfAllWalks_24 : decode cX7_cornersOfAllWalks 24 = .ok (.iinc 2 1, 3) := by decide +kernel
theorem dX7_cornersOfAllWalks_27 : decode cX7_cornersOfAllWalks 27 = .ok (.goto (-23), 3) := by decide +kernel
theorem dX7_cornersOfAllWalks_30 : decode cX7_cornersOfAllWalks 30 = .ok (.iload_n 1, 1) := by decide +kernel
theorem dX7_cornersOfAllWalks_31 : decode cX7_cornersOfAllWalks 31 = .ok (.ireturn, 1) := by decide +kernel
theorem dX7_minutesOfAllReaders_0 : decode cX7_minutesOfAllReaders 0 = .ok (.iconst 0, 1) := by decide +kernel
theorem dX7_minutesOfAllReaders_1 : decode cX7_minutesOfAllReaders 1 = .ok (.istore_n 1, 1) := by decide +kernel
theorem dX7_minutesOfAllReaders_2 : decode cX7_minutesOfAllReaders 2 = .ok (.iconst 0, 1) := by decide +kernel
theorem dX7_minutesOfAllReaders_3 : decode cX7_minutesOfAllReaders 3 = .ok (.istore_n 2, 1) := by decide +kernel
theorem dX7_minutesOfAllReaders_4 : decode cX7_minutesOfAllReaders 4 = .ok (.iload_n 2, 1) := by decide +kernel
theorem dX7_minutesOfAllReaders_5 : decode cX7_minutesOfAllReaders 5 = .ok (.aload_n 0, 1) := by decide +kernel
theorem dX7_minutesOfAllReaders_6 : decode cX7_minutesOfAllReaders 6 = .ok (.getfield 39, 3) := by decide +kernel
theorem dX7_minutesOfAllReaders_9 : decode cX7_minutesOfAllReaders 9 = .ok (.if_icmp .ge 33, 3) := by decide +kernel
theorem dX7_minutesOfAllReaders_12 : decode cX7_minutesOfAllReaders 12 = .ok (.iload_n 1, 1) := by decide +kernel
theorem dX7_minutesOfAllReaders_13 : decode cX7_minutesOfAllReaders 13 = .ok (.aload_n 0, 1) := by decide +kernel
theorem dX7_minutesOfAllReaders_14 : decode cX7_minutesOfAllReaders 14 = .ok (.getfield 19, 3) := by decide +kernel
theorem dX7_minutesOfAllReaders_17 : decode cX7_minutesOfAllReaders 17 = .ok (.iload_n 2, 1) := by decide +kernel
theorem dX7_minutesOfAllReaders_18 : decode cX7_minutesOfAllReaders 18 = .ok (.aaload, 1) := by decide +kernel
theorem dX7_minutesOfAllReaders_19 : decode cX7_minutesOfAllReaders 19 = .ok (.getfield 79, 3) := by decide +kernel
theorem dX7_minutesOfAllReaders_22 : decode cX7_minutesOfAllReaders 22 = .ok (.aload_n 0, 1) := by decide +kernel
theorem dX7_minutesOfAllReaders_23 : decode cX7_minutesOfAllReaders 23 = .ok (.getfield 19, 3) := by decide +kernel
theorem dX7_minutesOfAllReaders_26 : decode cX7_minutesOfAllReaders 26 = .ok (.iload_n 2, 1) := by decide +kernel
theorem dX7_minutesOfAllReaders_27 : decode cX7_minutesOfAllReaders 27 = .ok (.aaload, 1) := by decide +kernel
theorem dX7_minutesOfAllReaders_28 : decode cX7_minutesOfAllReaders 28 = .ok (.getfield 76, 3) := by decide +kernel
theorem dX7_minutesOfAllReaders_31 : decode cX7_minutesOfAllReaders 31 = .ok (.isub, 1) := by decide +kernel
theorem dX7_minutesOfAllReaders_32 : decode cX7_minutesOfAllReaders 32 = .ok (.iconst 1, 1) := by decide +kernel
theorem dX7_minutesOfAllReaders_33 : decode cX7_minutesOfAllReaders 33 = .ok (.iadd, 1) := by decide +kernel
theorem dX7_minutesOfAllReaders_34 : decode cX7_minutesOfAllReaders 34 = .ok (.iadd, 1) := by decide +kernel
theorem dX7_minutesOfAllReaders_35 : decode cX7_minutesOfAllReaders 35 = .ok (.istore_n 1, 1) := by decide +kernel
theorem dX7_minutesOfAllReaders_36 : decode cX7_minutesOfAllReaders 36 = .ok (.iinc 2 1, 3) := by decide +kernel
theorem dX7_minutesOfAllReaders_39 : decode cX7_minutesOfAllReaders 39 = .ok (.goto (-35), 3) := by decide +kernel
theorem dX7_minutesOfAllReaders_42 : decode cX7_minutesOfAllReaders 42 = .ok (.iload_n 1, 1) := by decide +kernel
theorem dX7_minutesOfAllReaders_43 : decode cX7_minutesOfAllReaders 43 = .ok (.ireturn, 1) := by decide +kernel
theorem dX8_init_0 : decode cX8_init 0 = .ok (.aload_n 0, 1) := by decide +kernel
theorem dX8_init_1 : decode cX8_init 1 = .ok (.invokespecial 3, 3) := by decide +kernel
theorem dX8_init_4 : decode cX8_init 4 = .ok (.aload_n 0, 1) := by decide +kernel
theorem dX8_init_5 : decode cX8_init 5 = .ok (.new 9, 3) := by decide +kernel
theorem dX8_init_8 : decode cX8_init 8 = .ok (.dup, 1) := by decide +kernel
theorem dX8_init_9 : decode cX8_init 9 = .ok (.invokespecial 11, 3) := by decide +kernel
theorem dX8_init_12 : decode cX8_init 12 = .ok (.putfield 12, 3) := by decide +kernel
theorem dX8_init_15 : decode cX8_init 15 = .ok (.aload_n 0, 1) := by decide +kernel
theorem dX8_init_16 : decode cX8_init 16 = .ok (.new 16, 3) := by decide +kernel
theorem dX8_init_19 : decode cX8_init 19 = .ok (.dup, 1) := by decide +kernel
theorem dX8_init_20 : decode cX8_init 20 = .ok (.invokespecial 18, 3) := by decide +kernel
theorem dX8_init_23 : decode cX8_init 23 = .ok (.putfield 19, 3) := by decide +kernel
theorem dX8_init_26 : decode cX8_init 26 = .ok (.aload_n 0, 1) := by decide +kernel
theorem dX8_init_27 : decode cX8_init 27 = .ok (.new 16, 3) := by decide +kernel
theorem dX8_init_30 : decode cX8_init 30 = .ok (.dup, 1) := by decide +kernel
theorem dX8_init_31 : decode cX8_init 31 = .ok (.invokespecial 18, 3) := by decide +kernel
theorem dX8_init_34 : decode cX8_init 34 = .ok (.putfield 23, 3) := by decide +kernel
theorem dX8_init_37 : decode cX8_init 37 = .ok (.aload_n 0, 1) := by decide +kernel
theorem dX8_init_38 : decode cX8_init 38 = .ok (.iconst 2, 1) := by decide +kernel
theorem dX8_init_39 : decode cX8_init 39 = .ok (.anewarray 16, 3) := by decide +kernel
theorem dX8_init_42 : decode cX8_init 42 = .ok (.putfield 26, 3) := by decide +kernel
theorem dX8_init_45 : decode cX8_init 45 = .ok (.aload_n 0, 1) := by decide +kernel
theorem dX8_init_46 : decode cX8_init 46 = .ok (.iconst 2, 1) := by decide +kernel
theorem dX8_init_47 : decode cX8_init 47 = .ok (.newarray .boolean, 2) := by decide +kernel
theorem dX8_init_49 : decode cX8_init 49 = .ok (.putfield 30, 3) := by decide +kernel
theorem dX8_init_52 : decode cX8_init 52 = .ok (.aload_n 0, 1) := by decide +kernel
theorem dX8_init_53 : decode cX8_init 53 = .ok (.new 34, 3) := by decide +kernel
theorem dX8_init_56 : decode cX8_init 56 = .ok (.dup, 1) := by decide +kernel
theorem dX8_init_57 : decode cX8_init 57 = .ok (.invokespecial 36, 3) := by decide +kernel
theorem dX8_init_60 : decode cX8_init 60 = .ok (.putfield 37, 3) := by decide +kernel
theorem dX8_init_63 : decode cX8_init 63 = .ok (.aload_n 0, 1) := by decide +kernel
theorem dX8_init_64 : decode cX8_init 64 = .ok (.iconst 4, 1) := by decide +kernel
theorem dX8_init_65 : decode cX8_init 65 = .ok (.anewarray 41, 3) := by decide +kernel
theorem dX8_init_68 : decode cX8_init 68 = .ok (.putfield 43, 3) := by decide +kernel
theorem dX8_init_71 : decode cX8_init 71 = .ok (.aload_n 0, 1) := by decide +kernel
theorem dX8_init_72 : decode cX8_init 72 = .ok (.new 47, 3) := by decide +kernel
theorem dX8_init_75 : decode cX8_init 75 = .ok (.dup, 1) := by decide +kernel
theorem dX8_init_76 : decode cX8_init 76 = .ok (.invokespecial 49, 3) := by decide +kernel
theorem dX8_init_79 : decode cX8_init 79 = .ok (.putfield 50, 3) := by decide +kernel
theorem dX8_init_82 : decode cX8_init 82 = .ok (.aload_n 0, 1) := by decide +kernel
theorem dX8_init_83 : decode cX8_init 83 = .ok (.new 54, 3) := by decide +kernel
theorem dX8_init_86 : decode cX8_init 86 = .ok (.dup, 1) := by decide +kernel
theorem dX8_init_87 : decode cX8_init 87 = .ok (.invokespecial 56, 3) := by decide +kernel
theorem dX8_init_90 : decode cX8_init 90 = .ok (.putfield 57, 3) := by decide +kernel
theorem dX8_init_93 : decode cX8_init 93 = .ok (.aload_n 0, 1) := by decide +kernel
theorem dX8_init_94 : decode cX8_init 94 = .ok (.iconst 4, 1) := by decide +kernel
theorem dX8_init_95 : decode cX8_init 95 = .ok (.newarray .int, 2) := by decide +kernel
theorem dX8_init_97 : decode cX8_init 97 = .ok (.putfield 61, 3) := by decide +kernel
theorem dX8_init_100 : decode cX8_init 100 = .ok (.aload_n 0, 1) := by decide +kernel
theorem dX8_init_101 : decode cX8_init 101 = .ok (.iconst 0, 1) := by decide +kernel
theorem dX8_init_102 : decode cX8_init 102 = .ok (.putfield 65, 3) := by decide +kernel
theorem dX8_init_105 : decode cX8_init 105 = .ok (.iconst 0, 1) := by decide +kernel
theorem dX8_init_106 : decode cX8_init 106 = .ok (.istore_n 1, 1) := by decide +kernel
theorem dX8_init_107 : decode cX8_init 107 = .ok (.iload_n 1, 1) := by decide +kernel
theorem dX8_init_108 : decode cX8_init 108 = .ok (.iconst 2, 1) := by decide +kernel
theorem dX8_init_109 : decode cX8_init 109 = .ok (.if_icmp .ge 22, 3) := by decide +kernel
theorem dX8_init_112 : decode cX8_init 112 = .ok (.aload_n 0, 1) := by decide +kernel
theorem dX8_init_113 : decode cX8_init 113 = .ok (.getfield 26, 3) := by decide +kernel
theorem dX8_init_116 : decode cX8_init 116 = .ok (.iload_n 1, 1) := by decide +kernel
theorem dX8_init_117 : decode cX8_init 117 = .ok (.new 16, 3) := by decide +kernel
theorem dX8_init_120 : decode cX8_init 120 = .ok (.dup, 1) := by decide +kernel
theorem dX8_init_121 : decode cX8_init 121 = .ok (.invokespecial 18, 3) := by decide +kernel
theorem dX8_init_124 : decode cX8_init 124 = .ok (.aastore, 1) := by decide +kernel
theorem dX8_init_125 : decode cX8_init 125 = .ok (.iinc 1 1, 3) := by decide +kernel
theorem dX8_init_128 : decode cX8_init 128 = .ok (.goto (-21), 3) := by decide +kernel
theorem dX8_init_131 : decode cX8_init 131 = .ok (.iconst 0, 1) := by decide +kernel
theorem dX8_init_132 : decode cX8_init 132 = .ok (.istore_n 1, 1) := by decide +kernel
theorem dX8_init_133 : decode cX8_init 133 = .ok (.iload_n 1, 1) := by decide +kernel
theorem dX8_init_134 : decode cX8_init 134 = .ok (.iconst 4, 1) := by decide +kernel
theorem dX8_init_135 : decode cX8_init 135 = .ok (.if_icmp .ge 22, 3) := by decide +kernel
theorem dX8_init_138 : decode cX8_init 138 = .ok (.aload_n 0, 1) := by decide +kernel
theorem dX8_init_139 : decode cX8_init 139 = .ok (.getfield 43, 3) := by decide +kernel
theorem dX8_init_142 : decode cX8_init 142 = .ok (.iload_n 1, 1) := by decide +kernel
theorem dX8_init_143 : decode cX8_init 143 = .ok (.new 41, 3) := by decide +kernel
theorem dX8_init_146 : decode cX8_init 146 = .ok (.dup, 1) := by decide +kernel
theorem dX8_init_147 : decode cX8_init 147 = .ok (.invokespecial 69, 3) := by decide +kernel
theorem dX8_init_150 : decode cX8_init 150 = .ok (.aastore, 1) := by decide +kernel
theorem dX8_init_151 : decode cX8_init 151 = .ok (.iinc 1 1, 3) := by decide +kernel
theorem dX8_init_154 : decode cX8_init 154 = .ok (.goto (-21), 3) := by decide +kernel
theorem dX8_init_157 : decode cX8_init 157 = .ok (.return_, 1) := by decide +kernel
theorem dX8_feed_0 : decode cX8_feed 0 = .ok (.iload_n 1, 1) := by decide +kernel
theorem dX8_feed_1 : decode cX8_feed 1 = .ok (.iconst 0, 1) := by decide +kernel
theorem dX8_feed_2 : decode cX8_feed 2 = .ok (.bipush 127, 2) := by decide +kernel
theorem dX8_feed_4 : decode cX8_feed 4 = .ok (.invokestatic 70, 3) := by decide +kernel
theorem dX8_feed_7 : decode cX8_feed 7 = .ok (.ifCond .ne 5, 3) := by decide +kernel
theorem dX8_feed_10 : decode cX8_feed 10 = .ok (.iconst (-1), 1) := by decide +kernel
theorem dX8_feed_11 : decode cX8_feed 11 = .ok (.ireturn, 1) := by decide +kernel
theorem dX8_feed_12 : decode cX8_feed 12 = .ok (.aload_n 0, 1) := by decide +kernel
theorem dX8_feed_13 : decode cX8_feed 13 = .ok (.getfield 12, 3) := by decide +kernel
theorem dX8_feed_16 : decode cX8_feed 16 = .ok (.getfield 74, 3) := by decide +kernel
theorem dX8_feed_19 : decode cX8_feed 19 = .ok (.iload_n 1, 1) := by decide +kernel
theorem dX8_feed_20 : decode cX8_feed 20 = .ok (.invokevirtual 78, 3) := by decide +kernel
theorem dX8_feed_23 : decode cX8_feed 23 = .ok (.ifCond .eq 16, 3) := by decide +kernel
theorem dX8_feed_26 : decode cX8_feed 26 = .ok (.aload_n 0, 1) := by decide +kernel
theorem dX8_feed_27 : decode cX8_feed 27 = .ok (.getfield 12, 3) := by decide +kernel
theorem dX8_feed_30 : decode cX8_feed 30 = .ok (.getfield 74, 3) := by decide +kernel
theorem dX8_feed_33 : decode cX8_feed 33 = .ok (.getfield 84, 3) := by decide +kernel
theorem dX8_feed_36 : decode cX8_feed 36 = .ok (.goto 5, 3) := by decide +kernel
theorem dX8_feed_39 : decode cX8_feed 39 = .ok (.bipush (-3), 2) := by decide +kernel
theorem dX8_feed_41 : decode cX8_feed 41 = .ok (.ireturn, 1) := by decide +kernel
theorem dX8_end_0 : decode cX8_end 0 = .ok (.aload_n 0, 1) := by decide +kernel
theorem dX8_end_1 : decode cX8_end 1 = .ok (.getfield 12, 3) := by decide +kernel
theorem dX8_end_4 : decode cX8_end 4 = .ok (.getfield 74, 3) := by decide +kernel
theorem dX8_end_7 : decode cX8_end 7 = .ok (.getfield 84, 3) := by decide +kernel
theorem dX8_end_10 : decode cX8_end 10 = .ok (.istore_n 2, 1) := by decide +kernel
theorem dX8_end_11 : decode cX8_end 11 = .ok (.iload_n 1, 1) := by decide +kernel
theorem dX8_end_12 : decode cX8_end 12 = .ok (.iconst 0, 1) := by decide +kernel
theorem dX8_end_13 : decode cX8_end 13 = .ok (.iload_n 2, 1) := by decide +kernel
theorem dX8_end_14 : decode cX8_end 14 = .ok (.invokestatic 70, 3) := by decide +kernel
theorem dX8_end_17 : decode cX8_end 17 = .ok (.ifCond .ne 5, 3) := by decide +kernel
theorem dX8_end_20 : decode cX8_end 20 = .ok (.iconst (-1), 1) := by decide +kernel
theorem dX8_end_21 : decode cX8_end 21 = .ok (.ireturn, 1) := by decide +kernel
theorem dX8_end_22 : decode cX8_end 22 = .ok (.aload_n 0, 1) := by decide +kernel
theorem dX8_end_23 : decode cX8_end 23 = .ok (.getfield 12, 3) := by decide +kernel
theorem dX8_end_26 : decode cX8_end 26 = .ok (.getfield 74, 3) := by decide +kernel
theorem dX8_end_29 : decode cX8_end 29 = .ok (.iload_n 1, 1) := by decide +kernel
theorem dX8_end_30 : decode cX8_end 30 = .ok (.putfield 84, 3) := by decide +kernel
theorem dX8_end_33 : decode cX8_end 33 = .ok (.iload_n 2, 1) := by decide +kernel
theorem dX8_end_34 : decode cX8_end 34 = .ok (.ireturn, 1) := by decide +kernel
theorem dX8_text_0 : decode cX8_text 0 = .ok (.aload_n 0, 1) := by decide +kernel
theorem dX8_text_1 : decode cX8_text 1 = .ok (.getfield 12, 3) := by decide +kernel
theorem dX8_text_4 : decode cX8_text 4 = .ok (.invokevirtual 87, 3) := by decide +kernel
theorem dX8_text_7 : decode cX8_text 7 = .ok (.istore_n 1, 1) := by decide +kernel
theorem dX8_text_8 : decode cX8_text 8 = .ok (.aload_n 0, 1) := by decide +kernel
theorem dX8_text_9 : decode cX8_text 9 = .ok (.getfield 12, 3) := by decide +kernel
theorem dX8_text_12 : decode cX8_text 12 = .ok (.getfield 74, 3) := by decide +kernel
theorem dX8_text_15 : decode cX8_text 15 = .ok (.iconst 0, 1) := by decide +kernel
theorem dX8_text_16 : decode cX8_text 16 = .ok (.putfield 84, 3) := by decide +kernel
theorem dX8_text_19 : decode cX8_text 19 = .ok (.iload_n 1, 1) := by decide +kernel
theorem dX8_text_20 : decode cX8_text 20 = .ok (.bipush (-4), 2) := by decide +kernel
theorem dX8_text_22 : decode cX8_text 22 = .ok (.if_icmp .ne 14, 3) := by decide +kernel
theorem dX8_text_25 : decode cX8_text 25 = .ok (.bipush (-10), 2) := by decide +kernel
theorem dX8_text_27 : decode cX8_text 27 = .ok (.aload_n 0, 1) := by decide +kernel
theorem dX8_text_28 : decode cX8_text 28 = .ok (.getfield 12, 3) := by decide +kernel
theorem dX8_text_31 : decode cX8_text 31 = .ok (.getfield 91, 3) := by decide +kernel
theorem dX8_text_34 : decode cX8_text 34 = .ok (.isub, 1) := by decide +kernel
theorem dX8_text_35 : decode cX8_text 35 = .ok (.ireturn, 1) := by decide +kernel
theorem dX8_text_36 : decode cX8_text 36 = .ok (.aload_n 0, 1) := by decide +kernel
theorem dX8_text_37 : decode cX8_text 37 = .ok (.getfield 19, 3) := by decide +kernel
theorem dX8_text_40 : decode cX8_text 40 = .ok (.aload_n 0, 1) := by decide +kernel
theorem dX8_text_41 : decode cX8_text 41 = .ok (.getfield 12, 3) := by decide +kernel
theorem dX8_text_44 : decode cX8_text 44 = .ok (.getfield 94, 3) := by decide +kernel
theorem dX8_text_47 : decode cX8_text 47 = .ok (.invokevirtual 97, 3) := by decide +kernel
theorem dX8_text_50 : decode cX8_text 50 = .ok (.aload_n 0, 1) := by decide +kernel
theorem dX8_text_51 : decode cX8_text 51 = .ok (.getfield 37, 3) := by decide +kernel
theorem dX8_text_54 : decode cX8_text 54 = .ok (.iconst 0, 1) := by decide +kernel
theorem dX8_text_55 : decode cX8_text 55 = .ok (.putfield 101, 3) := by decide +kernel
theorem dX8_text_58 : decode cX8_text 58 = .ok (.iconst 0, 1) := by decide +kernel
theorem dX8_text_59 : decode cX8_text 59 = .ok (.istore_n 2, 1) := by decide +kernel
theorem dX8_text_60 : decode cX8_text 60 = .ok (.iload_n 2, 1) := by decide +kernel
theorem dX8_text_61 : decode cX8_text 61 = .ok (.iconst 2, 1) := by decide +kernel
theorem dX8_text_62 : decode cX8_text 62 = .ok (.if_icmp .ge 16, 3) := by decide +kernel
theorem dX8_text_65 : decode cX8_text 65 = .ok (.aload_n 0, 1) := by decide +kernel
theorem dX8_text_66 : decode cX8_text 66 = .ok (.getfield 30, 3) := by decide +kernel
theorem dX8_text_69 : decode cX8_text 69 = .ok (.iload_n 2, 1) := by decide +kernel
theorem dX8_text_70 : decode cX8_text 70 = .ok (.iconst 0, 1) := by decide +kernel
theorem dX8_text_71 : decode cX8_text 71 = .ok (.bastore, 1) := by decide +kernel
theorem dX8_text_72 : decode cX8_text 72 = .ok (.iinc 2 1, 3) := by decide +kernel
theorem dX8_text_75 : decode cX8_text 75 = .ok (.goto (-15), 3) := by decide +kernel
theorem dX8_text_78 : decode cX8_text 78 = .ok (.iload_n 1, 1) := by decide +kernel
theorem dX8_text_79 : decode cX8_text 79 = .ok (.ireturn, 1) := by decide +kernel
theorem dX8_fault_0 : decode cX8_fault 0 = .ok (.aload_n 0, 1) := by decide +kernel
theorem dX8_fault_1 : decode cX8_fault 1 = .ok (.getfield 12, 3) := by decide +kernel
theorem dX8_fault_4 : decode cX8_fault 4 = .ok (.getfield 104, 3) := by decide +kernel
theorem dX8_fault_7 : decode cX8_fault 7 = .ok (.ireturn, 1) := by decide +kernel
theorem dX8_rule_0 : decode cX8_rule 0 = .ok (.iload_n 1, 1) := by decide +kernel
theorem dX8_rule_1 : decode cX8_rule 1 = .ok (.tableswitch 89 0 5 #[39, 47, 55, 63, 71, 79], 39) := by decide +kernel
theorem dX8_rule_40 : decode cX8_rule 40 = .ok (.aload_n 0, 1) := by decide +kernel
theorem dX8_rule_41 : decode cX8_rule 41 = .ok (.getfield 19, 3) := by decide +kernel
theorem dX8_rule_44 : decode cX8_rule 44 = .ok (.getfield 107, 3) := by decide +kernel
theorem dX8_rule_47 : decode cX8_rule 47 = .ok (.ireturn, 1) := by decide +kernel
theorem dX8_rule_48 : decode cX8_rule 48 = .ok (.aload_n 0, 1) := by decide +kernel
theorem dX8_rule_49 : decode cX8_rule 49 = .ok (.getfield 19, 3) := by decide +kernel
theorem dX8_rule_52 : decode cX8_rule 52 = .ok (.getfield 110, 3) := by decide +kernel
theorem dX8_rule_55 : decode cX8_rule 55 = .ok (.ireturn, 1) := by decide +kernel
theorem dX8_rule_56 : decode cX8_rule 56 = .ok (.aload_n 0, 1) := by decide +kernel
theorem dX8_rule_57 : decode cX8_rule 57 = .ok (.getfield 19, 3) := by decide +kernel
theorem dX8_rule_60 : decode cX8_rule 60 = .ok (.getfield 113, 3) := by decide +kernel
theorem dX8_rule_63 : decode cX8_rule 63 = .ok (.ireturn, 1) := by decide +kernel
theorem dX8_rule_64 : decode cX8_rule 64 = .ok (.aload_n 0, 1) := by decide +kernel
theorem dX8_rule_65 : decode cX8_rule 65 = .ok (.getfield 19, 3) := by decide +kernel
theorem dX8_rule_68 : decode cX8_rule 68 = .ok (.getfield 116, 3) := by decide +kernel
theorem dX8_rule_71 : decode cX8_rule 71 = .ok (.ireturn, 1) := by decide +kernel
theorem dX8_rule_72 : decode cX8_rule 72 = .ok (.aload_n 0, 1) := by decide +kernel
theorem dX8_rule_73 : decode cX8_rule 73 = .ok (.getfield 19, 3) := by decide +kernel
theorem dX8_rule_76 : decode cX8_rule 76 = .ok (.getfield 119, 3) := by decide +kernel
theorem dX8_rule_79 : decode cX8_rule 79 = .ok (.ireturn, 1) := by decide +kernel
theorem dX8_rule_80 : decode cX8_rule 80 = .ok (.aload_n 0, 1) := by decide +kernel
theorem dX8_rule_81 : decode cX8_rule 81 = .ok (.getfield 19, 3) := by decide +kernel
theorem dX8_rule_84 : decode cX8_rule 84 = .ok (.bipush 15, 2) := by decide +kernel
theorem dX8_rule_86 : decode cX8_rule 86 = .ok (.invokevirtual 122, 3) := by decide +kernel
theorem dX8_rule_89 : decode cX8_rule 89 = .ok (.ireturn, 1) := by decide +kernel
theorem dX8_rule_90 : decode cX8_rule 90 = .ok (.iconst (-1), 1) := by decide +kernel
theorem dX8_rule_91 : decode cX8_rule 91 = .ok (.ireturn, 1) := by decide +kernel
theorem dX8_man_0 : decode cX8_man 0 = .ok (.aload_n 0, 1) := by decide +kernel
theorem dX8_man_1 : decode cX8_man 1 = .ok (.getfield 19, 3) := by decide +kernel
theorem dX8_man_4 : decode cX8_man 4 = .ok (.iload_n 1, 1) := by decide +kernel
theorem dX8_man_5 : decode cX8_man 5 = .ok (.invokevirtual 126, 3) := by decide +kernel
theorem dX8_man_8 : decode cX8_man 8 = .ok (.astore_n 3, 1) := by decide +kernel
theorem dX8_man_9 : decode cX8_man 9 = .ok (.aload_n 3, 1) := by decide +kernel
theorem dX8_man_10 : decode cX8_man 10 = .ok (.ifnonnull 5, 3) := by decide +kernel
theorem dX8_man_13 : decode cX8_man 13 = .ok (.iconst (-1), 1) := by decide +kernel
theorem dX8_man_14 : decode cX8_man 14 = .ok (.ireturn, 1) := by decide +kernel
theorem dX8_man_15 : decode cX8_man 15 = .ok (.iload_n 2, 1) := by decide +kernel
theorem dX8_man_16 : decode cX8_man 16 = .ok (.tableswitch 68 0 4 #[36, 41, 46, 51, 56], 36) := by decide +kernel
theorem dX8_man_52 : decode cX8_man 52 = .ok (.aload_n 3, 1) := by decide +kernel
theorem dX8_man_53 : decode cX8_man 53 = .ok (.getfield 130, 3) := by decide +kernel
theorem dX8_man_56 : decode cX8_man 56 = .ok (.ireturn, 1) := by decide +kernel
theorem dX8_man_57 : decode cX8_man 57 = .ok (.aload_n 3, 1) := by decide +kernel
theorem dX8_man_58 : decode cX8_man 58 = .ok (.getfield 135, 3) := by decide +kernel
theorem dX8_man_61 : decode cX8_man 61 = .ok (.ireturn, 1) := by decide +kernel
theorem dX8_man_62 : decode cX8_man 62 = .ok (.aload_n 3, 1) := by decide +kernel
theorem dX8_man_63 : decode cX8_man 63 = .ok (.invokevirtual 138, 3) := by decide +kernel
theorem dX8_man_66 : decode cX8_man 66 = .ok (.ireturn, 1) := by decide +kernel
theorem dX8_man_67 : decode cX8_man 67 = .ok (.aload_n 3, 1) := by decide +kernel
theorem dX8_man_68 : decode cX8_man 68 = .ok (.getfield 141, 3) := by decide +kernel
theorem dX8_man_71 : decode cX8_man 71 = .ok (.ireturn, 1) := by decide +kernel
theorem dX8_man_72 : decode cX8_man 72 = .ok (.lconst 1, 1) := by decide +kernel
theorem dX8_man_73 : decode cX8_man 73 = .ok (.aload_n 3, 1) := by decide +kernel
theorem dX8_man_74 : decode cX8_man 74 = .ok (.invokevirtual 138, 3) := by decide +kernel
theorem dX8_man_77 : decode cX8_man 77 = .ok (.invokestatic 144, 3) := by decide +kernel
theorem dX8_man_80 : decode cX8_man 80 = .ok (.invokestatic 148, 3) := by decide +kernel
theorem dX8_man_83 : decode cX8_man 83 = .ok (.ireturn, 1) := by decide +kernel
theorem dX8_man_84 : decode cX8_man 84 = .ok (.iconst (-1), 1) := by decide +kernel
theorem dX8_man_85 : decode cX8_man 85 = .ok (.ireturn, 1) := by decide +kernel
theorem dX8_walk_0 : decode cX8_walk 0 = .ok (.aload_n 0, 1) := by decide +kernel
theorem dX8_walk_1 : decode cX8_walk 1 = .ok (.getfield 19, 3) := by decide +kernel
theorem dX8_walk_4 : decode cX8_walk 4 = .ok (.iload_n 1, 1) := by decide +kernel
theorem dX8_walk_5 : decode cX8_walk 5 = .ok (.invokevirtual 126, 3) := by decide +kernel
theorem dX8_walk_8 : decode cX8_walk 8 = .ok (.astore_n 3, 1) := by decide +kernel
theorem dX8_walk_9 : decode cX8_walk 9 = .ok (.aload_n 3, 1) := by decide +kernel
theorem dX8_walk_10 : decode cX8_walk 10 = .ok (.ifnull 11, 3) := by decide +kernel
theorem dX8_walk_13 : decode cX8_walk 13 = .ok (.aload_n 3, 1) := by decide +kernel
theorem dX8_walk_14 : decode cX8_walk 14 = .ok (.iload_n 2, 1) := by decide +kernel
theorem dX8_walk_15 : decode cX8_walk 15 = .ok (.invokevirtual 154, 3) := by decide +kernel
theorem dX8_walk_18 : decode cX8_walk 18 = .ok (.ifCond .ne 7, 3) := by decide +kernel
theorem dX8_walk_21 : decode cX8_walk 21 = .ok (.iconst (-1), 1) := by decide +kernel
theorem dX8_walk_22 : decode cX8_walk 22 = .ok (.goto 9, 3) := by decide +kernel
theorem dX8_walk_25 : decode cX8_walk 25 = .ok (.aload_n 3, 1) := by decide +kernel
theorem dX8_walk_26 : decode cX8_walk 26 = .ok (.getfield 157, 3) := by decide +kernel
theorem dX8_walk_29 : decode cX8_walk 29 = .ok (.iload_n 2, 1) := by decide +kernel
theorem dX8_walk_30 : decode cX8_walk 30 = .ok (.iaload, 1) := by decide +kernel
theorem dX8_walk_31 : decode cX8_walk 31 = .ok (.ireturn, 1) := by decide +kernel
theorem dX8_street_0 : decode cX8_street 0 = .ok (.iload_n 1, 1) := by decide +kernel
theorem dX8_street_1 : decode cX8_street 1 = .ok (.iconst 0, 1) := by decide +kernel
theorem dX8_street_2 : decode cX8_street 2 = .ok (.aload_n 0, 1) := by decide +kernel
theorem dX8_street_3 : decode cX8_street 3 = .ok (.getfield 19, 3) := by decide +kernel
theorem dX8_street_6 : decode cX8_street 6 = .ok (.getfield 110, 3) := by decide +kernel
theorem dX8_street_9 : decode cX8_street 9 = .ok (.iconst 1, 1) := by decide +kernel
theorem dX8_street_10 : decode cX8_street 10 = .ok (.isub, 1) := by decide +kernel
theorem dX8_street_11 : decode cX8_street 11 = .ok (.invokestatic 70, 3) := by decide +kernel
theorem dX8_street_14 : decode cX8_street 14 = .ok (.ifCond .eq 10, 3) := by decide +kernel
theorem dX8_street_17 : decode cX8_street 17 = .ok (.iload_n 2, 1) := by decide +kernel
theorem dX8_street_18 : decode cX8_street 18 = .ok (.invokestatic 160, 3) := by decide +kernel
theorem dX8_street_21 : decode cX8_street 21 = .ok (.ifCond .ne 5, 3) := by decide +kernel
theorem dX8_street_24 : decode cX8_street 24 = .ok (.iconst (-1), 1) := by decide +kernel
theorem dX8_street_25 : decode cX8_street 25 = .ok (.ireturn, 1) := by decide +kernel
theorem dX8_street_26 : decode cX8_street 26 = .ok (.iload_n 2, 1) := by decide +kernel
theorem dX8_street_27 : decode cX8_street 27 = .ok (.ifCond .ne 15, 3) := by decide +kernel
theorem dX8_street_30 : decode cX8_street 30 = .ok (.aload_n 0, 1) := by decide +kernel
theorem dX8_street_31 : decode cX8_street 31 = .ok (.getfield 19, 3) := by decide +kernel
theorem dX8_street_34 : decode cX8_street 34 = .ok (.getfield 163, 3) := by decide +kernel
theorem dX8_street_37 : decode cX8_street 37 = .ok (.iload_n 1, 1) := by decide +kernel
theorem dX8_street_38 : decode cX8_street 38 = .ok (.iaload, 1) := by decide +kernel
theorem dX8_street_39 : decode cX8_street 39 = .ok (.goto 12, 3) := by decide +kernel
theorem dX8_street_42 : decode cX8_street 42 = .ok (.aload_n 0, 1) := by decide +kernel
theorem dX8_street_43 : decode cX8_street 43 = .ok (.getfield 19, 3) := by decide +kernel
theorem dX8_street_46 : decode cX8_street 46 = .ok (.getfield 166, 3) := by decide +kernel
theorem dX8_street_49 : decode cX8_street 49 = .ok (.iload_n 1, 1) := by decide +kernel
theorem dX8_street_50 : decode cX8_street 50 = .ok (.iaload, 1) := by decide +kernel
theorem dX8_street_51 : decode cX8_street 51 = .ok (.ireturn, 1) := by decide +kernel
theorem dX8_reader_0 : decode cX8_reader 0 = .ok (.aload_n 0, 1) := by decide +kernel
theorem dX8_reader_1 : decode cX8_reader 1 = .ok (.getfield 19, 3) := by decide +kernel
theorem dX8_reader_4 : decode cX8_reader 4 = .ok (.iload_n 1, 1) := by decide +kernel
theorem dX8_reader_5 : decode cX8_reader 5 = .ok (.invokevirtual 169, 3) := by decide +kernel
theorem dX8_reader_8 : decode cX8_reader 8 = .ok (.astore_n 3, 1) := by decide +kernel
theorem dX8_reader_9 : decode cX8_reader 9 = .ok (.aload_n 3, 1) := by decide +kernel
theorem dX8_reader_10 : decode cX8_reader 10 = .ok (.ifnonnull 5, 3) := by decide +kernel
theorem dX8_reader_13 : decode cX8_reader 13 = .ok (.iconst (-1), 1) := by decide +kernel
theorem dX8_reader_14 : decode cX8_reader 14 = .ok (.ireturn, 1) := by decide +kernel
theorem dX8_reader_15 : decode cX8_reader 15 = .ok (.iload_n 2, 1) := by decide +kernel
theorem dX8_reader_16 : decode cX8_reader 16 = .ok (.tableswitch 43 0 2 #[28, 33, 38], 28) := by decide +kernel
theorem dX8_reader_44 : decode cX8_reader 44 = .ok (.aload_n 3, 1) := by decide +kernel
theorem dX8_reader_45 : decode cX8_reader 45 = .ok (.getfield 173, 3) := by decide +kernel
theorem dX8_reader_48 : decode cX8_reader 48 = .ok (.ireturn, 1) := by decide +kernel
theorem dX8_reader_49 : decode cX8_reader 49 = .ok (.aload_n 3, 1) := by decide +kernel
theorem dX8_reader_50 : decode cX8_reader 50 = .ok (.getfield 176, 3) := by decide +kernel
theorem dX8_reader_53 : decode cX8_reader 53 = .ok (.ireturn, 1) := by decide +kernel
theorem dX8_reader_54 : decode cX8_reader 54 = .ok (.aload_n 3, 1) := by decide +kernel
theorem dX8_reader_55 : decode cX8_reader 55 = .ok (.getfield 179, 3) := by decide +kernel
theorem dX8_reader_58 : decode cX8_reader 58 = .ok (.ireturn, 1) := by decide +kernel
theorem dX8_reader_59 : decode cX8_reader 59 = .ok (.iconst (-1), 1) := by decide +kernel
theorem dX8_reader_60 : decode cX8_reader 60 = .ok (.ireturn, 1) := by decide +kernel
theorem dX8_alter_0 : decode cX8_alter 0 = .ok (.aload_n 0, 1) := by decide +kernel
theorem dX8_alter_1 : decode cX8_alter 1 = .ok (.getfield 19, 3) := by decide +kernel
theorem dX8_alter_4 : decode cX8_alter 4 = .ok (.iload_n 1, 1) := by decide +kernel
theorem dX8_alter_5 : decode cX8_alter 5 = .ok (.invokevirtual 126, 3) := by decide +kernel
theorem dX8_alter_8 : decode cX8_alter 8 = .ok (.astore 4, 2) := by decide +kernel
theorem dX8_alter_10 : decode cX8_alter 10 = .ok (.aload 4, 2) := by decide +kernel
theorem dX8_alter_12 : decode cX8_alter 12 = .ok (.ifnonnull 5, 3) := by decide +kernel
theorem dX8_alter_15 : decode cX8_alter 15 = .ok (.iconst (-1), 1) := by decide +kernel
theorem dX8_alter_16 : decode cX8_alter 16 = .ok (.ireturn, 1) := by decide +kernel
theorem dX8_alter_17 : decode cX8_alter 17 = .ok (.iload_n 2, 1) := by decide +kernel
theorem dX8_alter_18 : decode cX8_alter 18 = .ok (.ifCond .ne 28, 3) := by decide +kernel
theorem dX8_alter_21 : decode cX8_alter 21 = .ok (.iload_n 3, 1) := by decide +kernel
theorem dX8_alter_22 : decode cX8_alter 22 = .ok (.iconst 0, 1) := by decide +kernel
theorem dX8_alter_23 : decode cX8_alter 23 = .ok (.iconst 3, 1) := by decide +kernel
theorem dX8_alter_24 : decode cX8_alter 24 = .ok (.invokestatic 70, 3) := by decide +kernel
theorem dX8_alter_27 : decode cX8_alter 27 = .ok (.ifCond .eq 19, 3) := by decide +kernel
theorem dX8_alter_30 : decode cX8_alter 30 = .ok (.aload 4, 2) := by decide +kernel
theorem dX8_alter_32 : decode cX8_alter 32 = .ok (.getfield 130, 3) := by decide +kernel
theorem dX8_alter_35 : decode cX8_alter 35 = .ok (.istore 5, 2) := by decide +kernel
theorem dX8_alter_37 : decode cX8_alter 37 = .ok (.aload 4, 2) := by decide +kernel
theorem dX8_alter_39 : decode cX8_alter 39 = .ok (.iload_n 3, 1) := by decide +kernel
theorem dX8_alter_40 : decode cX8_alter 40 = .ok (.putfield 130, 3) := by decide +kernel
theorem dX8_alter_43 : decode cX8_alter 43 = .ok (.iload 5, 2) := by decide +kernel
theorem dX8_alter_45 : decode cX8_alter 45 = .ok (.ireturn, 1) := by decide +kernel
theorem dX8_alter_46 : decode cX8_alter 46 = .ok (.iload_n 2, 1) := by decide +kernel
theorem dX8_alter_47 : decode cX8_alter 47 = .ok (.iconst 1, 1) := by decide +kernel
theorem dX8_alter_48 : decode cX8_alter 48 = .ok (.if_icmp .ne 26, 3) := by decide +kernel
theorem dX8_alter_51 : decode cX8_alter 51 = .ok (.iload_n 3, 1) := by decide +kernel
theorem dX8_alter_52 : decode cX8_alter 52 = .ok (.invokestatic 182, 3) := by decide +kernel
theorem dX8_alter_55 : decode cX8_alter 55 = .ok (.ifCond .eq 19, 3) := by decide +kernel
theorem dX8_alter_58 : decode cX8_alter 58 = .ok (.aload 4, 2) := by decide +kernel
theorem dX8_alter_60 : decode cX8_alter 60 = .ok (.getfield 135, 3) := by decide +kernel
theorem dX8_alter_63 : decode cX8_alter 63 = .ok (.istore 5, 2) := by decide +kernel
theorem dX8_alter_65 : decode cX8_alter 65 = .ok (.aload 4, 2) := by decide +kernel
theorem dX8_alter_67 : decode cX8_alter 67 = .ok (.iload_n 3, 1) := by decide +kernel
theorem dX8_alter_68 : decode cX8_alter 68 = .ok (.putfield 135, 3) := by decide +kernel
theorem dX8_alter_71 : decode cX8_alter 71 = .ok (.iload 5, 2) := by decide +kernel
theorem dX8_alter_73 : decode cX8_alter 73 = .ok (.ireturn, 1) := by decide +kernel
theorem dX8_alter_74 : decode cX8_alter 74 = .ok (.iconst (-1), 1) := by decide +kernel
theorem dX8_alter_75 : decode cX8_alter 75 = .ok (.ireturn, 1) := by decide +kernel
theorem dX8_detour_0 : decode cX8_detour 0 = .ok (.aload_n 0, 1) := by decide +kernel
theorem dX8_detour_1 : decode cX8_detour 1 = .ok (.getfield 19, 3) := by decide +kernel
theorem dX8_detour_4 : decode cX8_detour 4 = .ok (.iload_n 1, 1) := by decide +kernel
theorem dX8_detour_5 : decode cX8_detour 5 = .ok (.invokevirtual 126, 3) := by decide +kernel
theorem dX8_detour_8 : decode cX8_detour 8 = .ok (.astore 4, 2) := by decide +kernel
theorem dX8_detour_10 : decode cX8_detour 10 = .ok (.aload 4, 2) := by decide +kernel
theorem dX8_detour_12 : decode cX8_detour 12 = .ok (.ifnull 19, 3) := by decide +kernel
theorem dX8_detour_15 : decode cX8_detour 15 = .ok (.aload 4, 2) := by decide +kernel
theorem dX8_detour_17 : decode cX8_detour 17 = .ok (.iload_n 2, 1) := by decide +kernel
theorem dX8_detour_18 : decode cX8_detour 18 = .ok (.invokevirtual 154, 3) := by decide +kernel
theorem dX8_detour_21 : decode cX8_detour 21 = .ok (.ifCond .eq 10, 3) := by decide +kernel
theorem dX8_detour_24 : decode cX8_detour 24 = .ok (.iload_n 3, 1) := by decide +kernel
theorem dX8_detour_25 : decode cX8_detour 25 = .ok (.invokestatic 185, 3) := by decide +kernel
theorem dX8_detour_28 : decode cX8_detour 28 = .ok (.ifCond .ne 5, 3) := by decide +kernel
theorem dX8_detour_31 : decode cX8_detour 31 = .ok (.iconst (-1), 1) := by decide +kernel
theorem dX8_detour_32 : decode cX8_detour 32 = .ok (.ireturn, 1) := by decide +kernel
theorem dX8_detour_33 : decode cX8_detour 33 = .ok (.aload 4, 2) := by decide +kernel
theorem dX8_detour_35 : decode cX8_detour 35 = .ok (.getfield 157, 3) := by decide +kernel
theorem dX8_detour_38 : decode cX8_detour 38 = .ok (.iload_n 2, 1) := by decide +kernel
theorem dX8_detour_39 : decode cX8_detour 39 = .ok (.iaload, 1) := by decide +kernel
theorem dX8_detour_40 : decode cX8_detour 40 = .ok (.istore 5, 2) := by decide +kernel
theorem dX8_detour_42 : decode cX8_detour 42 = .ok (.aload 4, 2) := by decide +kernel
theorem dX8_detour_44 : decode cX8_detour 44 = .ok (.getfield 157, 3) := by decide +kernel
theorem dX8_detour_47 : decode cX8_detour 47 = .ok (.iload_n 2, 1) := by decide +kernel
theorem dX8_detour_48 : decode cX8_detour 48 = .ok (.iload_n 3, 1) := by decide +kernel
theorem dX8_detour_49 : decode cX8_detour 49 = .ok (.iastore, 1) := by decide +kernel
theorem dX8_detour_50 : decode cX8_detour 50 = .ok (.aload_n 0, 1) := by decide +kernel
theorem dX8_detour_51 : decode cX8_detour 51 = .ok (.getfield 19, 3) := by decide +kernel
theorem dX8_detour_54 : decode cX8_detour 54 = .ok (.aload 4, 2) := by decide +kernel
theorem dX8_detour_56 : decode cX8_detour 56 = .ok (.invokevirtual 188, 3) := by decide +kernel
theorem dX8_detour_59 : decode cX8_detour 59 = .ok (.ifCond .ne 15, 3) := by decide +kernel
theorem dX8_detour_62 : decode cX8_detour 62 = .ok (.aload 4, 2) := by decide +kernel
theorem dX8_detour_64 : decode cX8_detour 64 = .ok (.getfield 157, 3) := by decide +kernel
theorem dX8_detour_67 : decode cX8_detour 67 = .ok (.iload_n 2, 1) := by decide +kernel
theorem dX8_detour_68 : decode cX8_detour 68 = .ok (.iload 5, 2) := by decide +kernel
theorem dX8_detour_70 : decode cX8_detour 70 = .ok (.iastore, 1) := by decide +kernel
theorem dX8_detour_71 : decode cX8_detour 71 = .ok (.bipush (-2), 2) := by decide +kernel
theorem dX8_detour_73 : decode cX8_detour 73 = .ok (.ireturn, 1) := by decide +kernel
theorem dX8_detour_74 : decode cX8_detour 74 = .ok (.iload 5, 2) := by decide +kernel
theorem dX8_detour_76 : decode cX8_detour 76 = .ok (.ireturn, 1) := by decide +kernel
theorem dX8_shift_0 : decode cX8_shift 0 = .ok (.aload_n 0, 1) := by decide +kernel
theorem dX8_shift_1 : decode cX8_shift 1 = .ok (.getfield 19, 3) := by decide +kernel
theorem dX8_shift_4 : decode cX8_shift 4 = .ok (.iload_n 1, 1) := by decide +kernel
theorem dX8_shift_5 : decode cX8_shift 5 = .ok (.invokevirtual 126, 3) := by decide +kernel
theorem dX8_shift_8 : decode cX8_shift 8 = .ok (.astore_n 3, 1) := by decide +kernel
theorem dX8_shift_9 : decode cX8_shift 9 = .ok (.aload_n 3, 1) := by decide +kernel
theorem dX8_shift_10 : decode cX8_shift 10 = .ok (.ifnull 11, 3) := by decide +kernel
theorem dX8_shift_13 : decode cX8_shift 13 = .ok (.aload_n 3, 1) := by decide +kernel
theorem dX8_shift_14 : decode cX8_shift 14 = .ok (.iload_n 2, 1) := by decide +kernel
theorem dX8_shift_15 : decode cX8_shift 15 = .ok (.invokevirtual 154, 3) := by decide +kernel
theorem dX8_shift_18 : decode cX8_shift 18 = .ok (.ifCond .ne 5, 3) := by decide +kernel
theorem dX8_shift_21 : decode cX8_shift 21 = .ok (.iconst (-1), 1) := by decide +kernel
theorem dX8_shift_22 : decode cX8_shift 22 = .ok (.ireturn, 1) := by decide +kernel
theorem dX8_shift_23 : decode cX8_shift 23 = .ok (.aload_n 3, 1) := by decide +kernel
theorem dX8_shift_24 : decode cX8_shift 24 = .ok (.getfield 157, 3) := by decide +kernel
theorem dX8_shift_27 : decode cX8_shift 27 = .ok (.iconst 0, 1) := by decide +kernel
theorem dX8_shift_28 : decode cX8_shift 28 = .ok (.iaload, 1) := by decide +kernel
theorem dX8_shift_29 : decode cX8_shift 29 = .ok (.istore 4, 2) := by decide +kernel
theorem dX8_shift_31 : decode cX8_shift 31 = .ok (.aload_n 3, 1) := by decide +kernel
theorem dX8_shift_32 : decode cX8_shift 32 = .ok (.iload_n 2, 1) := by decide +kernel
theorem dX8_shift_33 : decode cX8_shift 33 = .ok (.invokevirtual 192, 3) := by decide +kernel
theorem dX8_shift_36 : decode cX8_shift 36 = .ok (.iload 4, 2) := by decide +kernel
theorem dX8_shift_38 : decode cX8_shift 38 = .ok (.ireturn, 1) := by decide +kernel
theorem dX8_stand_0 : decode cX8_stand 0 = .ok (.aload_n 0, 1) := by decide +kernel
theorem dX8_stand_1 : decode cX8_stand 1 = .ok (.getfield 19, 3) := by decide +kernel
theorem dX8_stand_4 : decode cX8_stand 4 = .ok (.iload_n 1, 1) := by decide +kernel
theorem dX8_stand_5 : decode cX8_stand 5 = .ok (.invokevirtual 169, 3) := by decide +kernel
theorem dX8_stand_8 : decode cX8_stand 8 = .ok (.astore 4, 2) := by decide +kernel
theorem dX8_stand_10 : decode cX8_stand 10 = .ok (.aload 4, 2) := by decide +kernel
theorem dX8_stand_12 : decode cX8_stand 12 = .ok (.ifnonnull 5, 3) := by decide +kernel
theorem dX8_stand_15 : decode cX8_stand 15 = .ok (.iconst (-1), 1) := by decide +kernel
theorem dX8_stand_16 : decode cX8_stand 16 = .ok (.ireturn, 1) := by decide +kernel
theorem dX8_stand_17 : decode cX8_stand 17 = .ok (.iload_n 2, 1) := by decide +kernel
theorem dX8_stand_18 : decode cX8_stand 18 = .ok (.tableswitch 93 0 2 #[26, 44, 68], 26) := by decide +kernel
theorem dX8_stand_44 : decode cX8_stand 44 = .ok (.iload_n 3, 1) := by decide +kernel
theorem dX8_stand_45 : decode cX8_stand 45 = .ok (.invokestatic 185, 3) := by decide +kernel
theorem dX8_stand_48 : decode cX8_stand 48 = .ok (.ifCond .eq 12, 3) := by decide +kernel
theorem dX8_stand_51 : decode cX8_stand 51 = .ok (.aload 4, 2) := by decide +kernel
theorem dX8_stand_53 : decode cX8_stand 53 = .ok (.iload_n 3, 1) := by decide +kernel
theorem dX8_stand_54 : decode cX8_stand 54 = .ok (.invokevirtual 196, 3) := by decide +kernel
theorem dX8_stand_57 : decode cX8_stand 57 = .ok (.goto 4, 3) := by decide +kernel
theorem dX8_stand_60 : decode cX8_stand 60 = .ok (.iconst (-1), 1) := by decide +kernel
theorem dX8_stand_61 : decode cX8_stand 61 = .ok (.ireturn, 1) := by decide +kernel
theorem dX8_stand_62 : decode cX8_stand 62 = .ok (.iload_n 3, 1) := by decide +kernel
theorem dX8_stand_63 : decode cX8_stand 63 = .ok (.iconst 0, 1) := by decide +kernel
theorem dX8_stand_64 : decode cX8_stand 64 = .ok (.aload 4, 2) := by decide +kernel
theorem dX8_stand_66 : decode cX8_stand 66 = .ok (.getfield 179, 3) := by decide +kernel
theorem dX8_stand_69 : decode cX8_stand 69 = .ok (.invokestatic 70, 3) := by decide +kernel
theorem dX8_stand_72 : decode cX8_stand 72 = .ok (.ifCond .eq 12, 3) := by decide +kernel
theorem dX8_stand_75 : decode cX8_stand 75 = .ok (.aload 4, 2) := by decide +kernel
theorem dX8_stand_77 : decode cX8_stand 77 = .ok (.iload_n 3, 1) := by decide +kernel
theorem dX8_stand_78 : decode cX8_stand 78 = .ok (.invokevirtual 199, 3) := by decide +kernel
theorem dX8_stand_81 : decode cX8_stand 81 = .ok (.goto 4, 3) := by decide +kernel
theorem dX8_stand_84 : decode cX8_stand 84 = .ok (.iconst (-1), 1) := by decide +kernel
theorem dX8_stand_85 : decode cX8_stand 85 = .ok (.ireturn, 1) := by decide +kernel
theorem dX8_stand_86 : decode cX8_stand 86 = .ok (.iload_n 3, 1) := by decide +kernel
theorem dX8_stand_87 : decode cX8_stand 87 = .ok (.aload 4, 2) := by decide +kernel
theorem dX8_stand_89 : decode cX8_stand 89 = .ok (.getfield 176, 3) := by decide +kernel
theorem dX8_stand_92 : decode cX8_stand 92 = .ok (.bipush 59, 2) := by decide +kernel
theorem dX8_stand_94 : decode cX8_stand 94 = .ok (.invokestatic 70, 3) := by decide +kernel
theorem dX8_stand_97 : decode cX8_stand 97 = .ok (.ifCond .eq 12, 3) := by decide +kernel
theorem dX8_stand_100 : decode cX8_stand 100 = .ok (.aload 4, 2) := by decide +kernel
theorem dX8_stand_102 : decode cX8_stand 102 = .ok (.iload_n 3, 1) := by decide +kernel
theorem dX8_stand_103 : decode cX8_stand 103 = .ok (.invokevirtual 202, 3) := by decide +kernel
theorem dX8_stand_106 : decode cX8_stand 106 = .ok (.goto 4, 3) := by decide +kernel
theorem dX8_stand_109 : decode cX8_stand 109 = .ok (.iconst (-1), 1) := by decide +kernel
theorem dX8_stand_110 : decode cX8_stand 110 = .ok (.ireturn, 1) := by decide +kernel
theorem dX8_stand_111 : decode cX8_stand 111 = .ok (.iconst (-1), 1) := by decide +kernel
theorem dX8_stand_112 : decode cX8_stand 112 = .ok (.ireturn, 1) := by decide +kernel
theorem dX8_rain_0 : decode cX8_rain 0 = .ok (.iload_n 1, 1) := by decide +kernel
theorem dX8_rain_1 : decode cX8_rain 1 = .ok (.invokestatic 205, 3) := by decide +kernel
theorem dX8_rain_4 : decode cX8_rain 4 = .ok (.ifCond .eq 10, 3) := by decide +kernel
theorem dX8_rain_7 : decode cX8_rain 7 = .ok (.iload_n 2, 1) := by decide +kernel
theorem dX8_rain_8 : decode cX8_rain 8 = .ok (.invokestatic 205, 3) := by decide +kernel
theorem dX8_rain_11 : decode cX8_rain 11 = .ok (.ifCond .ne 5, 3) := by decide +kernel
theorem dX8_rain_14 : decode cX8_rain 14 = .ok (.iconst (-1), 1) := by decide +kernel
theorem dX8_rain_15 : decode cX8_rain 15 = .ok (.ireturn, 1) := by decide +kernel
theorem dX8_rain_16 : decode cX8_rain 16 = .ok (.aload_n 0, 1) := by decide +kernel
theorem dX8_rain_17 : decode cX8_rain 17 = .ok (.getfield 19, 3) := by decide +kernel
theorem dX8_rain_20 : decode cX8_rain 20 = .ok (.getfield 116, 3) := by decide +kernel
theorem dX8_rain_23 : decode cX8_rain 23 = .ok (.istore_n 3, 1) := by decide +kernel
theorem dX8_rain_24 : decode cX8_rain 24 = .ok (.aload_n 0, 1) := by decide +kernel
theorem dX8_rain_25 : decode cX8_rain 25 = .ok (.getfield 19, 3) := by decide +kernel
theorem dX8_rain_28 : decode cX8_rain 28 = .ok (.iload_n 1, 1) := by decide +kernel
theorem dX8_rain_29 : decode cX8_rain 29 = .ok (.iload_n 2, 1) := by decide +kernel
theorem dX8_rain_30 : decode cX8_rain 30 = .ok (.invokevirtual 208, 3) := by decide +kernel
theorem dX8_rain_33 : decode cX8_rain 33 = .ok (.iload_n 3, 1) := by decide +kernel
theorem dX8_rain_34 : decode cX8_rain 34 = .ok (.ireturn, 1) := by decide +kernel
theorem dX8_pave_0 : decode cX8_pave 0 = .ok (.iload_n 1, 1) := by decide +kernel
theorem dX8_pave_1 : decode cX8_pave 1 = .ok (.invokestatic 185, 3) := by decide +kernel
theorem dX8_pave_4 : decode cX8_pave 4 = .ok (.ifCond .eq 15, 3) := by decide +kernel
theorem dX8_pave_7 : decode cX8_pave 7 = .ok (.iload_n 2, 1) := by decide +kernel
theorem dX8_pave_8 : decode cX8_pave 8 = .ok (.invokestatic 185, 3) := by decide +kernel
theorem dX8_pave_11 : decode cX8_pave 11 = .ok (.ifCond .eq 8, 3) := by decide +kernel
theorem dX8_pave_14 : decode cX8_pave 14 = .ok (.iload_n 1, 1) := by decide +kernel
theorem dX8_pave_15 : decode cX8_pave 15 = .ok (.iload_n 2, 1) := by decide +kernel
theorem dX8_pave_16 : decode cX8_pave 16 = .ok (.if_icmp .ne 5, 3) := by decide +kernel
theorem dX8_pave_19 : decode cX8_pave 19 = .ok (.iconst (-1), 1) := by decide +kernel
theorem dX8_pave_20 : decode cX8_pave 20 = .ok (.ireturn, 1) := by decide +kernel
theorem dX8_pave_21 : decode cX8_pave 21 = .ok (.aload_n 0, 1) := by decide +kernel
theorem dX8_pave_22 : decode cX8_pave 22 = .ok (.getfield 19, 3) := by decide +kernel
theorem dX8_pave_25 : decode cX8_pave 25 = .ok (.iload_n 1, 1) := by decide +kernel
theorem dX8_pave_26 : decode cX8_pave 26 = .ok (.iload_n 2, 1) := by decide +kernel
theorem dX8_pave_27 : decode cX8_pave 27 = .ok (.invokevirtual 212, 3) := by decide +kernel
theorem dX8_pave_30 : decode cX8_pave 30 = .ok (.ifCond .eq 13, 3) := by decide +kernel
theorem dX8_pave_33 : decode cX8_pave 33 = .ok (.aload_n 0, 1) := by decide +kernel
theorem dX8_pave_34 : decode cX8_pave 34 = .ok (.getfield 19, 3) := by decide +kernel
theorem dX8_pave_37 : decode cX8_pave 37 = .ok (.getfield 110, 3) := by decide +kernel
theorem dX8_pave_40 : decode cX8_pave 40 = .ok (.goto 5, 3) := by decide +kernel
theorem dX8_pave_43 : decode cX8_pave 43 = .ok (.bipush (-3), 2) := by decide +kernel
theorem dX8_pave_45 : decode cX8_pave 45 = .ok (.ireturn, 1) := by decide +kernel
theorem dX8_at_0 : decode cX8_at 0 = .ok (.aload_n 0, 1) := by decide +kernel
theorem dX8_at_1 : decode cX8_at 1 = .ok (.getfield 19, 3) := by decide +kernel
theorem dX8_at_4 : decode cX8_at 4 = .ok (.iload_n 1, 1) := by decide +kernel
theorem dX8_at_5 : decode cX8_at 5 = .ok (.invokevirtual 126, 3) := by decide +kernel
theorem dX8_at_8 : decode cX8_at 8 = .ok (.astore_n 3, 1) := by decide +kernel
theorem dX8_at_9 : decode cX8_at 9 = .ok (.aload_n 3, 1) := by decide +kernel
theorem dX8_at_10 : decode cX8_at 10 = .ok (.ifnull 10, 3) := by decide +kernel
theorem dX8_at_13 : decode cX8_at 13 = .ok (.iload_n 2, 1) := by decide +kernel
theorem dX8_at_14 : decode cX8_at 14 = .ok (.invokestatic 205, 3) := by decide +kernel
theorem dX8_at_17 : decode cX8_at 17 = .ok (.ifCond .ne 7, 3) := by decide +kernel
theorem dX8_at_20 : decode cX8_at 20 = .ok (.iconst (-1), 1) := by decide +kernel
theorem dX8_at_21 : decode cX8_at 21 = .ok (.goto 8, 3) := by decide +kernel
theorem dX8_at_24 : decode cX8_at 24 = .ok (.aload_n 3, 1) := by decide +kernel
theorem dX8_at_25 : decode cX8_at 25 = .ok (.iload_n 2, 1) := by decide +kernel
theorem dX8_at_26 : decode cX8_at 26 = .ok (.invokevirtual 216, 3) := by decide +kernel
theorem dX8_at_29 : decode cX8_at 29 = .ok (.ireturn, 1) := by decide +kernel
theorem dX8_reads_0 : decode cX8_reads 0 = .ok (.aload_n 0, 1) := by decide +kernel
theorem dX8_reads_1 : decode cX8_reads 1 = .ok (.getfield 19, 3) := by decide +kernel
theorem dX8_reads_4 : decode cX8_reads 4 = .ok (.iload_n 1, 1) := by decide +kernel
theorem dX8_reads_5 : decode cX8_reads 5 = .ok (.invokevirtual 169, 3) := by decide +kernel
theorem dX8_reads_8 : decode cX8_reads 8 = .ok (.astore 4, 2) := by decide +kernel
theorem dX8_reads_10 : decode cX8_reads 10 = .ok (.aload 4, 2) := by decide +kernel
theorem dX8_reads_12 : decode cX8_reads 12 = .ok (.ifnull 17, 3) := by decide +kernel
theorem dX8_reads_15 : decode cX8_reads 15 = .ok (.iload_n 2, 1) := by decide +kernel
theorem dX8_reads_16 : decode cX8_reads 16 = .ok (.invokestatic 205, 3) := by decide +kernel
theorem dX8_reads_19 : decode cX8_reads 19 = .ok (.ifCond .eq 10, 3) := by decide +kernel
theorem dX8_reads_22 : decode cX8_reads 22 = .ok (.iload_n 3, 1) := by decide +kernel
theorem dX8_reads_23 : decode cX8_reads 23 = .ok (.invokestatic 160, 3) := by decide +kernel
theorem dX8_reads_26 : decode cX8_reads 26 = .ok (.ifCond .ne 5, 3) := by decide +kernel
theorem dX8_reads_29 : decode cX8_reads 29 = .ok (.iconst (-1), 1) := by decide +kernel
theorem dX8_reads_30 : decode cX8_reads 30 = .ok (.ireturn, 1) := by decide +kernel
theorem dX8_reads_31 : decode cX8_reads 31 = .ok (.aload_n 0, 1) := by decide +kernel
theorem dX8_reads_32 : decode cX8_reads 32 = .ok (.getfield 19, 3) := by decide +kernel
theorem dX8_reads_35 : decode cX8_reads 35 = .ok (.aload 4, 2) := by decide +kernel
theorem dX8_reads_37 : decode cX8_reads 37 = .ok (.iload_n 2, 1) := by decide +kernel
theorem dX8_reads_38 : decode cX8_reads 38 = .ok (.iload_n 3, 1) := by decide +kernel
theorem dX8_reads_39 : decode cX8_reads 39 = .ok (.invokevirtual 219, 3) := by decide +kernel
theorem dX8_reads_42 : decode cX8_reads 42 = .ok (.ireturn, 1) := by decide +kernel
theorem dX8_knows_0 : decode cX8_knows 0 = .ok (.aload_n 0, 1) := by decide +kernel
theorem dX8_knows_1 : decode cX8_knows 1 = .ok (.getfield 19, 3) := by decide +kernel
theorem dX8_knows_4 : decode cX8_knows 4 = .ok (.iload_n 1, 1) := by decide +kernel
theorem dX8_knows_5 : decode cX8_knows 5 = .ok (.invokevirtual 169, 3) := by decide +kernel
theorem dX8_knows_8 : decode cX8_knows 8 = .ok (.astore 4, 2) := by decide +kernel
theorem dX8_knows_10 : decode cX8_knows 10 = .ok (.aload 4, 2) := by decide +kernel
