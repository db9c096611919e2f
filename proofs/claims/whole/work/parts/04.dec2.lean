theorem dX3_init_0 : decode cX3_init 0 = .ok (.aload_n 0, 1) := by decide +kernel
theorem dX3_init_1 : decode cX3_init 1 = .ok (.invokespecial 3, 3) := by decide +kernel
theorem dX3_init_4 : decode cX3_init 4 = .ok (.aload_n 0, 1) := by decide +kernel
theorem dX3_init_5 : decode cX3_init 5 = .ok (.bipush 7, 2) := by decide +kernel
theorem dX3_init_7 : decode cX3_init 7 = .ok (.bipush 6, 2) := by decide +kernel
theorem dX3_init_9 : decode cX3_init 9 = .ok (.multianewarray 9 2, 4) := by decide +kernel
theorem dX3_init_13 : decode cX3_init 13 = .ok (.putfield 11, 3) := by decide +kernel
theorem dX3_init_16 : decode cX3_init 16 = .ok (.aload_n 0, 1) := by decide +kernel
theorem dX3_init_17 : decode cX3_init 17 = .ok (.bipush 6, 2) := by decide +kernel
theorem dX3_init_19 : decode cX3_init 19 = .ok (.bipush 6, 2) := by decide +kernel
theorem dX3_init_21 : decode cX3_init 21 = .ok (.multianewarray 9 2, 4) := by decide +kernel
theorem dX3_init_25 : decode cX3_init 25 = .ok (.putfield 16, 3) := by decide +kernel
theorem dX3_init_28 : decode cX3_init 28 = .ok (.aload_n 0, 1) := by decide +kernel
theorem dX3_init_29 : decode cX3_init 29 = .ok (.bipush 6, 2) := by decide +kernel
theorem dX3_init_31 : decode cX3_init 31 = .ok (.newarray .int, 2) := by decide +kernel
theorem dX3_init_33 : decode cX3_init 33 = .ok (.putfield 19, 3) := by decide +kernel
theorem dX3_init_36 : decode cX3_init 36 = .ok (.aload_n 0, 1) := by decide +kernel
theorem dX3_init_37 : decode cX3_init 37 = .ok (.bipush 6, 2) := by decide +kernel
theorem dX3_init_39 : decode cX3_init 39 = .ok (.newarray .int, 2) := by decide +kernel
theorem dX3_init_41 : decode cX3_init 41 = .ok (.putfield 23, 3) := by decide +kernel
theorem dX3_init_44 : decode cX3_init 44 = .ok (.aload_n 0, 1) := by decide +kernel
theorem dX3_init_45 : decode cX3_init 45 = .ok (.bipush 6, 2) := by decide +kernel
theorem dX3_init_47 : decode cX3_init 47 = .ok (.newarray .int, 2) := by decide +kernel
theorem dX3_init_49 : decode cX3_init 49 = .ok (.putfield 26, 3) := by decide +kernel
theorem dX3_init_52 : decode cX3_init 52 = .ok (.aload_n 0, 1) := by decide +kernel
theorem dX3_init_53 : decode cX3_init 53 = .ok (.aload_n 1, 1) := by decide +kernel
theorem dX3_init_54 : decode cX3_init 54 = .ok (.putfield 29, 3) := by decide +kernel
theorem dX3_init_57 : decode cX3_init 57 = .ok (.aload_n 0, 1) := by decide +kernel
theorem dX3_init_58 : decode cX3_init 58 = .ok (.aconst_null, 1) := by decide +kernel
theorem dX3_init_59 : decode cX3_init 59 = .ok (.putfield 33, 3) := by decide +kernel
theorem dX3_init_62 : decode cX3_init 62 = .ok (.aload_n 0, 1) := by decide +kernel
theorem dX3_init_63 : decode cX3_init 63 = .ok (.iconst (-1), 1) := by decide +kernel
theorem dX3_init_64 : decode cX3_init 64 = .ok (.putfield 37, 3) := by decide +kernel
theorem dX3_init_67 : decode cX3_init 67 = .ok (.aload_n 0, 1) := by decide +kernel
theorem dX3_init_68 : decode cX3_init 68 = .ok (.iconst (-1), 1) := by decide +kernel
theorem dX3_init_69 : decode cX3_init 69 = .ok (.putfield 41, 3) := by decide +kernel
theorem dX3_init_72 : decode cX3_init 72 = .ok (.aload_n 0, 1) := by decide +kernel
theorem dX3_init_73 : decode cX3_init 73 = .ok (.iconst (-1), 1) := by decide +kernel
theorem dX3_init_74 : decode cX3_init 74 = .ok (.putfield 44, 3) := by decide +kernel
theorem dX3_init_77 : decode cX3_init 77 = .ok (.return_, 1) := by decide +kernel
theorem dX3_run_0 : decode cX3_run 0 = .ok (.aload_n 0, 1) := by decide +kernel
theorem dX3_run_1 : decode cX3_run 1 = .ok (.iconst (-1), 1) := by decide +kernel
theorem dX3_run_2 : decode cX3_run 2 = .ok (.putfield 41, 3) := by decide +kernel
theorem dX3_run_5 : decode cX3_run 5 = .ok (.aload_n 0, 1) := by decide +kernel
theorem dX3_run_6 : decode cX3_run 6 = .ok (.iconst (-1), 1) := by decide +kernel
theorem dX3_run_7 : decode cX3_run 7 = .ok (.putfield 44, 3) := by decide +kernel
theorem dX3_run_10 : decode cX3_run 10 = .ok (.aload_n 0, 1) := by decide +kernel
theorem dX3_run_11 : decode cX3_run 11 = .ok (.aload_n 1, 1) := by decide +kernel
theorem dX3_run_12 : decode cX3_run 12 = .ok (.invokevirtual 47, 3) := by decide +kernel
theorem dX3_run_15 : decode cX3_run 15 = .ok (.return_, 1) := by decide +kernel
theorem dX3_runPoisoned_0 : decode cX3_runPoisoned 0 = .ok (.aload_n 0, 1) := by decide +kernel
theorem dX3_runPoisoned_1 : decode cX3_runPoisoned 1 = .ok (.iload_n 2, 1) := by decide +kernel
theorem dX3_runPoisoned_2 : decode cX3_runPoisoned 2 = .ok (.putfield 41, 3) := by decide +kernel
theorem dX3_runPoisoned_5 : decode cX3_runPoisoned 5 = .ok (.aload_n 0, 1) := by decide +kernel
theorem dX3_runPoisoned_6 : decode cX3_runPoisoned 6 = .ok (.iload_n 3, 1) := by decide +kernel
theorem dX3_runPoisoned_7 : decode cX3_runPoisoned 7 = .ok (.putfield 51, 3) := by decide +kernel
theorem dX3_runPoisoned_10 : decode cX3_runPoisoned 10 = .ok (.aload_n 0, 1) := by decide +kernel
theorem dX3_runPoisoned_11 : decode cX3_runPoisoned 11 = .ok (.iconst (-1), 1) := by decide +kernel
theorem dX3_runPoisoned_12 : decode cX3_runPoisoned 12 = .ok (.putfield 44, 3) := by decide +kernel
theorem dX3_runPoisoned_15 : decode cX3_runPoisoned 15 = .ok (.aload_n 0, 1) := by decide +kernel
theorem dX3_runPoisoned_16 : decode cX3_runPoisoned 16 = .ok (.aload_n 1, 1) := by decide +kernel
theorem dX3_runPoisoned_17 : decode cX3_runPoisoned 17 = .ok (.invokevirtual 47, 3) := by decide +kernel
theorem dX3_runPoisoned_20 : decode cX3_runPoisoned 20 = .ok (.return_, 1) := by decide +kernel
theorem dX3_runWithStranger_0 : decode cX3_runWithStranger 0 = .ok (.aload_n 0, 1) := by decide +kernel
theorem dX3_runWithStranger_1 : decode cX3_runWithStranger 1 = .ok (.iconst (-1), 1) := by decide +kernel
theorem dX3_runWithStranger_2 : decode cX3_runWithStranger 2 = .ok (.putfield 41, 3) := by decide +kernel
theorem dX3_runWithStranger_5 : decode cX3_runWithStranger 5 = .ok (.aload_n 0, 1) := by decide +kernel
theorem dX3_runWithStranger_6 : decode cX3_runWithStranger 6 = .ok (.iload_n 2, 1) := by decide +kernel
theorem dX3_runWithStranger_7 : decode cX3_runWithStranger 7 = .ok (.putfield 44, 3) := by decide +kernel
theorem dX3_runWithStranger_10 : decode cX3_runWithStranger 10 = .ok (.aload_n 0, 1) := by decide +kernel
theorem dX3_runWithStranger_11 : decode cX3_runWithStranger 11 = .ok (.iload_n 3, 1) := by decide +kernel
theorem dX3_runWithStranger_12 : decode cX3_runWithStranger 12 = .ok (.putfield 54, 3) := by decide +kernel
theorem dX3_runWithStranger_15 : decode cX3_runWithStranger 15 = .ok (.aload_n 0, 1) := by decide +kernel
theorem dX3_runWithStranger_16 : decode cX3_runWithStranger 16 = .ok (.aload_n 1, 1) := by decide +kernel
theorem dX3_runWithStranger_17 : decode cX3_runWithStranger 17 = .ok (.invokevirtual 47, 3) := by decide +kernel
theorem dX3_runWithStranger_20 : decode cX3_runWithStranger 20 = .ok (.return_, 1) := by decide +kernel
theorem dX3_goDownTheStreet_0 : decode cX3_goDownTheStreet 0 = .ok (.aload_n 0, 1) := by decide +kernel
theorem dX3_goDownTheStreet_1 : decode cX3_goDownTheStreet 1 = .ok (.aload_n 1, 1) := by decide +kernel
theorem dX3_goDownTheStreet_2 : decode cX3_goDownTheStreet 2 = .ok (.getfield 57, 3) := by decide +kernel
theorem dX3_goDownTheStreet_5 : decode cX3_goDownTheStreet 5 = .ok (.invokevirtual 62, 3) := by decide +kernel
theorem dX3_goDownTheStreet_8 : decode cX3_goDownTheStreet 8 = .ok (.iconst 0, 1) := by decide +kernel
theorem dX3_goDownTheStreet_9 : decode cX3_goDownTheStreet 9 = .ok (.istore_n 2, 1) := by decide +kernel
theorem dX3_goDownTheStreet_10 : decode cX3_goDownTheStreet 10 = .ok (.iconst 0, 1) := by decide +kernel
theorem dX3_goDownTheStreet_11 : decode cX3_goDownTheStreet 11 = .ok (.istore_n 3, 1) := by decide +kernel
theorem dX3_goDownTheStreet_12 : decode cX3_goDownTheStreet 12 = .ok (.iload_n 3, 1) := by decide +kernel
theorem dX3_goDownTheStreet_13 : decode cX3_goDownTheStreet 13 = .ok (.aload_n 0, 1) := by decide +kernel
theorem dX3_goDownTheStreet_14 : decode cX3_goDownTheStreet 14 = .ok (.getfield 29, 3) := by decide +kernel
theorem dX3_goDownTheStreet_17 : decode cX3_goDownTheStreet 17 = .ok (.getfield 66, 3) := by decide +kernel
theorem dX3_goDownTheStreet_20 : decode cX3_goDownTheStreet 20 = .ok (.if_icmp .ge 154, 3) := by decide +kernel
theorem dX3_goDownTheStreet_23 : decode cX3_goDownTheStreet 23 = .ok (.aload_n 1, 1) := by decide +kernel
theorem dX3_goDownTheStreet_24 : decode cX3_goDownTheStreet 24 = .ok (.getfield 71, 3) := by decide +kernel
theorem dX3_goDownTheStreet_27 : decode cX3_goDownTheStreet 27 = .ok (.iload_n 3, 1) := by decide +kernel
theorem dX3_goDownTheStreet_28 : decode cX3_goDownTheStreet 28 = .ok (.iaload, 1) := by decide +kernel
theorem dX3_goDownTheStreet_29 : decode cX3_goDownTheStreet 29 = .ok (.istore 4, 2) := by decide +kernel
theorem dX3_goDownTheStreet_31 : decode cX3_goDownTheStreet 31 = .ok (.iload_n 3, 1) := by decide +kernel
theorem dX3_goDownTheStreet_32 : decode cX3_goDownTheStreet 32 = .ok (.aload_n 0, 1) := by decide +kernel
theorem dX3_goDownTheStreet_33 : decode cX3_goDownTheStreet 33 = .ok (.getfield 44, 3) := by decide +kernel
theorem dX3_goDownTheStreet_36 : decode cX3_goDownTheStreet 36 = .ok (.if_icmp .ne 26, 3) := by decide +kernel
theorem dX3_goDownTheStreet_39 : decode cX3_goDownTheStreet 39 = .ok (.aload_n 0, 1) := by decide +kernel
theorem dX3_goDownTheStreet_40 : decode cX3_goDownTheStreet 40 = .ok (.getfield 11, 3) := by decide +kernel
theorem dX3_goDownTheStreet_43 : decode cX3_goDownTheStreet 43 = .ok (.iload_n 3, 1) := by decide +kernel
theorem dX3_goDownTheStreet_44 : decode cX3_goDownTheStreet 44 = .ok (.aaload, 1) := by decide +kernel
theorem dX3_goDownTheStreet_45 : decode cX3_goDownTheStreet 45 = .ok (.aload_n 0, 1) := by decide +kernel
theorem dX3_goDownTheStreet_46 : decode cX3_goDownTheStreet 46 = .ok (.getfield 54, 3) := by decide +kernel
theorem dX3_goDownTheStreet_49 : decode cX3_goDownTheStreet 49 = .ok (.aload_n 0, 1) := by decide +kernel
theorem dX3_goDownTheStreet_50 : decode cX3_goDownTheStreet 50 = .ok (.getfield 23, 3) := by decide +kernel
theorem dX3_goDownTheStreet_53 : decode cX3_goDownTheStreet 53 = .ok (.aload_n 0, 1) := by decide +kernel
theorem dX3_goDownTheStreet_54 : decode cX3_goDownTheStreet 54 = .ok (.getfield 11, 3) := by decide +kernel
theorem dX3_goDownTheStreet_57 : decode cX3_goDownTheStreet 57 = .ok (.iload_n 3, 1) := by decide +kernel
theorem dX3_goDownTheStreet_58 : decode cX3_goDownTheStreet 58 = .ok (.aaload, 1) := by decide +kernel
theorem dX3_goDownTheStreet_59 : decode cX3_goDownTheStreet 59 = .ok (.invokestatic 74, 3) := by decide +kernel
theorem dX3_goDownTheStreet_62 : decode cX3_goDownTheStreet 62 = .ok (.aload_n 0, 1) := by decide +kernel
theorem dX3_goDownTheStreet_63 : decode cX3_goDownTheStreet 63 = .ok (.iload_n 3, 1) := by decide +kernel
theorem dX3_goDownTheStreet_64 : decode cX3_goDownTheStreet 64 = .ok (.iload 4, 2) := by decide +kernel
theorem dX3_goDownTheStreet_66 : decode cX3_goDownTheStreet 66 = .ok (.invokevirtual 78, 3) := by decide +kernel
theorem dX3_goDownTheStreet_69 : decode cX3_goDownTheStreet 69 = .ok (.aload_n 0, 1) := by decide +kernel
theorem dX3_goDownTheStreet_70 : decode cX3_goDownTheStreet 70 = .ok (.iload_n 3, 1) := by decide +kernel
theorem dX3_goDownTheStreet_71 : decode cX3_goDownTheStreet 71 = .ok (.invokevirtual 82, 3) := by decide +kernel
theorem dX3_goDownTheStreet_74 : decode cX3_goDownTheStreet 74 = .ok (.ifCond .eq 4, 3) := by decide +kernel
theorem dX3_goDownTheStreet_77 : decode cX3_goDownTheStreet 77 = .ok (.return_, 1) := by decide +kernel
theorem dX3_goDownTheStreet_78 : decode cX3_goDownTheStreet 78 = .ok (.aload_n 1, 1) := by decide +kernel
theorem dX3_goDownTheStreet_79 : decode cX3_goDownTheStreet 79 = .ok (.iload 4, 2) := by decide +kernel
theorem dX3_goDownTheStreet_81 : decode cX3_goDownTheStreet 81 = .ok (.invokevirtual 86, 3) := by decide +kernel
theorem dX3_goDownTheStreet_84 : decode cX3_goDownTheStreet 84 = .ok (.istore 5, 2) := by decide +kernel
theorem dX3_goDownTheStreet_86 : decode cX3_goDownTheStreet 86 = .ok (.aload_n 1, 1) := by decide +kernel
theorem dX3_goDownTheStreet_87 : decode cX3_goDownTheStreet 87 = .ok (.iload 4, 2) := by decide +kernel
theorem dX3_goDownTheStreet_89 : decode cX3_goDownTheStreet 89 = .ok (.iload 5, 2) := by decide +kernel
theorem dX3_goDownTheStreet_91 : decode cX3_goDownTheStreet 91 = .ok (.aload_n 0, 1) := by decide +kernel
theorem dX3_goDownTheStreet_92 : decode cX3_goDownTheStreet 92 = .ok (.getfield 29, 3) := by decide +kernel
theorem dX3_goDownTheStreet_95 : decode cX3_goDownTheStreet 95 = .ok (.getfield 90, 3) := by decide +kernel
theorem dX3_goDownTheStreet_98 : decode cX3_goDownTheStreet 98 = .ok (.invokevirtual 93, 3) := by decide +kernel
theorem dX3_goDownTheStreet_101 : decode cX3_goDownTheStreet 101 = .ok (.ifCond .eq 48, 3) := by decide +kernel
theorem dX3_goDownTheStreet_104 : decode cX3_goDownTheStreet 104 = .ok (.aload_n 0, 1) := by decide +kernel
theorem dX3_goDownTheStreet_105 : decode cX3_goDownTheStreet 105 = .ok (.getfield 37, 3) := by decide +kernel
theorem dX3_goDownTheStreet_108 : decode cX3_goDownTheStreet 108 = .ok (.iconst (-1), 1) := by decide +kernel
theorem dX3_goDownTheStreet_109 : decode cX3_goDownTheStreet 109 = .ok (.if_icmp .ne 19, 3) := by decide +kernel
theorem dX3_goDownTheStreet_112 : decode cX3_goDownTheStreet 112 = .ok (.aload_n 0, 1) := by decide +kernel
theorem dX3_goDownTheStreet_113 : decode cX3_goDownTheStreet 113 = .ok (.iload_n 2, 1) := by decide +kernel
theorem dX3_goDownTheStreet_114 : decode cX3_goDownTheStreet 114 = .ok (.iload 5, 2) := by decide +kernel
theorem dX3_goDownTheStreet_116 : decode cX3_goDownTheStreet 116 = .ok (.invokevirtual 97, 3) := by decide +kernel
theorem dX3_goDownTheStreet_119 : decode cX3_goDownTheStreet 119 = .ok (.ifCond .eq 9, 3) := by decide +kernel
theorem dX3_goDownTheStreet_122 : decode cX3_goDownTheStreet 122 = .ok (.aload_n 0, 1) := by decide +kernel
theorem dX3_goDownTheStreet_123 : decode cX3_goDownTheStreet 123 = .ok (.iload 4, 2) := by decide +kernel
theorem dX3_goDownTheStreet_125 : decode cX3_goDownTheStreet 125 = .ok (.putfield 37, 3) := by decide +kernel
theorem dX3_goDownTheStreet_128 : decode cX3_goDownTheStreet 128 = .ok (.iload_n 2, 1) := by decide +kernel
theorem dX3_goDownTheStreet_129 : decode cX3_goDownTheStreet 129 = .ok (.iconst 1, 1) := by decide +kernel
theorem dX3_goDownTheStreet_130 : decode cX3_goDownTheStreet 130 = .ok (.iload 5, 2) := by decide +kernel
theorem dX3_goDownTheStreet_132 : decode cX3_goDownTheStreet 132 = .ok (.ishl, 1) := by decide +kernel
theorem dX3_goDownTheStreet_133 : decode cX3_goDownTheStreet 133 = .ok (.ior, 1) := by decide +kernel
theorem dX3_goDownTheStreet_134 : decode cX3_goDownTheStreet 134 = .ok (.istore_n 2, 1) := by decide +kernel
theorem dX3_goDownTheStreet_135 : decode cX3_goDownTheStreet 135 = .ok (.aload_n 0, 1) := by decide +kernel
theorem dX3_goDownTheStreet_136 : decode cX3_goDownTheStreet 136 = .ok (.iload_n 3, 1) := by decide +kernel
theorem dX3_goDownTheStreet_137 : decode cX3_goDownTheStreet 137 = .ok (.iload 5, 2) := by decide +kernel
theorem dX3_goDownTheStreet_139 : decode cX3_goDownTheStreet 139 = .ok (.aload_n 0, 1) := by decide +kernel
theorem dX3_goDownTheStreet_140 : decode cX3_goDownTheStreet 140 = .ok (.getfield 29, 3) := by decide +kernel
theorem dX3_goDownTheStreet_143 : decode cX3_goDownTheStreet 143 = .ok (.getfield 90, 3) := by decide +kernel
theorem dX3_goDownTheStreet_146 : decode cX3_goDownTheStreet 146 = .ok (.invokevirtual 101, 3) := by decide +kernel
theorem dX3_goDownTheStreet_149 : decode cX3_goDownTheStreet 149 = .ok (.iload 4, 2) := by decide +kernel
theorem dX3_goDownTheStreet_151 : decode cX3_goDownTheStreet 151 = .ok (.aload_n 0, 1) := by decide +kernel
theorem dX3_goDownTheStreet_152 : decode cX3_goDownTheStreet 152 = .ok (.getfield 41, 3) := by decide +kernel
theorem dX3_goDownTheStreet_155 : decode cX3_goDownTheStreet 155 = .ok (.if_icmp .ne 13, 3) := by decide +kernel
theorem dX3_goDownTheStreet_158 : decode cX3_goDownTheStreet 158 = .ok (.aload_n 0, 1) := by decide +kernel
theorem dX3_goDownTheStreet_159 : decode cX3_goDownTheStreet 159 = .ok (.iload_n 3, 1) := by decide +kernel
theorem dX3_goDownTheStreet_160 : decode cX3_goDownTheStreet 160 = .ok (.iconst 5, 1) := by decide +kernel
theorem dX3_goDownTheStreet_161 : decode cX3_goDownTheStreet 161 = .ok (.aload_n 0, 1) := by decide +kernel
theorem dX3_goDownTheStreet_162 : decode cX3_goDownTheStreet 162 = .ok (.getfield 51, 3) := by decide +kernel
theorem dX3_goDownTheStreet_165 : decode cX3_goDownTheStreet 165 = .ok (.invokevirtual 101, 3) := by decide +kernel
theorem dX3_goDownTheStreet_168 : decode cX3_goDownTheStreet 168 = .ok (.iinc 3 1, 3) := by decide +kernel
theorem dX3_goDownTheStreet_171 : decode cX3_goDownTheStreet 171 = .ok (.goto (-159), 3) := by decide +kernel
theorem dX3_goDownTheStreet_174 : decode cX3_goDownTheStreet 174 = .ok (.return_, 1) := by decide +kernel
theorem dX3_begin_0 : decode cX3_begin 0 = .ok (.aload_n 0, 1) := by decide +kernel
theorem dX3_begin_1 : decode cX3_begin 1 = .ok (.iload_n 1, 1) := by decide +kernel
theorem dX3_begin_2 : decode cX3_begin 2 = .ok (.putfield 105, 3) := by decide +kernel
theorem dX3_begin_5 : decode cX3_begin 5 = .ok (.aload_n 0, 1) := by decide +kernel
theorem dX3_begin_6 : decode cX3_begin 6 = .ok (.iconst (-1), 1) := by decide +kernel
theorem dX3_begin_7 : decode cX3_begin 7 = .ok (.putfield 37, 3) := by decide +kernel
theorem dX3_begin_10 : decode cX3_begin 10 = .ok (.aload_n 0, 1) := by decide +kernel
theorem dX3_begin_11 : decode cX3_begin 11 = .ok (.getfield 105, 3) := by decide +kernel
theorem dX3_begin_14 : decode cX3_begin 14 = .ok (.iconst 1, 1) := by decide +kernel
theorem dX3_begin_15 : decode cX3_begin 15 = .ok (.iadd, 1) := by decide +kernel
theorem dX3_begin_16 : decode cX3_begin 16 = .ok (.bipush 7, 2) := by decide +kernel
theorem dX3_begin_18 : decode cX3_begin 18 = .ok (.irem, 1) := by decide +kernel
theorem dX3_begin_19 : decode cX3_begin 19 = .ok (.ifCond .ne 7, 3) := by decide +kernel
theorem dX3_begin_22 : decode cX3_begin 22 = .ok (.iconst 2, 1) := by decide +kernel
theorem dX3_begin_23 : decode cX3_begin 23 = .ok (.goto 4, 3) := by decide +kernel
theorem dX3_begin_26 : decode cX3_begin 26 = .ok (.iconst 1, 1) := by decide +kernel
theorem dX3_begin_27 : decode cX3_begin 27 = .ok (.istore_n 2, 1) := by decide +kernel
theorem dX3_begin_28 : decode cX3_begin 28 = .ok (.iconst 0, 1) := by decide +kernel
theorem dX3_begin_29 : decode cX3_begin 29 = .ok (.istore_n 3, 1) := by decide +kernel
theorem dX3_begin_30 : decode cX3_begin 30 = .ok (.iload_n 3, 1) := by decide +kernel
theorem dX3_begin_31 : decode cX3_begin 31 = .ok (.iconst 5, 1) := by decide +kernel
theorem dX3_begin_32 : decode cX3_begin 32 = .ok (.if_icmp .ge 28, 3) := by decide +kernel
theorem dX3_begin_35 : decode cX3_begin 35 = .ok (.aload_n 0, 1) := by decide +kernel
theorem dX3_begin_36 : decode cX3_begin 36 = .ok (.getfield 11, 3) := by decide +kernel
theorem dX3_begin_39 : decode cX3_begin 39 = .ok (.iconst 0, 1) := by decide +kernel
theorem dX3_begin_40 : decode cX3_begin 40 = .ok (.aaload, 1) := by decide +kernel
theorem dX3_begin_41 : decode cX3_begin 41 = .ok (.iload_n 3, 1) := by decide +kernel
theorem dX3_begin_42 : decode cX3_begin 42 = .ok (.iload_n 2, 1) := by decide +kernel
theorem dX3_begin_43 : decode cX3_begin 43 = .ok (.aload_n 0, 1) := by decide +kernel
theorem dX3_begin_44 : decode cX3_begin 44 = .ok (.getfield 29, 3) := by decide +kernel
theorem dX3_begin_47 : decode cX3_begin 47 = .ok (.getfield 106, 3) := by decide +kernel
theorem dX3_begin_50 : decode cX3_begin 50 = .ok (.iload_n 3, 1) := by decide +kernel
theorem dX3_begin_51 : decode cX3_begin 51 = .ok (.iaload, 1) := by decide +kernel
theorem dX3_begin_52 : decode cX3_begin 52 = .ok (.imul, 1) := by decide +kernel
theorem dX3_begin_53 : decode cX3_begin 53 = .ok (.iastore, 1) := by decide +kernel
theorem dX3_begin_54 : decode cX3_begin 54 = .ok (.iinc 3 1, 3) := by decide +kernel
theorem dX3_begin_57 : decode cX3_begin 57 = .ok (.goto (-27), 3) := by decide +kernel
theorem dX3_begin_60 : decode cX3_begin 60 = .ok (.aload_n 0, 1) := by decide +kernel
theorem dX3_begin_61 : decode cX3_begin 61 = .ok (.getfield 11, 3) := by decide +kernel
theorem dX3_begin_64 : decode cX3_begin 64 = .ok (.iconst 0, 1) := by decide +kernel
theorem dX3_begin_65 : decode cX3_begin 65 = .ok (.aaload, 1) := by decide +kernel
theorem dX3_begin_66 : decode cX3_begin 66 = .ok (.iconst 5, 1) := by decide +kernel
theorem dX3_begin_67 : decode cX3_begin 67 = .ok (.iconst 0, 1) := by decide +kernel
theorem dX3_begin_68 : decode cX3_begin 68 = .ok (.iastore, 1) := by decide +kernel
theorem dX3_begin_69 : decode cX3_begin 69 = .ok (.return_, 1) := by decide +kernel
theorem dX3_isLast_0 : decode cX3_isLast 0 = .ok (.iload_n 1, 1) := by decide +kernel
theorem dX3_isLast_1 : decode cX3_isLast 1 = .ok (.aload_n 0, 1) := by decide +kernel
theorem dX3_isLast_2 : decode cX3_isLast 2 = .ok (.getfield 29, 3) := by decide +kernel
theorem dX3_isLast_5 : decode cX3_isLast 5 = .ok (.getfield 66, 3) := by decide +kernel
theorem dX3_isLast_8 : decode cX3_isLast 8 = .ok (.iconst 1, 1) := by decide +kernel
theorem dX3_isLast_9 : decode cX3_isLast 9 = .ok (.isub, 1) := by decide +kernel
theorem dX3_isLast_10 : decode cX3_isLast 10 = .ok (.if_icmp .lt 7, 3) := by decide +kernel
theorem dX3_isLast_13 : decode cX3_isLast 13 = .ok (.iconst 1, 1) := by decide +kernel
theorem dX3_isLast_14 : decode cX3_isLast 14 = .ok (.goto 4, 3) := by decide +kernel
theorem dX3_isLast_17 : decode cX3_isLast 17 = .ok (.iconst 0, 1) := by decide +kernel
theorem dX3_isLast_18 : decode cX3_isLast 18 = .ok (.ireturn, 1) := by decide +kernel
theorem dX3_breaksLaw_0 : decode cX3_breaksLaw 0 = .ok (.aload_n 0, 1) := by decide +kernel
theorem dX3_breaksLaw_1 : decode cX3_breaksLaw 1 = .ok (.getfield 29, 3) := by decide +kernel
theorem dX3_breaksLaw_4 : decode cX3_breaksLaw 4 = .ok (.getfield 108, 3) := by decide +kernel
theorem dX3_breaksLaw_7 : decode cX3_breaksLaw 7 = .ok (.iconst 1, 1) := by decide +kernel
theorem dX3_breaksLaw_8 : decode cX3_breaksLaw 8 = .ok (.if_icmp .ne 16, 3) := by decide +kernel
theorem dX3_breaksLaw_11 : decode cX3_breaksLaw 11 = .ok (.iload_n 1, 1) := by decide +kernel
theorem dX3_breaksLaw_12 : decode cX3_breaksLaw 12 = .ok (.iload_n 2, 1) := by decide +kernel
theorem dX3_breaksLaw_13 : decode cX3_breaksLaw 13 = .ok (.ishr, 1) := by decide +kernel
theorem dX3_breaksLaw_14 : decode cX3_breaksLaw 14 = .ok (.iconst 1, 1) := by decide +kernel
theorem dX3_breaksLaw_15 : decode cX3_breaksLaw 15 = .ok (.iand, 1) := by decide +kernel
theorem dX3_breaksLaw_16 : decode cX3_breaksLaw 16 = .ok (.iconst 1, 1) := by decide +kernel
theorem dX3_breaksLaw_17 : decode cX3_breaksLaw 17 = .ok (.if_icmp .ne 7, 3) := by decide +kernel
theorem dX3_breaksLaw_20 : decode cX3_breaksLaw 20 = .ok (.iconst 1, 1) := by decide +kernel
theorem dX3_breaksLaw_21 : decode cX3_breaksLaw 21 = .ok (.goto 4, 3) := by decide +kernel
theorem dX3_breaksLaw_24 : decode cX3_breaksLaw 24 = .ok (.iconst 0, 1) := by decide +kernel
theorem dX3_breaksLaw_25 : decode cX3_breaksLaw 25 = .ok (.ireturn, 1) := by decide +kernel
theorem dX3_serve_0 : decode cX3_serve 0 = .ok (.iload_n 1, 1) := by decide +kernel
theorem dX3_serve_1 : decode cX3_serve 1 = .ok (.ifCond .lt 19, 3) := by decide +kernel
theorem dX3_serve_4 : decode cX3_serve 4 = .ok (.iload_n 1, 1) := by decide +kernel
theorem dX3_serve_5 : decode cX3_serve 5 = .ok (.bipush 6, 2) := by decide +kernel
theorem dX3_serve_7 : decode cX3_serve 7 = .ok (.if_icmp .ge 13, 3) := by decide +kernel
theorem dX3_serve_10 : decode cX3_serve 10 = .ok (.iload_n 2, 1) := by decide +kernel
theorem dX3_serve_11 : decode cX3_serve 11 = .ok (.ifCond .lt 9, 3) := by decide +kernel
theorem dX3_serve_14 : decode cX3_serve 14 = .ok (.iload_n 2, 1) := by decide +kernel
theorem dX3_serve_15 : decode cX3_serve 15 = .ok (.bipush 6, 2) := by decide +kernel
theorem dX3_serve_17 : decode cX3_serve 17 = .ok (.if_icmp .lt 4, 3) := by decide +kernel
theorem dX3_serve_20 : decode cX3_serve 20 = .ok (.return_, 1) := by decide +kernel
theorem dX3_serve_21 : decode cX3_serve 21 = .ok (.aload_n 0, 1) := by decide +kernel
theorem dX3_serve_22 : decode cX3_serve 22 = .ok (.getfield 19, 3) := by decide +kernel
theorem dX3_serve_25 : decode cX3_serve 25 = .ok (.iload_n 2, 1) := by decide +kernel
theorem dX3_serve_26 : decode cX3_serve 26 = .ok (.iload_n 1, 1) := by decide +kernel
theorem dX3_serve_27 : decode cX3_serve 27 = .ok (.iastore, 1) := by decide +kernel
theorem dX3_serve_28 : decode cX3_serve 28 = .ok (.aload_n 0, 1) := by decide +kernel
theorem dX3_serve_29 : decode cX3_serve 29 = .ok (.iload_n 1, 1) := by decide +kernel
theorem dX3_serve_30 : decode cX3_serve 30 = .ok (.invokevirtual 82, 3) := by decide +kernel
theorem dX3_serve_33 : decode cX3_serve 33 = .ok (.ifCond .eq 8, 3) := by decide +kernel
theorem dX3_serve_36 : decode cX3_serve 36 = .ok (.ldc 111, 2) := by decide +kernel
theorem dX3_serve_38 : decode cX3_serve 38 = .ok (.goto 12, 3) := by decide +kernel
theorem dX3_serve_41 : decode cX3_serve 41 = .ok (.aload_n 0, 1) := by decide +kernel
theorem dX3_serve_42 : decode cX3_serve 42 = .ok (.getfield 29, 3) := by decide +kernel
theorem dX3_serve_45 : decode cX3_serve 45 = .ok (.getfield 112, 3) := by decide +kernel
theorem dX3_serve_48 : decode cX3_serve 48 = .ok (.iload_n 2, 1) := by decide +kernel
theorem dX3_serve_49 : decode cX3_serve 49 = .ok (.iaload, 1) := by decide +kernel
theorem dX3_serve_50 : decode cX3_serve 50 = .ok (.istore_n 3, 1) := by decide +kernel
theorem dX3_serve_51 : decode cX3_serve 51 = .ok (.aload_n 0, 1) := by decide +kernel
theorem dX3_serve_52 : decode cX3_serve 52 = .ok (.getfield 11, 3) := by decide +kernel
theorem dX3_serve_55 : decode cX3_serve 55 = .ok (.iload_n 1, 1) := by decide +kernel
theorem dX3_serve_56 : decode cX3_serve 56 = .ok (.aaload, 1) := by decide +kernel
theorem dX3_serve_57 : decode cX3_serve 57 = .ok (.iload_n 3, 1) := by decide +kernel
theorem dX3_serve_58 : decode cX3_serve 58 = .ok (.aload_n 0, 1) := by decide +kernel
theorem dX3_serve_59 : decode cX3_serve 59 = .ok (.getfield 16, 3) := by decide +kernel
theorem dX3_serve_62 : decode cX3_serve 62 = .ok (.iload_n 2, 1) := by decide +kernel
theorem dX3_serve_63 : decode cX3_serve 63 = .ok (.aaload, 1) := by decide +kernel
theorem dX3_serve_64 : decode cX3_serve 64 = .ok (.aload_n 0, 1) := by decide +kernel
theorem dX3_serve_65 : decode cX3_serve 65 = .ok (.getfield 11, 3) := by decide +kernel
theorem dX3_serve_68 : decode cX3_serve 68 = .ok (.iload_n 1, 1) := by decide +kernel
theorem dX3_serve_69 : decode cX3_serve 69 = .ok (.iconst 1, 1) := by decide +kernel
theorem dX3_serve_70 : decode cX3_serve 70 = .ok (.iadd, 1) := by decide +kernel
theorem dX3_serve_71 : decode cX3_serve 71 = .ok (.aaload, 1) := by decide +kernel
theorem dX3_serve_72 : decode cX3_serve 72 = .ok (.invokestatic 74, 3) := by decide +kernel
theorem dX3_serve_75 : decode cX3_serve 75 = .ok (.return_, 1) := by decide +kernel
theorem dX3_scoop_0 : decode cX3_scoop 0 = .ok (.iconst 0, 1) := by decide +kernel
theorem dX3_scoop_1 : decode cX3_scoop 1 = .ok (.istore 4, 2) := by decide +kernel
theorem dX3_scoop_3 : decode cX3_scoop 3 = .ok (.iconst 0, 1) := by decide +kernel
theorem dX3_scoop_4 : decode cX3_scoop 4 = .ok (.istore 5, 2) := by decide +kernel
theorem dX3_scoop_6 : decode cX3_scoop 6 = .ok (.iload 5, 2) := by decide +kernel
theorem dX3_scoop_8 : decode cX3_scoop 8 = .ok (.bipush 6, 2) := by decide +kernel
theorem dX3_scoop_10 : decode cX3_scoop 10 = .ok (.if_icmp .ge 18, 3) := by decide +kernel
theorem dX3_scoop_13 : decode cX3_scoop 13 = .ok (.iload 4, 2) := by decide +kernel
theorem dX3_scoop_15 : decode cX3_scoop 15 = .ok (.aload_n 0, 1) := by decide +kernel
theorem dX3_scoop_16 : decode cX3_scoop 16 = .ok (.iload 5, 2) := by decide +kernel
theorem dX3_scoop_18 : decode cX3_scoop 18 = .ok (.iaload, 1) := by decide +kernel
theorem dX3_scoop_19 : decode cX3_scoop 19 = .ok (.iadd, 1) := by decide +kernel
theorem dX3_scoop_20 : decode cX3_scoop 20 = .ok (.istore 4, 2) := by decide +kernel
theorem dX3_scoop_22 : decode cX3_scoop 22 = .ok (.iinc 5 1, 3) := by decide +kernel
theorem dX3_scoop_25 : decode cX3_scoop 25 = .ok (.goto (-19), 3) := by decide +kernel
theorem dX3_scoop_28 : decode cX3_scoop 28 = .ok (.iload 4, 2) := by decide +kernel
theorem dX3_scoop_30 : decode cX3_scoop 30 = .ok (.iconst 1, 1) := by decide +kernel
theorem dX3_scoop_31 : decode cX3_scoop 31 = .ok (.if_icmp .lt 9, 3) := by decide +kernel
theorem dX3_scoop_34 : decode cX3_scoop 34 = .ok (.iload 4, 2) := by decide +kernel
theorem dX3_scoop_36 : decode cX3_scoop 36 = .ok (.iload_n 1, 1) := by decide +kernel
theorem dX3_scoop_37 : decode cX3_scoop 37 = .ok (.if_icmp .gt 7, 3) := by decide +kernel
theorem dX3_scoop_40 : decode cX3_scoop 40 = .ok (.iconst 1, 1) := by decide +kernel
theorem dX3_scoop_41 : decode cX3_scoop 41 = .ok (.goto 4, 3) := by decide +kernel
theorem dX3_scoop_44 : decode cX3_scoop 44 = .ok (.iconst 0, 1) := by decide +kernel
theorem dX3_scoop_45 : decode cX3_scoop 45 = .ok (.istore 5, 2) := by decide +kernel
theorem dX3_scoop_47 : decode cX3_scoop 47 = .ok (.iconst 0, 1) := by decide +kernel
theorem dX3_scoop_48 : decode cX3_scoop 48 = .ok (.istore 6, 2) := by decide +kernel
theorem dX3_scoop_50 : decode cX3_scoop 50 = .ok (.iload 6, 2) := by decide +kernel
theorem dX3_scoop_52 : decode cX3_scoop 52 = .ok (.bipush 6, 2) := by decide +kernel
theorem dX3_scoop_54 : decode cX3_scoop 54 = .ok (.if_icmp .ge 47, 3) := by decide +kernel
theorem dX3_scoop_57 : decode cX3_scoop 57 = .ok (.aload_n 2, 1) := by decide +kernel
theorem dX3_scoop_58 : decode cX3_scoop 58 = .ok (.iload 6, 2) := by decide +kernel
theorem dX3_scoop_60 : decode cX3_scoop 60 = .ok (.iload 5, 2) := by decide +kernel
theorem dX3_scoop_62 : decode cX3_scoop 62 = .ok (.ifCond .eq 10, 3) := by decide +kernel
theorem dX3_scoop_65 : decode cX3_scoop 65 = .ok (.aload_n 0, 1) := by decide +kernel
theorem dX3_scoop_66 : decode cX3_scoop 66 = .ok (.iload 6, 2) := by decide +kernel
theorem dX3_scoop_68 : decode cX3_scoop 68 = .ok (.iaload, 1) := by decide +kernel
theorem dX3_scoop_69 : decode cX3_scoop 69 = .ok (.goto 12, 3) := by decide +kernel
theorem dX3_scoop_72 : decode cX3_scoop 72 = .ok (.aload_n 0, 1) := by decide +kernel
theorem dX3_scoop_73 : decode cX3_scoop 73 = .ok (.iload 6, 2) := by decide +kernel
theorem dX3_scoop_75 : decode cX3_scoop 75 = .ok (.iaload, 1) := by decide +kernel
theorem dX3_scoop_76 : decode cX3_scoop 76 = .ok (.iload_n 1, 1) := by decide +kernel
theorem dX3_scoop_77 : decode cX3_scoop 77 = .ok (.imul, 1) := by decide +kernel
theorem dX3_scoop_78 : decode cX3_scoop 78 = .ok (.iload 4, 2) := by decide +kernel
theorem dX3_scoop_80 : decode cX3_scoop 80 = .ok (.idiv, 1) := by decide +kernel
theorem dX3_scoop_81 : decode cX3_scoop 81 = .ok (.iastore, 1) := by decide +kernel
theorem dX3_scoop_82 : decode cX3_scoop 82 = .ok (.aload_n 3, 1) := by decide +kernel
theorem dX3_scoop_83 : decode cX3_scoop 83 = .ok (.iload 6, 2) := by decide +kernel
theorem dX3_scoop_85 : decode cX3_scoop 85 = .ok (.aload_n 0, 1) := by decide +kernel
theorem dX3_scoop_86 : decode cX3_scoop 86 = .ok (.iload 6, 2) := by decide +kernel
theorem dX3_scoop_88 : decode cX3_scoop 88 = .ok (.iaload, 1) := by decide +kernel
theorem dX3_scoop_89 : decode cX3_scoop 89 = .ok (.aload_n 2, 1) := by decide +kernel
theorem dX3_scoop_90 : decode cX3_scoop 90 = .ok (.iload 6, 2) := by decide +kernel
theorem dX3_scoop_92 : decode cX3_scoop 92 = .ok (.iaload, 1) := by decide +kernel
theorem dX3_scoop_93 : decode cX3_scoop 93 = .ok (.isub, 1) := by decide +kernel
theorem dX3_scoop_94 : decode cX3_scoop 94 = .ok (.iastore, 1) := by decide +kernel
theorem dX3_scoop_95 : decode cX3_scoop 95 = .ok (.iinc 6 1, 3) := by decide +kernel
theorem dX3_scoop_98 : decode cX3_scoop 98 = .ok (.goto (-48), 3) := by decide +kernel
theorem dX3_scoop_101 : decode cX3_scoop 101 = .ok (.return_, 1) := by decide +kernel
theorem dX3_pour_0 : decode cX3_pour 0 = .ok (.iload_n 1, 1) := by decide +kernel
theorem dX3_pour_1 : decode cX3_pour 1 = .ok (.ifCond .lt 33, 3) := by decide +kernel
theorem dX3_pour_4 : decode cX3_pour 4 = .ok (.iload_n 1, 1) := by decide +kernel
theorem dX3_pour_5 : decode cX3_pour 5 = .ok (.bipush 6, 2) := by decide +kernel
theorem dX3_pour_7 : decode cX3_pour 7 = .ok (.if_icmp .ge 27, 3) := by decide +kernel
theorem dX3_pour_10 : decode cX3_pour 10 = .ok (.iload_n 2, 1) := by decide +kernel
theorem dX3_pour_11 : decode cX3_pour 11 = .ok (.ifCond .lt 23, 3) := by decide +kernel
theorem dX3_pour_14 : decode cX3_pour 14 = .ok (.iload_n 2, 1) := by decide +kernel
theorem dX3_pour_15 : decode cX3_pour 15 = .ok (.bipush 6, 2) := by decide +kernel
theorem dX3_pour_17 : decode cX3_pour 17 = .ok (.if_icmp .ge 17, 3) := by decide +kernel
theorem dX3_pour_20 : decode cX3_pour 20 = .ok (.aload_n 0, 1) := by decide +kernel
theorem dX3_pour_21 : decode cX3_pour 21 = .ok (.getfield 11, 3) := by decide +kernel
theorem dX3_pour_24 : decode cX3_pour 24 = .ok (.iload_n 1, 1) := by decide +kernel
theorem dX3_pour_25 : decode cX3_pour 25 = .ok (.iconst 1, 1) := by decide +kernel
theorem dX3_pour_26 : decode cX3_pour 26 = .ok (.iadd, 1) := by decide +kernel
theorem dX3_pour_27 : decode cX3_pour 27 = .ok (.aaload, 1) := by decide +kernel
theorem dX3_pour_28 : decode cX3_pour 28 = .ok (.iload_n 2, 1) := by decide +kernel
theorem dX3_pour_29 : decode cX3_pour 29 = .ok (.dup2, 1) := by decide +kernel
theorem dX3_pour_30 : decode cX3_pour 30 = .ok (.iaload, 1) := by decide +kernel
theorem dX3_pour_31 : decode cX3_pour 31 = .ok (.iload_n 3, 1) := by decide +kernel
theorem dX3_pour_32 : decode cX3_pour 32 = .ok (.iadd, 1) := by decide +kernel
theorem dX3_pour_33 : decode cX3_pour 33 = .ok (.iastore, 1) := by decide +kernel
theorem dX3_pour_34 : decode cX3_pour 34 = .ok (.return_, 1) := by decide +kernel
theorem dX3_got_0 : decode cX3_got 0 = .ok (.iload_n 1, 1) := by decide +kernel
theorem dX3_got_1 : decode cX3_got 1 = .ok (.ifCond .lt 23, 3) := by decide +kernel
theorem dX3_got_4 : decode cX3_got 4 = .ok (.iload_n 1, 1) := by decide +kernel
theorem dX3_got_5 : decode cX3_got 5 = .ok (.bipush 6, 2) := by decide +kernel
theorem dX3_got_7 : decode cX3_got 7 = .ok (.if_icmp .ge 17, 3) := by decide +kernel
theorem dX3_got_10 : decode cX3_got 10 = .ok (.iload_n 2, 1) := by decide +kernel
theorem dX3_got_11 : decode cX3_got 11 = .ok (.ifCond .lt 13, 3) := by decide +kernel
theorem dX3_got_14 : decode cX3_got 14 = .ok (.iload_n 2, 1) := by decide +kernel
theorem dX3_got_15 : decode cX3_got 15 = .ok (.bipush 6, 2) := by decide +kernel
theorem dX3_got_17 : decode cX3_got 17 = .ok (.if_icmp .ge 7, 3) := by decide +kernel
theorem dX3_got_20 : decode cX3_got 20 = .ok (.iconst 1, 1) := by decide +kernel
theorem dX3_got_21 : decode cX3_got 21 = .ok (.goto 4, 3) := by decide +kernel
theorem dX3_got_24 : decode cX3_got 24 = .ok (.iconst 0, 1) := by decide +kernel
theorem dX3_got_25 : decode cX3_got 25 = .ok (.istore_n 3, 1) := by decide +kernel
theorem dX3_got_26 : decode cX3_got 26 = .ok (.iload_n 3, 1) := by decide +kernel
theorem dX3_got_27 : decode cX3_got 27 = .ok (.ifCond .eq 14, 3) := by decide +kernel
theorem dX3_got_30 : decode cX3_got 30 = .ok (.aload_n 0, 1) := by decide +kernel
theorem dX3_got_31 : decode cX3_got 31 = .ok (.getfield 16, 3) := by decide +kernel
theorem dX3_got_34 : decode cX3_got 34 = .ok (.iload_n 1, 1) := by decide +kernel
theorem dX3_got_35 : decode cX3_got 35 = .ok (.aaload, 1) := by decide +kernel
theorem dX3_got_36 : decode cX3_got 36 = .ok (.iload_n 2, 1) := by decide +kernel
theorem dX3_got_37 : decode cX3_got 37 = .ok (.iaload, 1) := by decide +kernel
theorem dX3_got_38 : decode cX3_got 38 = .ok (.goto 4, 3) := by decide +kernel
theorem dX3_got_41 : decode cX3_got 41 = .ok (.iconst 0, 1) := by decide +kernel
theorem dX3_got_42 : decode cX3_got 42 = .ok (.ireturn, 1) := by decide +kernel
theorem dX3_heatOf_0 : decode cX3_heatOf 0 = .ok (.iload_n 1, 1) := by decide +kernel
theorem dX3_heatOf_1 : decode cX3_heatOf 1 = .ok (.ifCond .lt 13, 3) := by decide +kernel
theorem dX3_heatOf_4 : decode cX3_heatOf 4 = .ok (.iload_n 1, 1) := by decide +kernel
theorem dX3_heatOf_5 : decode cX3_heatOf 5 = .ok (.bipush 6, 2) := by decide +kernel
theorem dX3_heatOf_7 : decode cX3_heatOf 7 = .ok (.if_icmp .ge 7, 3) := by decide +kernel
theorem dX3_heatOf_10 : decode cX3_heatOf 10 = .ok (.iconst 1, 1) := by decide +kernel
theorem dX3_heatOf_11 : decode cX3_heatOf 11 = .ok (.goto 4, 3) := by decide +kernel
theorem dX3_heatOf_14 : decode cX3_heatOf 14 = .ok (.iconst 0, 1) := by decide +kernel
theorem dX3_heatOf_15 : decode cX3_heatOf 15 = .ok (.istore_n 2, 1) := by decide +kernel
theorem dX3_heatOf_16 : decode cX3_heatOf 16 = .ok (.iload_n 2, 1) := by decide +kernel
theorem dX3_heatOf_17 : decode cX3_heatOf 17 = .ok (.ifCond .eq 27, 3) := by decide +kernel
theorem dX3_heatOf_20 : decode cX3_heatOf 20 = .ok (.iconst 0, 1) := by decide +kernel
theorem dX3_heatOf_21 : decode cX3_heatOf 21 = .ok (.bipush 100, 2) := by decide +kernel
theorem dX3_heatOf_23 : decode cX3_heatOf 23 = .ok (.aload_n 0, 1) := by decide +kernel
theorem dX3_heatOf_24 : decode cX3_heatOf 24 = .ok (.getfield 29, 3) := by decide +kernel
theorem dX3_heatOf_27 : decode cX3_heatOf 27 = .ok (.getfield 115, 3) := by decide +kernel
theorem dX3_heatOf_30 : decode cX3_heatOf 30 = .ok (.aload_n 0, 1) := by decide +kernel
theorem dX3_heatOf_31 : decode cX3_heatOf 31 = .ok (.getfield 19, 3) := by decide +kernel
theorem dX3_heatOf_34 : decode cX3_heatOf 34 = .ok (.iload_n 1, 1) := by decide +kernel
theorem dX3_heatOf_35 : decode cX3_heatOf 35 = .ok (.iaload, 1) := by decide +kernel
theorem dX3_heatOf_36 : decode cX3_heatOf 36 = .ok (.imul, 1) := by decide +kernel
theorem dX3_heatOf_37 : decode cX3_heatOf 37 = .ok (.isub, 1) := by decide +kernel
theorem dX3_heatOf_38 : decode cX3_heatOf 38 = .ok (.invokestatic 118, 3) := by decide +kernel
theorem dX3_heatOf_41 : decode cX3_heatOf 41 = .ok (.goto 4, 3) := by decide +kernel
theorem dX3_heatOf_44 : decode cX3_heatOf 44 = .ok (.iconst 0, 1) := by decide +kernel
theorem dX3_heatOf_45 : decode cX3_heatOf 45 = .ok (.ireturn, 1) := by decide +kernel
theorem dX3_grainsOf_0 : decode cX3_grainsOf 0 = .ok (.iconst 0, 1) := by decide +kernel
theorem dX3_grainsOf_1 : decode cX3_grainsOf 1 = .ok (.istore_n 2, 1) := by decide +kernel
theorem dX3_grainsOf_2 : decode cX3_grainsOf 2 = .ok (.iconst 0, 1) := by decide +kernel
theorem dX3_grainsOf_3 : decode cX3_grainsOf 3 = .ok (.istore_n 3, 1) := by decide +kernel
theorem dX3_grainsOf_4 : decode cX3_grainsOf 4 = .ok (.iload_n 3, 1) := by decide +kernel
theorem dX3_grainsOf_5 : decode cX3_grainsOf 5 = .ok (.iconst 5, 1) := by decide +kernel
theorem dX3_grainsOf_6 : decode cX3_grainsOf 6 = .ok (.if_icmp .ge 18, 3) := by decide +kernel
theorem dX3_grainsOf_9 : decode cX3_grainsOf 9 = .ok (.iload_n 2, 1) := by decide +kernel
theorem dX3_grainsOf_10 : decode cX3_grainsOf 10 = .ok (.aload_n 0, 1) := by decide +kernel
theorem dX3_grainsOf_11 : decode cX3_grainsOf 11 = .ok (.iload_n 1, 1) := by decide +kernel
theorem dX3_grainsOf_12 : decode cX3_grainsOf 12 = .ok (.iload_n 3, 1) := by decide +kernel
theorem dX3_grainsOf_13 : decode cX3_grainsOf 13 = .ok (.invokevirtual 124, 3) := by decide +kernel
theorem dX3_grainsOf_16 : decode cX3_grainsOf 16 = .ok (.iadd, 1) := by decide +kernel
theorem dX3_grainsOf_17 : decode cX3_grainsOf 17 = .ok (.istore_n 2, 1) := by decide +kernel
theorem dX3_grainsOf_18 : decode cX3_grainsOf 18 = .ok (.iinc 3 1, 3) := by decide +kernel
theorem dX3_grainsOf_21 : decode cX3_grainsOf 21 = .ok (.goto (-17), 3) := by decide +kernel
theorem dX3_grainsOf_24 : decode cX3_grainsOf 24 = .ok (.iload_n 2, 1) := by decide +kernel
theorem dX3_grainsOf_25 : decode cX3_grainsOf 25 = .ok (.ireturn, 1) := by decide +kernel
theorem dX3_mealOf_0 : decode cX3_mealOf 0 = .ok (.iload_n 1, 1) := by decide +kernel
theorem dX3_mealOf_1 : decode cX3_mealOf 1 = .ok (.ifCond .lt 9, 3) := by decide +kernel
theorem dX3_mealOf_4 : decode cX3_mealOf 4 = .ok (.iload_n 1, 1) := by decide +kernel
theorem dX3_mealOf_5 : decode cX3_mealOf 5 = .ok (.bipush 6, 2) := by decide +kernel
theorem dX3_mealOf_7 : decode cX3_mealOf 7 = .ok (.if_icmp .lt 5, 3) := by decide +kernel
theorem dX3_mealOf_10 : decode cX3_mealOf 10 = .ok (.iconst 0, 1) := by decide +kernel
theorem dX3_mealOf_11 : decode cX3_mealOf 11 = .ok (.ireturn, 1) := by decide +kernel
theorem dX3_mealOf_12 : decode cX3_mealOf 12 = .ok (.aload_n 0, 1) := by decide +kernel
theorem dX3_mealOf_13 : decode cX3_mealOf 13 = .ok (.iload_n 1, 1) := by decide +kernel
theorem dX3_mealOf_14 : decode cX3_mealOf 14 = .ok (.aload_n 0, 1) := by decide +kernel
theorem dX3_mealOf_15 : decode cX3_mealOf 15 = .ok (.getfield 29, 3) := by decide +kernel
theorem dX3_mealOf_18 : decode cX3_mealOf 18 = .ok (.getfield 127, 3) := by decide +kernel
theorem dX3_mealOf_21 : decode cX3_mealOf 21 = .ok (.iload_n 1, 1) := by decide +kernel
theorem dX3_mealOf_22 : decode cX3_mealOf 22 = .ok (.iaload, 1) := by decide +kernel
theorem dX3_mealOf_23 : decode cX3_mealOf 23 = .ok (.invokevirtual 124, 3) := by decide +kernel
theorem dX3_mealOf_26 : decode cX3_mealOf 26 = .ok (.istore_n 2, 1) := by decide +kernel
theorem dX3_mealOf_27 : decode cX3_mealOf 27 = .ok (.aload_n 0, 1) := by decide +kernel
theorem dX3_mealOf_28 : decode cX3_mealOf 28 = .ok (.getfield 29, 3) := by decide +kernel
theorem dX3_mealOf_31 : decode cX3_mealOf 31 = .ok (.getfield 130, 3) := by decide +kernel
theorem dX3_mealOf_34 : decode cX3_mealOf 34 = .ok (.iload_n 1, 1) := by decide +kernel
theorem dX3_mealOf_35 : decode cX3_mealOf 35 = .ok (.iaload, 1) := by decide +kernel
theorem dX3_mealOf_36 : decode cX3_mealOf 36 = .ok (.invokestatic 133, 3) := by decide +kernel
theorem dX3_mealOf_39 : decode cX3_mealOf 39 = .ok (.ifCond .eq 20, 3) := by decide +kernel
theorem dX3_mealOf_42 : decode cX3_mealOf 42 = .ok (.aload_n 0, 1) := by decide +kernel
theorem dX3_mealOf_43 : decode cX3_mealOf 43 = .ok (.iload_n 1, 1) := by decide +kernel
theorem dX3_mealOf_44 : decode cX3_mealOf 44 = .ok (.aload_n 0, 1) := by decide +kernel
theorem dX3_mealOf_45 : decode cX3_mealOf 45 = .ok (.getfield 29, 3) := by decide +kernel
theorem dX3_mealOf_48 : decode cX3_mealOf 48 = .ok (.getfield 130, 3) := by decide +kernel
theorem dX3_mealOf_51 : decode cX3_mealOf 51 = .ok (.iload_n 1, 1) := by decide +kernel
theorem dX3_mealOf_52 : decode cX3_mealOf 52 = .ok (.iaload, 1) := by decide +kernel
theorem dX3_mealOf_53 : decode cX3_mealOf 53 = .ok (.invokevirtual 124, 3) := by decide +kernel
theorem dX3_mealOf_56 : decode cX3_mealOf 56 = .ok (.goto 4, 3) := by decide +kernel
theorem dX3_mealOf_59 : decode cX3_mealOf 59 = .ok (.iconst 0, 1) := by decide +kernel
theorem dX3_mealOf_60 : decode cX3_mealOf 60 = .ok (.istore_n 3, 1) := by decide +kernel
theorem dX3_mealOf_61 : decode cX3_mealOf 61 = .ok (.aload_n 0, 1) := by decide +kernel
theorem dX3_mealOf_62 : decode cX3_mealOf 62 = .ok (.iload_n 1, 1) := by decide +kernel
theorem dX3_mealOf_63 : decode cX3_mealOf 63 = .ok (.invokevirtual 136, 3) := by decide +kernel
theorem dX3_mealOf_66 : decode cX3_mealOf 66 = .ok (.istore 4, 2) := by decide +kernel
theorem dX3_mealOf_68 : decode cX3_mealOf 68 = .ok (.aload_n 0, 1) := by decide +kernel
theorem dX3_mealOf_69 : decode cX3_mealOf 69 = .ok (.getfield 33, 3) := by decide +kernel
theorem dX3_mealOf_72 : decode cX3_mealOf 72 = .ok (.ifnonnull 12, 3) := by decide +kernel
theorem dX3_mealOf_75 : decode cX3_mealOf 75 = .ok (.iload 4, 2) := by decide +kernel
theorem dX3_mealOf_77 : decode cX3_mealOf 77 = .ok (.iload_n 2, 1) := by decide +kernel
theorem dX3_mealOf_78 : decode cX3_mealOf 78 = .ok (.iadd, 1) := by decide +kernel
theorem dX3_mealOf_79 : decode cX3_mealOf 79 = .ok (.iconst 3, 1) := by decide +kernel
theorem dX3_mealOf_80 : decode cX3_mealOf 80 = .ok (.iload_n 3, 1) := by decide +kernel
theorem dX3_mealOf_81 : decode cX3_mealOf 81 = .ok (.imul, 1) := by decide +kernel
theorem dX3_mealOf_82 : decode cX3_mealOf 82 = .ok (.isub, 1) := by decide +kernel
theorem dX3_mealOf_83 : decode cX3_mealOf 83 = .ok (.ireturn, 1) := by decide +kernel
theorem dX3_mealOf_84 : decode cX3_mealOf 84 = .ok (.aload_n 0, 1) := by decide +kernel
theorem dX3_mealOf_85 : decode cX3_mealOf 85 = .ok (.getfield 26, 3) := by decide +kernel
theorem dX3_mealOf_88 : decode cX3_mealOf 88 = .ok (.iconst 0, 1) := by decide +kernel
theorem dX3_mealOf_89 : decode cX3_mealOf 89 = .ok (.iload_n 2, 1) := by decide +kernel
theorem dX3_mealOf_90 : decode cX3_mealOf 90 = .ok (.iastore, 1) := by decide +kernel
theorem dX3_mealOf_91 : decode cX3_mealOf 91 = .ok (.aload_n 0, 1) := by decide +kernel
theorem dX3_mealOf_92 : decode cX3_mealOf 92 = .ok (.getfield 26, 3) := by decide +kernel
theorem dX3_mealOf_95 : decode cX3_mealOf 95 = .ok (.iconst 1, 1) := by decide +kernel
theorem dX3_mealOf_96 : decode cX3_mealOf 96 = .ok (.iload_n 3, 1) := by decide +kernel
theorem dX3_mealOf_97 : decode cX3_mealOf 97 = .ok (.iastore, 1) := by decide +kernel
theorem dX3_mealOf_98 : decode cX3_mealOf 98 = .ok (.aload_n 0, 1) := by decide +kernel
theorem dX3_mealOf_99 : decode cX3_mealOf 99 = .ok (.getfield 26, 3) := by decide +kernel
theorem dX3_mealOf_102 : decode cX3_mealOf 102 = .ok (.iconst 2, 1) := by decide +kernel
theorem dX3_mealOf_103 : decode cX3_mealOf 103 = .ok (.iload 4, 2) := by decide +kernel
theorem dX3_mealOf_105 : decode cX3_mealOf 105 = .ok (.iastore, 1) := by decide +kernel
theorem dX3_mealOf_106 : decode cX3_mealOf 106 = .ok (.aload_n 0, 1) := by decide +kernel
theorem dX3_mealOf_107 : decode cX3_mealOf 107 = .ok (.getfield 26, 3) := by decide +kernel
theorem dX3_mealOf_110 : decode cX3_mealOf 110 = .ok (.iconst 3, 1) := by decide +kernel
theorem dX3_mealOf_111 : decode cX3_mealOf 111 = .ok (.aload_n 0, 1) := by decide +kernel
theorem dX3_mealOf_112 : decode cX3_mealOf 112 = .ok (.iload_n 1, 1) := by decide +kernel
theorem dX3_mealOf_113 : decode cX3_mealOf 113 = .ok (.invokevirtual 139, 3) := by decide +kernel
theorem dX3_mealOf_116 : decode cX3_mealOf 116 = .ok (.iastore, 1) := by decide +kernel
theorem dX3_mealOf_117 : decode cX3_mealOf 117 = .ok (.aload_n 0, 1) := by decide +kernel
theorem dX3_mealOf_118 : decode cX3_mealOf 118 = .ok (.getfield 26, 3) := by decide +kernel
theorem dX3_mealOf_121 : decode cX3_mealOf 121 = .ok (.iconst 4, 1) := by decide +kernel
theorem dX3_mealOf_122 : decode cX3_mealOf 122 = .ok (.aload_n 0, 1) := by decide +kernel
theorem dX3_mealOf_123 : decode cX3_mealOf 123 = .ok (.getfield 19, 3) := by decide +kernel
theorem dX3_mealOf_126 : decode cX3_mealOf 126 = .ok (.iload_n 1, 1) := by decide +kernel
theorem dX3_mealOf_127 : decode cX3_mealOf 127 = .ok (.iaload, 1) := by decide +kernel
theorem dX3_mealOf_128 : decode cX3_mealOf 128 = .ok (.iastore, 1) := by decide +kernel
theorem dX3_mealOf_129 : decode cX3_mealOf 129 = .ok (.aload_n 0, 1) := by decide +kernel
theorem dX3_mealOf_130 : decode cX3_mealOf 130 = .ok (.getfield 26, 3) := by decide +kernel
theorem dX3_mealOf_133 : decode cX3_mealOf 133 = .ok (.iconst 5, 1) := by decide +kernel
theorem dX3_mealOf_134 : decode cX3_mealOf 134 = .ok (.aload_n 0, 1) := by decide +kernel
theorem dX3_mealOf_135 : decode cX3_mealOf 135 = .ok (.getfield 105, 3) := by decide +kernel
theorem dX3_mealOf_138 : decode cX3_mealOf 138 = .ok (.iastore, 1) := by decide +kernel
theorem dX3_mealOf_139 : decode cX3_mealOf 139 = .ok (.aload_n 0, 1) := by decide +kernel
theorem dX3_mealOf_140 : decode cX3_mealOf 140 = .ok (.getfield 33, 3) := by decide +kernel
theorem dX3_mealOf_143 : decode cX3_mealOf 143 = .ok (.aload_n 0, 1) := by decide +kernel
theorem dX3_mealOf_144 : decode cX3_mealOf 144 = .ok (.getfield 26, 3) := by decide +kernel
theorem dX3_mealOf_147 : decode cX3_mealOf 147 = .ok (.invokevirtual 142, 3) := by decide +kernel
theorem dX3_mealOf_150 : decode cX3_mealOf 150 = .ok (.ireturn, 1) := by decide +kernel
theorem dX3_mealsTogether_0 : decode cX3_mealsTogether 0 = .ok (.iconst 0, 1) := by decide +kernel
theorem dX3_mealsTogether_1 : decode cX3_mealsTogether 1 = .ok (.istore_n 1, 1) := by decide +kernel
theorem dX3_mealsTogether_2 : decode cX3_mealsTogether 2 = .ok (.iconst 0, 1) := by decide +kernel
theorem dX3_mealsTogether_3 : decode cX3_mealsTogether 3 = .ok (.istore_n 2, 1) := by decide +kernel
theorem dX3_mealsTogether_4 : decode cX3_mealsTogether 4 = .ok (.iload_n 2, 1) := by decide +kernel
theorem dX3_mealsTogether_5 : decode cX3_mealsTogether 5 = .ok (.aload_n 0, 1) := by decide +kernel
theorem dX3_mealsTogether_6 : decode cX3_mealsTogether 6 = .ok (.getfield 29, 3) := by decide +kernel
theorem dX3_mealsTogether_9 : decode cX3_mealsTogether 9 = .ok (.getfield 66, 3) := by decide +kernel
theorem dX3_mealsTogether_12 : decode cX3_mealsTogether 12 = .ok (.if_icmp .ge 17, 3) := by decide +kernel
theorem dX3_mealsTogether_15 : decode cX3_mealsTogether 15 = .ok (.iload_n 1, 1) := by decide +kernel
theorem dX3_mealsTogether_16 : decode cX3_mealsTogether 16 = .ok (.aload_n 0, 1) := by decide +kernel
theorem dX3_mealsTogether_17 : decode cX3_mealsTogether 17 = .ok (.iload_n 2, 1) := by decide +kernel
theorem dX3_mealsTogether_18 : decode cX3_mealsTogether 18 = .ok (.invokevirtual 148, 3) := by decide +kernel
theorem dX3_mealsTogether_21 : decode cX3_mealsTogether 21 = .ok (.iadd, 1) := by decide +kernel
theorem dX3_mealsTogether_22 : decode cX3_mealsTogether 22 = .ok (.istore_n 1, 1) := by decide +kernel
theorem dX3_mealsTogether_23 : decode cX3_mealsTogether 23 = .ok (.iinc 2 1, 3) := by decide +kernel
theorem dX3_mealsTogether_26 : decode cX3_mealsTogether 26 = .ok (.goto (-22), 3) := by decide +kernel
theorem dX3_mealsTogether_29 : decode cX3_mealsTogether 29 = .ok (.iload_n 1, 1) := by decide +kernel
theorem dX3_mealsTogether_30 : decode cX3_mealsTogether 30 = .ok (.ireturn, 1) := by decide +kernel
theorem dX3_leastMeal_0 : decode cX3_leastMeal 0 = .ok (.ldc 111, 2) := by decide +kernel
theorem dX3_leastMeal_2 : decode cX3_leastMeal 2 = .ok (.istore_n 1, 1) := by decide +kernel
theorem dX3_leastMeal_3 : decode cX3_leastMeal 3 = .ok (.iconst 0, 1) := by decide +kernel
theorem dX3_leastMeal_4 : decode cX3_leastMeal 4 = .ok (.istore_n 2, 1) := by decide +kernel
theorem dX3_leastMeal_5 : decode cX3_leastMeal 5 = .ok (.iload_n 2, 1) := by decide +kernel
theorem dX3_leastMeal_6 : decode cX3_leastMeal 6 = .ok (.aload_n 0, 1) := by decide +kernel
theorem dX3_leastMeal_7 : decode cX3_leastMeal 7 = .ok (.getfield 29, 3) := by decide +kernel
theorem dX3_leastMeal_10 : decode cX3_leastMeal 10 = .ok (.getfield 66, 3) := by decide +kernel
theorem dX3_leastMeal_13 : decode cX3_leastMeal 13 = .ok (.if_icmp .ge 19, 3) := by decide +kernel
theorem dX3_leastMeal_16 : decode cX3_leastMeal 16 = .ok (.iload_n 1, 1) := by decide +kernel
theorem dX3_leastMeal_17 : decode cX3_leastMeal 17 = .ok (.aload_n 0, 1) := by decide +kernel
theorem dX3_leastMeal_18 : decode cX3_leastMeal 18 = .ok (.iload_n 2, 1) := by decide +kernel
theorem dX3_leastMeal_19 : decode cX3_leastMeal 19 = .ok (.invokevirtual 148, 3) := by decide +kernel
theorem dX3_leastMeal_22 : decode cX3_leastMeal 22 = .ok (.invokestatic 151, 3) := by decide +kernel
theorem dX3_leastMeal_25 : decode cX3_leastMeal 25 = .ok (.istore_n 1, 1) := by decide +kernel
theorem dX3_leastMeal_26 : decode cX3_leastMeal 26 = .ok (.iinc 2 1, 3) := by decide +kernel
theorem dX3_leastMeal_29 : decode cX3_leastMeal 29 = .ok (.goto (-24), 3) := by decide +kernel
theorem dX3_leastMeal_32 : decode cX3_leastMeal 32 = .ok (.iload_n 1, 1) := by decide +kernel
theorem dX3_leastMeal_33 : decode cX3_leastMeal 33 = .ok (.ireturn, 1) := by decide +kernel
theorem dX3_poisonOfAll_0 : decode cX3_poisonOfAll 0 = .ok (.iconst 0, 1) := by decide +kernel
theorem dX3_poisonOfAll_1 : decode cX3_poisonOfAll 1 = .ok (.istore_n 1, 1) := by decide +kernel
theorem dX3_poisonOfAll_2 : decode cX3_poisonOfAll 2 = .ok (.iconst 0, 1) := by decide +kernel
theorem dX3_poisonOfAll_3 : decode cX3_poisonOfAll 3 = .ok (.istore_n 2, 1) := by decide +kernel
theorem dX3_poisonOfAll_4 : decode cX3_poisonOfAll 4 = .ok (.iload_n 2, 1) := by decide +kernel
theorem dX3_poisonOfAll_5 : decode cX3_poisonOfAll 5 = .ok (.aload_n 0, 1) := by decide +kernel
theorem dX3_poisonOfAll_6 : decode cX3_poisonOfAll 6 = .ok (.getfield 29, 3) := by decide +kernel
theorem dX3_poisonOfAll_9 : decode cX3_poisonOfAll 9 = .ok (.getfield 66, 3) := by decide +kernel
theorem dX3_poisonOfAll_12 : decode cX3_poisonOfAll 12 = .ok (.if_icmp .ge 18, 3) := by decide +kernel
theorem dX3_poisonOfAll_15 : decode cX3_poisonOfAll 15 = .ok (.iload_n 1, 1) := by decide +kernel
theorem dX3_poisonOfAll_16 : decode cX3_poisonOfAll 16 = .ok (.aload_n 0, 1) := by decide +kernel
theorem dX3_poisonOfAll_17 : decode cX3_poisonOfAll 17 = .ok (.iload_n 2, 1) := by decide +kernel
theorem dX3_poisonOfAll_18 : decode cX3_poisonOfAll 18 = .ok (.iconst 5, 1) := by decide +kernel
theorem dX3_poisonOfAll_19 : decode cX3_poisonOfAll 19 = .ok (.invokevirtual 124, 3) := by decide +kernel
theorem dX3_poisonOfAll_22 : decode cX3_poisonOfAll 22 = .ok (.iadd, 1) := by decide +kernel
theorem dX3_poisonOfAll_23 : decode cX3_poisonOfAll 23 = .ok (.istore_n 1, 1) := by decide +kernel
theorem dX3_poisonOfAll_24 : decode cX3_poisonOfAll 24 = .ok (.iinc 2 1, 3) := by decide +kernel
theorem dX3_poisonOfAll_27 : decode cX3_poisonOfAll 27 = .ok (.goto (-23), 3) := by decide +kernel
theorem dX3_poisonOfAll_30 : decode cX3_poisonOfAll 30 = .ok (.iload_n 1, 1) := by decide +kernel
theorem dX3_poisonOfAll_31 : decode cX3_poisonOfAll 31 = .ok (.ireturn, 1) := by decide +kernel
theorem dX3_poisoned_0 : decode cX3_poisoned 0 = .ok (.iconst 0, 1) := by decide +kernel
theorem dX3_poisoned_1 : decode cX3_poisoned 1 = .ok (.istore_n 2, 1) := by decide +kernel
theorem dX3_poisoned_2 : decode cX3_poisoned 2 = .ok (.iconst 0, 1) := by decide +kernel
theorem dX3_poisoned_3 : decode cX3_poisoned 3 = .ok (.istore_n 3, 1) := by decide +kernel
theorem dX3_poisoned_4 : decode cX3_poisoned 4 = .ok (.iload_n 3, 1) := by decide +kernel
theorem dX3_poisoned_5 : decode cX3_poisoned 5 = .ok (.aload_n 0, 1) := by decide +kernel
theorem dX3_poisoned_6 : decode cX3_poisoned 6 = .ok (.getfield 29, 3) := by decide +kernel
theorem dX3_poisoned_9 : decode cX3_poisoned 9 = .ok (.getfield 66, 3) := by decide +kernel
theorem dX3_poisoned_12 : decode cX3_poisoned 12 = .ok (.if_icmp .ge 25, 3) := by decide +kernel
theorem dX3_poisoned_15 : decode cX3_poisoned 15 = .ok (.aload_n 0, 1) := by decide +kernel
theorem dX3_poisoned_16 : decode cX3_poisoned 16 = .ok (.iload_n 3, 1) := by decide +kernel
theorem dX3_poisoned_17 : decode cX3_poisoned 17 = .ok (.iconst 5, 1) := by decide +kernel
theorem dX3_poisoned_18 : decode cX3_poisoned 18 = .ok (.invokevirtual 124, 3) := by decide +kernel
theorem dX3_poisoned_21 : decode cX3_poisoned 21 = .ok (.iload_n 1, 1) := by decide +kernel
theorem dX3_poisoned_22 : decode cX3_poisoned 22 = .ok (.if_icmp .lt 9, 3) := by decide +kernel
theorem dX3_poisoned_25 : decode cX3_poisoned 25 = .ok (.iload_n 2, 1) := by decide +kernel
theorem dX3_poisoned_26 : decode cX3_poisoned 26 = .ok (.iconst 1, 1) := by decide +kernel
theorem dX3_poisoned_27 : decode cX3_poisoned 27 = .ok (.iload_n 3, 1) := by decide +kernel
theorem dX3_poisoned_28 : decode cX3_poisoned 28 = .ok (.ishl, 1) := by decide +kernel
theorem dX3_poisoned_29 : decode cX3_poisoned 29 = .ok (.ior, 1) := by decide +kernel
theorem dX3_poisoned_30 : decode cX3_poisoned 30 = .ok (.istore_n 2, 1) := by decide +kernel
theorem dX3_poisoned_31 : decode cX3_poisoned 31 = .ok (.iinc 3 1, 3) := by decide +kernel
theorem dX3_poisoned_34 : decode cX3_poisoned 34 = .ok (.goto (-30), 3) := by decide +kernel
theorem dX3_poisoned_37 : decode cX3_poisoned 37 = .ok (.iload_n 2, 1) := by decide +kernel
theorem dX3_poisoned_38 : decode cX3_poisoned 38 = .ok (.ireturn, 1) := by decide +kernel
theorem dX3_strangerGrains_0 : decode cX3_strangerGrains 0 = .ok (.iconst 0, 1) := by decide +kernel
theorem dX3_strangerGrains_1 : decode cX3_strangerGrains 1 = .ok (.istore_n 1, 1) := by decide +kernel
theorem dX3_strangerGrains_2 : decode cX3_strangerGrains 2 = .ok (.iconst 0, 1) := by decide +kernel
theorem dX3_strangerGrains_3 : decode cX3_strangerGrains 3 = .ok (.istore_n 2, 1) := by decide +kernel
theorem dX3_strangerGrains_4 : decode cX3_strangerGrains 4 = .ok (.iload_n 2, 1) := by decide +kernel
theorem dX3_strangerGrains_5 : decode cX3_strangerGrains 5 = .ok (.iconst 5, 1) := by decide +kernel
theorem dX3_strangerGrains_6 : decode cX3_strangerGrains 6 = .ok (.if_icmp .ge 18, 3) := by decide +kernel
theorem dX3_strangerGrains_9 : decode cX3_strangerGrains 9 = .ok (.iload_n 1, 1) := by decide +kernel
theorem dX3_strangerGrains_10 : decode cX3_strangerGrains 10 = .ok (.aload_n 0, 1) := by decide +kernel
theorem dX3_strangerGrains_11 : decode cX3_strangerGrains 11 = .ok (.getfield 23, 3) := by decide +kernel
theorem dX3_strangerGrains_14 : decode cX3_strangerGrains 14 = .ok (.iload_n 2, 1) := by decide +kernel
theorem dX3_strangerGrains_15 : decode cX3_strangerGrains 15 = .ok (.iaload, 1) := by decide +kernel
theorem dX3_strangerGrains_16 : decode cX3_strangerGrains 16 = .ok (.iadd, 1) := by decide +kernel
theorem dX3_strangerGrains_17 : decode cX3_strangerGrains 17 = .ok (.istore_n 1, 1) := by decide +kernel
theorem dX3_strangerGrains_18 : decode cX3_strangerGrains 18 = .ok (.iinc 2 1, 3) := by decide +kernel
theorem dX3_strangerGrains_21 : decode cX3_strangerGrains 21 = .ok (.goto (-17), 3) := by decide +kernel
theorem dX3_strangerGrains_24 : decode cX3_strangerGrains 24 = .ok (.iload_n 1, 1) := by decide +kernel
theorem dX3_strangerGrains_25 : decode cX3_strangerGrains 25 = .ok (.ireturn, 1) := by decide +kernel
