theorem dX0_init_0 : decode cX0_init 0 = .ok (.aload_n 0, 1) := by decide +kernel
theorem dX0_init_1 : decode cX0_init 1 = .ok (.invokespecial 3, 3) := by decide +kernel
theorem dX0_init_4 : decode cX0_init 4 = .ok (.aload_n 0, 1) := by decide +kernel
theorem dX0_init_5 : decode cX0_init 5 = .ok (.aload_n 1, 1) := by decide +kernel
theorem dX0_init_6 : decode cX0_init 6 = .ok (.putfield 9, 3) := by decide +kernel
theorem dX0_init_9 : decode cX0_init 9 = .ok (.aload_n 0, 1) := by decide +kernel
theorem dX0_init_10 : decode cX0_init 10 = .ok (.aload_n 2, 1) := by decide +kernel
theorem dX0_init_11 : decode cX0_init 11 = .ok (.putfield 15, 3) := by decide +kernel
theorem dX0_init_14 : decode cX0_init 14 = .ok (.aload_n 0, 1) := by decide +kernel
theorem dX0_init_15 : decode cX0_init 15 = .ok (.aload_n 3, 1) := by decide +kernel
theorem dX0_init_16 : decode cX0_init 16 = .ok (.putfield 19, 3) := by decide +kernel
theorem dX0_init_19 : decode cX0_init 19 = .ok (.aload_n 0, 1) := by decide +kernel
theorem dX0_init_20 : decode cX0_init 20 = .ok (.iconst (-1), 1) := by decide +kernel
theorem dX0_init_21 : decode cX0_init 21 = .ok (.putfield 23, 3) := by decide +kernel
theorem dX0_init_24 : decode cX0_init 24 = .ok (.return_, 1) := by decide +kernel
theorem dX0_findPuts_0 : decode cX0_findPuts 0 = .ok (.aload_n 0, 1) := by decide +kernel
theorem dX0_findPuts_1 : decode cX0_findPuts 1 = .ok (.iload_n 1, 1) := by decide +kernel
theorem dX0_findPuts_2 : decode cX0_findPuts 2 = .ok (.invokevirtual 27, 3) := by decide +kernel
theorem dX0_findPuts_5 : decode cX0_findPuts 5 = .ok (.aload_n 0, 1) := by decide +kernel
theorem dX0_findPuts_6 : decode cX0_findPuts 6 = .ok (.iconst 0, 1) := by decide +kernel
theorem dX0_findPuts_7 : decode cX0_findPuts 7 = .ok (.aload_n 0, 1) := by decide +kernel
theorem dX0_findPuts_8 : decode cX0_findPuts 8 = .ok (.invokevirtual 31, 3) := by decide +kernel
theorem dX0_findPuts_11 : decode cX0_findPuts 11 = .ok (.iconst 0, 1) := by decide +kernel
theorem dX0_findPuts_12 : decode cX0_findPuts 12 = .ok (.iconst 0, 1) := by decide +kernel
theorem dX0_findPuts_13 : decode cX0_findPuts 13 = .ok (.invokevirtual 35, 3) := by decide +kernel
theorem dX0_findPuts_16 : decode cX0_findPuts 16 = .ok (.return_, 1) := by decide +kernel
theorem dX0_findOrder_0 : decode cX0_findOrder 0 = .ok (.aload_n 0, 1) := by decide +kernel
theorem dX0_findOrder_1 : decode cX0_findOrder 1 = .ok (.iload_n 1, 1) := by decide +kernel
theorem dX0_findOrder_2 : decode cX0_findOrder 2 = .ok (.invokevirtual 27, 3) := by decide +kernel
theorem dX0_findOrder_5 : decode cX0_findOrder 5 = .ok (.aload_n 0, 1) := by decide +kernel
theorem dX0_findOrder_6 : decode cX0_findOrder 6 = .ok (.iconst 0, 1) := by decide +kernel
theorem dX0_findOrder_7 : decode cX0_findOrder 7 = .ok (.aload_n 0, 1) := by decide +kernel
theorem dX0_findOrder_8 : decode cX0_findOrder 8 = .ok (.invokevirtual 31, 3) := by decide +kernel
theorem dX0_findOrder_11 : decode cX0_findOrder 11 = .ok (.iconst 0, 1) := by decide +kernel
theorem dX0_findOrder_12 : decode cX0_findOrder 12 = .ok (.iconst 0, 1) := by decide +kernel
theorem dX0_findOrder_13 : decode cX0_findOrder 13 = .ok (.invokevirtual 39, 3) := by decide +kernel
theorem dX0_findOrder_16 : decode cX0_findOrder 16 = .ok (.return_, 1) := by decide +kernel
theorem dX0_begin_0 : decode cX0_begin 0 = .ok (.aload_n 0, 1) := by decide +kernel
theorem dX0_begin_1 : decode cX0_begin 1 = .ok (.iload_n 1, 1) := by decide +kernel
theorem dX0_begin_2 : decode cX0_begin 2 = .ok (.putfield 42, 3) := by decide +kernel
theorem dX0_begin_5 : decode cX0_begin 5 = .ok (.aload_n 0, 1) := by decide +kernel
theorem dX0_begin_6 : decode cX0_begin 6 = .ok (.iconst (-1), 1) := by decide +kernel
theorem dX0_begin_7 : decode cX0_begin 7 = .ok (.putfield 23, 3) := by decide +kernel
theorem dX0_begin_10 : decode cX0_begin 10 = .ok (.aload_n 0, 1) := by decide +kernel
theorem dX0_begin_11 : decode cX0_begin 11 = .ok (.ldc 45, 2) := by decide +kernel
theorem dX0_begin_13 : decode cX0_begin 13 = .ok (.putfield 46, 3) := by decide +kernel
theorem dX0_begin_16 : decode cX0_begin 16 = .ok (.aload_n 0, 1) := by decide +kernel
theorem dX0_begin_17 : decode cX0_begin 17 = .ok (.getfield 19, 3) := by decide +kernel
theorem dX0_begin_20 : decode cX0_begin 20 = .ok (.aload_n 0, 1) := by decide +kernel
theorem dX0_begin_21 : decode cX0_begin 21 = .ok (.getfield 15, 3) := by decide +kernel
theorem dX0_begin_24 : decode cX0_begin 24 = .ok (.getfield 49, 3) := by decide +kernel
theorem dX0_begin_27 : decode cX0_begin 27 = .ok (.invokevirtual 54, 3) := by decide +kernel
theorem dX0_begin_30 : decode cX0_begin 30 = .ok (.return_, 1) := by decide +kernel
theorem dX0_noMeal_0 : decode cX0_noMeal 0 = .ok (.aload_n 0, 1) := by decide +kernel
theorem dX0_noMeal_1 : decode cX0_noMeal 1 = .ok (.getfield 42, 3) := by decide +kernel
theorem dX0_noMeal_4 : decode cX0_noMeal 4 = .ok (.ifCond .ne 7, 3) := by decide +kernel
theorem dX0_noMeal_7 : decode cX0_noMeal 7 = .ok (.iconst 0, 1) := by decide +kernel
theorem dX0_noMeal_8 : decode cX0_noMeal 8 = .ok (.goto 5, 3) := by decide +kernel
theorem dX0_noMeal_11 : decode cX0_noMeal 11 = .ok (.ldc 57, 2) := by decide +kernel
theorem dX0_noMeal_13 : decode cX0_noMeal 13 = .ok (.ireturn, 1) := by decide +kernel
theorem dX0_withMeal_0 : decode cX0_withMeal 0 = .ok (.aload_n 0, 1) := by decide +kernel
theorem dX0_withMeal_1 : decode cX0_withMeal 1 = .ok (.getfield 42, 3) := by decide +kernel
theorem dX0_withMeal_4 : decode cX0_withMeal 4 = .ok (.ifCond .ne 9, 3) := by decide +kernel
theorem dX0_withMeal_7 : decode cX0_withMeal 7 = .ok (.iload_n 1, 1) := by decide +kernel
theorem dX0_withMeal_8 : decode cX0_withMeal 8 = .ok (.iload_n 2, 1) := by decide +kernel
theorem dX0_withMeal_9 : decode cX0_withMeal 9 = .ok (.iadd, 1) := by decide +kernel
theorem dX0_withMeal_10 : decode cX0_withMeal 10 = .ok (.goto 8, 3) := by decide +kernel
theorem dX0_withMeal_13 : decode cX0_withMeal 13 = .ok (.iload_n 1, 1) := by decide +kernel
theorem dX0_withMeal_14 : decode cX0_withMeal 14 = .ok (.iload_n 2, 1) := by decide +kernel
theorem dX0_withMeal_15 : decode cX0_withMeal 15 = .ok (.invokestatic 58, 3) := by decide +kernel
theorem dX0_withMeal_18 : decode cX0_withMeal 18 = .ok (.ireturn, 1) := by decide +kernel
theorem dX0_consider_0 : decode cX0_consider 0 = .ok (.aload_n 0, 1) := by decide +kernel
theorem dX0_consider_1 : decode cX0_consider 1 = .ok (.getfield 23, 3) := by decide +kernel
theorem dX0_consider_4 : decode cX0_consider 4 = .ok (.iconst (-1), 1) := by decide +kernel
theorem dX0_consider_5 : decode cX0_consider 5 = .ok (.if_icmp .eq 27, 3) := by decide +kernel
theorem dX0_consider_8 : decode cX0_consider 8 = .ok (.iload_n 1, 1) := by decide +kernel
theorem dX0_consider_9 : decode cX0_consider 9 = .ok (.aload_n 0, 1) := by decide +kernel
theorem dX0_consider_10 : decode cX0_consider 10 = .ok (.getfield 46, 3) := by decide +kernel
theorem dX0_consider_13 : decode cX0_consider 13 = .ok (.if_icmp .gt 19, 3) := by decide +kernel
theorem dX0_consider_16 : decode cX0_consider 16 = .ok (.iload_n 1, 1) := by decide +kernel
theorem dX0_consider_17 : decode cX0_consider 17 = .ok (.aload_n 0, 1) := by decide +kernel
theorem dX0_consider_18 : decode cX0_consider 18 = .ok (.getfield 46, 3) := by decide +kernel
theorem dX0_consider_21 : decode cX0_consider 21 = .ok (.if_icmp .ne 21, 3) := by decide +kernel
theorem dX0_consider_24 : decode cX0_consider 24 = .ok (.iload_n 2, 1) := by decide +kernel
theorem dX0_consider_25 : decode cX0_consider 25 = .ok (.aload_n 0, 1) := by decide +kernel
theorem dX0_consider_26 : decode cX0_consider 26 = .ok (.getfield 23, 3) := by decide +kernel
theorem dX0_consider_29 : decode cX0_consider 29 = .ok (.if_icmp .ge 13, 3) := by decide +kernel
theorem dX0_consider_32 : decode cX0_consider 32 = .ok (.aload_n 0, 1) := by decide +kernel
theorem dX0_consider_33 : decode cX0_consider 33 = .ok (.iload_n 1, 1) := by decide +kernel
theorem dX0_consider_34 : decode cX0_consider 34 = .ok (.putfield 46, 3) := by decide +kernel
theorem dX0_consider_37 : decode cX0_consider 37 = .ok (.aload_n 0, 1) := by decide +kernel
theorem dX0_consider_38 : decode cX0_consider 38 = .ok (.iload_n 2, 1) := by decide +kernel
theorem dX0_consider_39 : decode cX0_consider 39 = .ok (.putfield 23, 3) := by decide +kernel
theorem dX0_consider_42 : decode cX0_consider 42 = .ok (.return_, 1) := by decide +kernel
theorem dX0_tryPuts_0 : decode cX0_tryPuts 0 = .ok (.iload_n 1, 1) := by decide +kernel
theorem dX0_tryPuts_1 : decode cX0_tryPuts 1 = .ok (.ifCond .lt 14, 3) := by decide +kernel
theorem dX0_tryPuts_4 : decode cX0_tryPuts 4 = .ok (.iload_n 1, 1) := by decide +kernel
theorem dX0_tryPuts_5 : decode cX0_tryPuts 5 = .ok (.aload_n 0, 1) := by decide +kernel
theorem dX0_tryPuts_6 : decode cX0_tryPuts 6 = .ok (.getfield 9, 3) := by decide +kernel
theorem dX0_tryPuts_9 : decode cX0_tryPuts 9 = .ok (.getfield 64, 3) := by decide +kernel
theorem dX0_tryPuts_12 : decode cX0_tryPuts 12 = .ok (.if_icmp .lt 4, 3) := by decide +kernel
theorem dX0_tryPuts_15 : decode cX0_tryPuts 15 = .ok (.return_, 1) := by decide +kernel
theorem dX0_tryPuts_16 : decode cX0_tryPuts 16 = .ok (.aload_n 0, 1) := by decide +kernel
theorem dX0_tryPuts_17 : decode cX0_tryPuts 17 = .ok (.getfield 15, 3) := by decide +kernel
theorem dX0_tryPuts_20 : decode cX0_tryPuts 20 = .ok (.getfield 69, 3) := by decide +kernel
theorem dX0_tryPuts_23 : decode cX0_tryPuts 23 = .ok (.iload_n 1, 1) := by decide +kernel
theorem dX0_tryPuts_24 : decode cX0_tryPuts 24 = .ok (.iaload, 1) := by decide +kernel
theorem dX0_tryPuts_25 : decode cX0_tryPuts 25 = .ok (.istore 5, 2) := by decide +kernel
theorem dX0_tryPuts_27 : decode cX0_tryPuts 27 = .ok (.aload_n 0, 1) := by decide +kernel
theorem dX0_tryPuts_28 : decode cX0_tryPuts 28 = .ok (.getfield 19, 3) := by decide +kernel
theorem dX0_tryPuts_31 : decode cX0_tryPuts 31 = .ok (.iload_n 1, 1) := by decide +kernel
theorem dX0_tryPuts_32 : decode cX0_tryPuts 32 = .ok (.iload 5, 2) := by decide +kernel
theorem dX0_tryPuts_34 : decode cX0_tryPuts 34 = .ok (.invokevirtual 73, 3) := by decide +kernel
theorem dX0_tryPuts_37 : decode cX0_tryPuts 37 = .ok (.aload_n 0, 1) := by decide +kernel
theorem dX0_tryPuts_38 : decode cX0_tryPuts 38 = .ok (.iload_n 2, 1) := by decide +kernel
theorem dX0_tryPuts_39 : decode cX0_tryPuts 39 = .ok (.aload_n 0, 1) := by decide +kernel
theorem dX0_tryPuts_40 : decode cX0_tryPuts 40 = .ok (.getfield 19, 3) := by decide +kernel
theorem dX0_tryPuts_43 : decode cX0_tryPuts 43 = .ok (.iload 5, 2) := by decide +kernel
theorem dX0_tryPuts_45 : decode cX0_tryPuts 45 = .ok (.invokevirtual 77, 3) := by decide +kernel
theorem dX0_tryPuts_48 : decode cX0_tryPuts 48 = .ok (.invokevirtual 81, 3) := by decide +kernel
theorem dX0_tryPuts_51 : decode cX0_tryPuts 51 = .ok (.istore 6, 2) := by decide +kernel
theorem dX0_tryPuts_53 : decode cX0_tryPuts 53 = .ok (.aload_n 0, 1) := by decide +kernel
theorem dX0_tryPuts_54 : decode cX0_tryPuts 54 = .ok (.iload 5, 2) := by decide +kernel
theorem dX0_tryPuts_56 : decode cX0_tryPuts 56 = .ok (.invokevirtual 84, 3) := by decide +kernel
theorem dX0_tryPuts_59 : decode cX0_tryPuts 59 = .ok (.istore 7, 2) := by decide +kernel
theorem dX0_tryPuts_61 : decode cX0_tryPuts 61 = .ok (.aload_n 0, 1) := by decide +kernel
theorem dX0_tryPuts_62 : decode cX0_tryPuts 62 = .ok (.getfield 19, 3) := by decide +kernel
theorem dX0_tryPuts_65 : decode cX0_tryPuts 65 = .ok (.iload_n 1, 1) := by decide +kernel
theorem dX0_tryPuts_66 : decode cX0_tryPuts 66 = .ok (.invokevirtual 87, 3) := by decide +kernel
theorem dX0_tryPuts_69 : decode cX0_tryPuts 69 = .ok (.ifCond .eq 21, 3) := by decide +kernel
theorem dX0_tryPuts_72 : decode cX0_tryPuts 72 = .ok (.aload_n 0, 1) := by decide +kernel
theorem dX0_tryPuts_73 : decode cX0_tryPuts 73 = .ok (.iload 6, 2) := by decide +kernel
theorem dX0_tryPuts_75 : decode cX0_tryPuts 75 = .ok (.iload_n 3, 1) := by decide +kernel
theorem dX0_tryPuts_76 : decode cX0_tryPuts 76 = .ok (.iload 7, 2) := by decide +kernel
theorem dX0_tryPuts_78 : decode cX0_tryPuts 78 = .ok (.aload_n 0, 1) := by decide +kernel
theorem dX0_tryPuts_79 : decode cX0_tryPuts 79 = .ok (.iload 5, 2) := by decide +kernel
theorem dX0_tryPuts_81 : decode cX0_tryPuts 81 = .ok (.invokevirtual 91, 3) := by decide +kernel
theorem dX0_tryPuts_84 : decode cX0_tryPuts 84 = .ok (.imul, 1) := by decide +kernel
theorem dX0_tryPuts_85 : decode cX0_tryPuts 85 = .ok (.iadd, 1) := by decide +kernel
theorem dX0_tryPuts_86 : decode cX0_tryPuts 86 = .ok (.invokevirtual 94, 3) := by decide +kernel
theorem dX0_tryPuts_89 : decode cX0_tryPuts 89 = .ok (.return_, 1) := by decide +kernel
theorem dX0_tryPuts_90 : decode cX0_tryPuts 90 = .ok (.aload_n 0, 1) := by decide +kernel
theorem dX0_tryPuts_91 : decode cX0_tryPuts 91 = .ok (.iload_n 1, 1) := by decide +kernel
theorem dX0_tryPuts_92 : decode cX0_tryPuts 92 = .ok (.iconst 1, 1) := by decide +kernel
theorem dX0_tryPuts_93 : decode cX0_tryPuts 93 = .ok (.iadd, 1) := by decide +kernel
theorem dX0_tryPuts_94 : decode cX0_tryPuts 94 = .ok (.iload 6, 2) := by decide +kernel
theorem dX0_tryPuts_96 : decode cX0_tryPuts 96 = .ok (.iload_n 3, 1) := by decide +kernel
theorem dX0_tryPuts_97 : decode cX0_tryPuts 97 = .ok (.iload 7, 2) := by decide +kernel
theorem dX0_tryPuts_99 : decode cX0_tryPuts 99 = .ok (.bipush 9, 2) := by decide +kernel
theorem dX0_tryPuts_101 : decode cX0_tryPuts 101 = .ok (.imul, 1) := by decide +kernel
theorem dX0_tryPuts_102 : decode cX0_tryPuts 102 = .ok (.iadd, 1) := by decide +kernel
theorem dX0_tryPuts_103 : decode cX0_tryPuts 103 = .ok (.iload 4, 2) := by decide +kernel
theorem dX0_tryPuts_105 : decode cX0_tryPuts 105 = .ok (.invokevirtual 35, 3) := by decide +kernel
theorem dX0_tryPuts_108 : decode cX0_tryPuts 108 = .ok (.iconst 0, 1) := by decide +kernel
theorem dX0_tryPuts_109 : decode cX0_tryPuts 109 = .ok (.istore 8, 2) := by decide +kernel
theorem dX0_tryPuts_111 : decode cX0_tryPuts 111 = .ok (.iload 8, 2) := by decide +kernel
theorem dX0_tryPuts_113 : decode cX0_tryPuts 113 = .ok (.iconst 5, 1) := by decide +kernel
theorem dX0_tryPuts_114 : decode cX0_tryPuts 114 = .ok (.if_icmp .ge 102, 3) := by decide +kernel
theorem dX0_tryPuts_117 : decode cX0_tryPuts 117 = .ok (.aload_n 0, 1) := by decide +kernel
theorem dX0_tryPuts_118 : decode cX0_tryPuts 118 = .ok (.getfield 15, 3) := by decide +kernel
theorem dX0_tryPuts_121 : decode cX0_tryPuts 121 = .ok (.iload 5, 2) := by decide +kernel
theorem dX0_tryPuts_123 : decode cX0_tryPuts 123 = .ok (.iload 8, 2) := by decide +kernel
theorem dX0_tryPuts_125 : decode cX0_tryPuts 125 = .ok (.aload_n 0, 1) := by decide +kernel
theorem dX0_tryPuts_126 : decode cX0_tryPuts 126 = .ok (.getfield 9, 3) := by decide +kernel
theorem dX0_tryPuts_129 : decode cX0_tryPuts 129 = .ok (.getfield 97, 3) := by decide +kernel
theorem dX0_tryPuts_132 : decode cX0_tryPuts 132 = .ok (.invokevirtual 100, 3) := by decide +kernel
theorem dX0_tryPuts_135 : decode cX0_tryPuts 135 = .ok (.ifCond .eq 75, 3) := by decide +kernel
theorem dX0_tryPuts_138 : decode cX0_tryPuts 138 = .ok (.aload_n 0, 1) := by decide +kernel
theorem dX0_tryPuts_139 : decode cX0_tryPuts 139 = .ok (.getfield 19, 3) := by decide +kernel
theorem dX0_tryPuts_142 : decode cX0_tryPuts 142 = .ok (.iload 4, 2) := by decide +kernel
theorem dX0_tryPuts_144 : decode cX0_tryPuts 144 = .ok (.iload 8, 2) := by decide +kernel
theorem dX0_tryPuts_146 : decode cX0_tryPuts 146 = .ok (.invokevirtual 104, 3) := by decide +kernel
theorem dX0_tryPuts_149 : decode cX0_tryPuts 149 = .ok (.ifCond .ne 61, 3) := by decide +kernel
theorem dX0_tryPuts_152 : decode cX0_tryPuts 152 = .ok (.aload_n 0, 1) := by decide +kernel
theorem dX0_tryPuts_153 : decode cX0_tryPuts 153 = .ok (.getfield 19, 3) := by decide +kernel
theorem dX0_tryPuts_156 : decode cX0_tryPuts 156 = .ok (.iload_n 1, 1) := by decide +kernel
theorem dX0_tryPuts_157 : decode cX0_tryPuts 157 = .ok (.iload 8, 2) := by decide +kernel
theorem dX0_tryPuts_159 : decode cX0_tryPuts 159 = .ok (.aload_n 0, 1) := by decide +kernel
theorem dX0_tryPuts_160 : decode cX0_tryPuts 160 = .ok (.getfield 9, 3) := by decide +kernel
theorem dX0_tryPuts_163 : decode cX0_tryPuts 163 = .ok (.getfield 97, 3) := by decide +kernel
theorem dX0_tryPuts_166 : decode cX0_tryPuts 166 = .ok (.invokevirtual 108, 3) := by decide +kernel
theorem dX0_tryPuts_169 : decode cX0_tryPuts 169 = .ok (.aload_n 0, 1) := by decide +kernel
theorem dX0_tryPuts_170 : decode cX0_tryPuts 170 = .ok (.iload_n 1, 1) := by decide +kernel
theorem dX0_tryPuts_171 : decode cX0_tryPuts 171 = .ok (.iconst 1, 1) := by decide +kernel
theorem dX0_tryPuts_172 : decode cX0_tryPuts 172 = .ok (.iadd, 1) := by decide +kernel
theorem dX0_tryPuts_173 : decode cX0_tryPuts 173 = .ok (.iload 6, 2) := by decide +kernel
theorem dX0_tryPuts_175 : decode cX0_tryPuts 175 = .ok (.iload_n 3, 1) := by decide +kernel
theorem dX0_tryPuts_176 : decode cX0_tryPuts 176 = .ok (.iload 7, 2) := by decide +kernel
theorem dX0_tryPuts_178 : decode cX0_tryPuts 178 = .ok (.iload 8, 2) := by decide +kernel
theorem dX0_tryPuts_180 : decode cX0_tryPuts 180 = .ok (.imul, 1) := by decide +kernel
theorem dX0_tryPuts_181 : decode cX0_tryPuts 181 = .ok (.iadd, 1) := by decide +kernel
theorem dX0_tryPuts_182 : decode cX0_tryPuts 182 = .ok (.iload 4, 2) := by decide +kernel
theorem dX0_tryPuts_184 : decode cX0_tryPuts 184 = .ok (.iconst 1, 1) := by decide +kernel
theorem dX0_tryPuts_185 : decode cX0_tryPuts 185 = .ok (.iload 8, 2) := by decide +kernel
theorem dX0_tryPuts_187 : decode cX0_tryPuts 187 = .ok (.ishl, 1) := by decide +kernel
theorem dX0_tryPuts_188 : decode cX0_tryPuts 188 = .ok (.ior, 1) := by decide +kernel
theorem dX0_tryPuts_189 : decode cX0_tryPuts 189 = .ok (.invokevirtual 35, 3) := by decide +kernel
theorem dX0_tryPuts_192 : decode cX0_tryPuts 192 = .ok (.aload_n 0, 1) := by decide +kernel
theorem dX0_tryPuts_193 : decode cX0_tryPuts 193 = .ok (.getfield 19, 3) := by decide +kernel
theorem dX0_tryPuts_196 : decode cX0_tryPuts 196 = .ok (.iload_n 1, 1) := by decide +kernel
theorem dX0_tryPuts_197 : decode cX0_tryPuts 197 = .ok (.iload 8, 2) := by decide +kernel
theorem dX0_tryPuts_199 : decode cX0_tryPuts 199 = .ok (.aload_n 0, 1) := by decide +kernel
theorem dX0_tryPuts_200 : decode cX0_tryPuts 200 = .ok (.getfield 9, 3) := by decide +kernel
theorem dX0_tryPuts_203 : decode cX0_tryPuts 203 = .ok (.getfield 97, 3) := by decide +kernel
theorem dX0_tryPuts_206 : decode cX0_tryPuts 206 = .ok (.ineg, 1) := by decide +kernel
theorem dX0_tryPuts_207 : decode cX0_tryPuts 207 = .ok (.invokevirtual 108, 3) := by decide +kernel
theorem dX0_tryPuts_210 : decode cX0_tryPuts 210 = .ok (.iinc 8 1, 3) := by decide +kernel
theorem dX0_tryPuts_213 : decode cX0_tryPuts 213 = .ok (.goto (-102), 3) := by decide +kernel
theorem dX0_tryPuts_216 : decode cX0_tryPuts 216 = .ok (.return_, 1) := by decide +kernel
theorem dX0_unitOf_0 : decode cX0_unitOf 0 = .ok (.aload_n 0, 1) := by decide +kernel
theorem dX0_unitOf_1 : decode cX0_unitOf 1 = .ok (.getfield 9, 3) := by decide +kernel
theorem dX0_unitOf_4 : decode cX0_unitOf 4 = .ok (.getfield 64, 3) := by decide +kernel
theorem dX0_unitOf_7 : decode cX0_unitOf 7 = .ok (.iconst 1, 1) := by decide +kernel
theorem dX0_unitOf_8 : decode cX0_unitOf 8 = .ok (.isub, 1) := by decide +kernel
theorem dX0_unitOf_9 : decode cX0_unitOf 9 = .ok (.iload_n 1, 1) := by decide +kernel
theorem dX0_unitOf_10 : decode cX0_unitOf 10 = .ok (.isub, 1) := by decide +kernel
theorem dX0_unitOf_11 : decode cX0_unitOf 11 = .ok (.istore_n 2, 1) := by decide +kernel
theorem dX0_unitOf_12 : decode cX0_unitOf 12 = .ok (.iload_n 2, 1) := by decide +kernel
theorem dX0_unitOf_13 : decode cX0_unitOf 13 = .ok (.ifCond .lt 19, 3) := by decide +kernel
theorem dX0_unitOf_16 : decode cX0_unitOf 16 = .ok (.iload_n 2, 1) := by decide +kernel
theorem dX0_unitOf_17 : decode cX0_unitOf 17 = .ok (.getstatic 112, 3) := by decide +kernel
theorem dX0_unitOf_20 : decode cX0_unitOf 20 = .ok (.arraylength, 1) := by decide +kernel
theorem dX0_unitOf_21 : decode cX0_unitOf 21 = .ok (.if_icmp .ge 11, 3) := by decide +kernel
theorem dX0_unitOf_24 : decode cX0_unitOf 24 = .ok (.getstatic 112, 3) := by decide +kernel
theorem dX0_unitOf_27 : decode cX0_unitOf 27 = .ok (.iload_n 2, 1) := by decide +kernel
theorem dX0_unitOf_28 : decode cX0_unitOf 28 = .ok (.iaload, 1) := by decide +kernel
theorem dX0_unitOf_29 : decode cX0_unitOf 29 = .ok (.goto 4, 3) := by decide +kernel
theorem dX0_unitOf_32 : decode cX0_unitOf 32 = .ok (.iconst 0, 1) := by decide +kernel
theorem dX0_unitOf_33 : decode cX0_unitOf 33 = .ok (.ireturn, 1) := by decide +kernel
theorem dX0_leastPut_0 : decode cX0_leastPut 0 = .ok (.iconst 0, 1) := by decide +kernel
theorem dX0_leastPut_1 : decode cX0_leastPut 1 = .ok (.istore_n 2, 1) := by decide +kernel
theorem dX0_leastPut_2 : decode cX0_leastPut 2 = .ok (.iload_n 2, 1) := by decide +kernel
theorem dX0_leastPut_3 : decode cX0_leastPut 3 = .ok (.iconst 5, 1) := by decide +kernel
theorem dX0_leastPut_4 : decode cX0_leastPut 4 = .ok (.if_icmp .ge 30, 3) := by decide +kernel
theorem dX0_leastPut_7 : decode cX0_leastPut 7 = .ok (.aload_n 0, 1) := by decide +kernel
theorem dX0_leastPut_8 : decode cX0_leastPut 8 = .ok (.getfield 15, 3) := by decide +kernel
theorem dX0_leastPut_11 : decode cX0_leastPut 11 = .ok (.iload_n 1, 1) := by decide +kernel
theorem dX0_leastPut_12 : decode cX0_leastPut 12 = .ok (.iload_n 2, 1) := by decide +kernel
theorem dX0_leastPut_13 : decode cX0_leastPut 13 = .ok (.aload_n 0, 1) := by decide +kernel
theorem dX0_leastPut_14 : decode cX0_leastPut 14 = .ok (.getfield 9, 3) := by decide +kernel
theorem dX0_leastPut_17 : decode cX0_leastPut 17 = .ok (.getfield 97, 3) := by decide +kernel
theorem dX0_leastPut_20 : decode cX0_leastPut 20 = .ok (.invokevirtual 100, 3) := by decide +kernel
theorem dX0_leastPut_23 : decode cX0_leastPut 23 = .ok (.ifCond .eq 5, 3) := by decide +kernel
theorem dX0_leastPut_26 : decode cX0_leastPut 26 = .ok (.iload_n 2, 1) := by decide +kernel
theorem dX0_leastPut_27 : decode cX0_leastPut 27 = .ok (.ireturn, 1) := by decide +kernel
theorem dX0_leastPut_28 : decode cX0_leastPut 28 = .ok (.iinc 2 1, 3) := by decide +kernel
theorem dX0_leastPut_31 : decode cX0_leastPut 31 = .ok (.goto (-29), 3) := by decide +kernel
theorem dX0_leastPut_34 : decode cX0_leastPut 34 = .ok (.bipush 9, 2) := by decide +kernel
theorem dX0_leastPut_36 : decode cX0_leastPut 36 = .ok (.ireturn, 1) := by decide +kernel
theorem dX0_tryOrders_0 : decode cX0_tryOrders 0 = .ok (.iload_n 1, 1) := by decide +kernel
theorem dX0_tryOrders_1 : decode cX0_tryOrders 1 = .ok (.ifCond .lt 14, 3) := by decide +kernel
theorem dX0_tryOrders_4 : decode cX0_tryOrders 4 = .ok (.iload_n 1, 1) := by decide +kernel
theorem dX0_tryOrders_5 : decode cX0_tryOrders 5 = .ok (.aload_n 0, 1) := by decide +kernel
theorem dX0_tryOrders_6 : decode cX0_tryOrders 6 = .ok (.getfield 9, 3) := by decide +kernel
theorem dX0_tryOrders_9 : decode cX0_tryOrders 9 = .ok (.getfield 64, 3) := by decide +kernel
theorem dX0_tryOrders_12 : decode cX0_tryOrders 12 = .ok (.if_icmp .lt 4, 3) := by decide +kernel
theorem dX0_tryOrders_15 : decode cX0_tryOrders 15 = .ok (.return_, 1) := by decide +kernel
theorem dX0_tryOrders_16 : decode cX0_tryOrders 16 = .ok (.iconst 0, 1) := by decide +kernel
theorem dX0_tryOrders_17 : decode cX0_tryOrders 17 = .ok (.istore 5, 2) := by decide +kernel
theorem dX0_tryOrders_19 : decode cX0_tryOrders 19 = .ok (.iload 5, 2) := by decide +kernel
theorem dX0_tryOrders_21 : decode cX0_tryOrders 21 = .ok (.aload_n 0, 1) := by decide +kernel
theorem dX0_tryOrders_22 : decode cX0_tryOrders 22 = .ok (.getfield 9, 3) := by decide +kernel
theorem dX0_tryOrders_25 : decode cX0_tryOrders 25 = .ok (.getfield 64, 3) := by decide +kernel
theorem dX0_tryOrders_28 : decode cX0_tryOrders 28 = .ok (.if_icmp .ge 148, 3) := by decide +kernel
theorem dX0_tryOrders_31 : decode cX0_tryOrders 31 = .ok (.iload 4, 2) := by decide +kernel
theorem dX0_tryOrders_33 : decode cX0_tryOrders 33 = .ok (.iload 5, 2) := by decide +kernel
theorem dX0_tryOrders_35 : decode cX0_tryOrders 35 = .ok (.ishr, 1) := by decide +kernel
theorem dX0_tryOrders_36 : decode cX0_tryOrders 36 = .ok (.iconst 1, 1) := by decide +kernel
theorem dX0_tryOrders_37 : decode cX0_tryOrders 37 = .ok (.iand, 1) := by decide +kernel
theorem dX0_tryOrders_38 : decode cX0_tryOrders 38 = .ok (.iconst 1, 1) := by decide +kernel
theorem dX0_tryOrders_39 : decode cX0_tryOrders 39 = .ok (.if_icmp .ne 6, 3) := by decide +kernel
theorem dX0_tryOrders_42 : decode cX0_tryOrders 42 = .ok (.goto 128, 3) := by decide +kernel
theorem dX0_tryOrders_45 : decode cX0_tryOrders 45 = .ok (.aload_n 0, 1) := by decide +kernel
theorem dX0_tryOrders_46 : decode cX0_tryOrders 46 = .ok (.getfield 19, 3) := by decide +kernel
theorem dX0_tryOrders_49 : decode cX0_tryOrders 49 = .ok (.iload_n 1, 1) := by decide +kernel
theorem dX0_tryOrders_50 : decode cX0_tryOrders 50 = .ok (.iload 5, 2) := by decide +kernel
theorem dX0_tryOrders_52 : decode cX0_tryOrders 52 = .ok (.invokevirtual 73, 3) := by decide +kernel
theorem dX0_tryOrders_55 : decode cX0_tryOrders 55 = .ok (.aload_n 0, 1) := by decide +kernel
theorem dX0_tryOrders_56 : decode cX0_tryOrders 56 = .ok (.iload_n 2, 1) := by decide +kernel
theorem dX0_tryOrders_57 : decode cX0_tryOrders 57 = .ok (.aload_n 0, 1) := by decide +kernel
theorem dX0_tryOrders_58 : decode cX0_tryOrders 58 = .ok (.getfield 19, 3) := by decide +kernel
theorem dX0_tryOrders_61 : decode cX0_tryOrders 61 = .ok (.iload 5, 2) := by decide +kernel
theorem dX0_tryOrders_63 : decode cX0_tryOrders 63 = .ok (.invokevirtual 77, 3) := by decide +kernel
theorem dX0_tryOrders_66 : decode cX0_tryOrders 66 = .ok (.invokevirtual 81, 3) := by decide +kernel
theorem dX0_tryOrders_69 : decode cX0_tryOrders 69 = .ok (.istore 6, 2) := by decide +kernel
theorem dX0_tryOrders_71 : decode cX0_tryOrders 71 = .ok (.aload_n 0, 1) := by decide +kernel
theorem dX0_tryOrders_72 : decode cX0_tryOrders 72 = .ok (.getfield 19, 3) := by decide +kernel
theorem dX0_tryOrders_75 : decode cX0_tryOrders 75 = .ok (.iload_n 1, 1) := by decide +kernel
theorem dX0_tryOrders_76 : decode cX0_tryOrders 76 = .ok (.invokevirtual 87, 3) := by decide +kernel
theorem dX0_tryOrders_79 : decode cX0_tryOrders 79 = .ok (.ifCond .eq 19, 3) := by decide +kernel
theorem dX0_tryOrders_82 : decode cX0_tryOrders 82 = .ok (.aload_n 0, 1) := by decide +kernel
theorem dX0_tryOrders_83 : decode cX0_tryOrders 83 = .ok (.iload 6, 2) := by decide +kernel
theorem dX0_tryOrders_85 : decode cX0_tryOrders 85 = .ok (.iload_n 3, 1) := by decide +kernel
theorem dX0_tryOrders_86 : decode cX0_tryOrders 86 = .ok (.bipush 10, 2) := by decide +kernel
theorem dX0_tryOrders_88 : decode cX0_tryOrders 88 = .ok (.imul, 1) := by decide +kernel
theorem dX0_tryOrders_89 : decode cX0_tryOrders 89 = .ok (.iload 5, 2) := by decide +kernel
theorem dX0_tryOrders_91 : decode cX0_tryOrders 91 = .ok (.iadd, 1) := by decide +kernel
theorem dX0_tryOrders_92 : decode cX0_tryOrders 92 = .ok (.invokevirtual 94, 3) := by decide +kernel
theorem dX0_tryOrders_95 : decode cX0_tryOrders 95 = .ok (.goto 75, 3) := by decide +kernel
theorem dX0_tryOrders_98 : decode cX0_tryOrders 98 = .ok (.aload_n 0, 1) := by decide +kernel
theorem dX0_tryOrders_99 : decode cX0_tryOrders 99 = .ok (.getfield 15, 3) := by decide +kernel
theorem dX0_tryOrders_102 : decode cX0_tryOrders 102 = .ok (.iload 5, 2) := by decide +kernel
theorem dX0_tryOrders_104 : decode cX0_tryOrders 104 = .ok (.invokevirtual 115, 3) := by decide +kernel
theorem dX0_tryOrders_107 : decode cX0_tryOrders 107 = .ok (.istore 7, 2) := by decide +kernel
theorem dX0_tryOrders_109 : decode cX0_tryOrders 109 = .ok (.aload_n 0, 1) := by decide +kernel
theorem dX0_tryOrders_110 : decode cX0_tryOrders 110 = .ok (.getfield 15, 3) := by decide +kernel
theorem dX0_tryOrders_113 : decode cX0_tryOrders 113 = .ok (.iload 5, 2) := by decide +kernel
theorem dX0_tryOrders_115 : decode cX0_tryOrders 115 = .ok (.iload 7, 2) := by decide +kernel
theorem dX0_tryOrders_117 : decode cX0_tryOrders 117 = .ok (.aload_n 0, 1) := by decide +kernel
theorem dX0_tryOrders_118 : decode cX0_tryOrders 118 = .ok (.getfield 9, 3) := by decide +kernel
theorem dX0_tryOrders_121 : decode cX0_tryOrders 121 = .ok (.getfield 97, 3) := by decide +kernel
theorem dX0_tryOrders_124 : decode cX0_tryOrders 124 = .ok (.invokevirtual 100, 3) := by decide +kernel
theorem dX0_tryOrders_127 : decode cX0_tryOrders 127 = .ok (.ifCond .eq 20, 3) := by decide +kernel
theorem dX0_tryOrders_130 : decode cX0_tryOrders 130 = .ok (.aload_n 0, 1) := by decide +kernel
theorem dX0_tryOrders_131 : decode cX0_tryOrders 131 = .ok (.getfield 19, 3) := by decide +kernel
theorem dX0_tryOrders_134 : decode cX0_tryOrders 134 = .ok (.iload_n 1, 1) := by decide +kernel
theorem dX0_tryOrders_135 : decode cX0_tryOrders 135 = .ok (.iload 7, 2) := by decide +kernel
theorem dX0_tryOrders_137 : decode cX0_tryOrders 137 = .ok (.aload_n 0, 1) := by decide +kernel
theorem dX0_tryOrders_138 : decode cX0_tryOrders 138 = .ok (.getfield 9, 3) := by decide +kernel
theorem dX0_tryOrders_141 : decode cX0_tryOrders 141 = .ok (.getfield 97, 3) := by decide +kernel
theorem dX0_tryOrders_144 : decode cX0_tryOrders 144 = .ok (.invokevirtual 108, 3) := by decide +kernel
theorem dX0_tryOrders_147 : decode cX0_tryOrders 147 = .ok (.aload_n 0, 1) := by decide +kernel
theorem dX0_tryOrders_148 : decode cX0_tryOrders 148 = .ok (.iload_n 1, 1) := by decide +kernel
theorem dX0_tryOrders_149 : decode cX0_tryOrders 149 = .ok (.iconst 1, 1) := by decide +kernel
theorem dX0_tryOrders_150 : decode cX0_tryOrders 150 = .ok (.iadd, 1) := by decide +kernel
theorem dX0_tryOrders_151 : decode cX0_tryOrders 151 = .ok (.iload 6, 2) := by decide +kernel
theorem dX0_tryOrders_153 : decode cX0_tryOrders 153 = .ok (.iload_n 3, 1) := by decide +kernel
theorem dX0_tryOrders_154 : decode cX0_tryOrders 154 = .ok (.bipush 10, 2) := by decide +kernel
theorem dX0_tryOrders_156 : decode cX0_tryOrders 156 = .ok (.imul, 1) := by decide +kernel
theorem dX0_tryOrders_157 : decode cX0_tryOrders 157 = .ok (.iload 5, 2) := by decide +kernel
theorem dX0_tryOrders_159 : decode cX0_tryOrders 159 = .ok (.iadd, 1) := by decide +kernel
theorem dX0_tryOrders_160 : decode cX0_tryOrders 160 = .ok (.iload 4, 2) := by decide +kernel
theorem dX0_tryOrders_162 : decode cX0_tryOrders 162 = .ok (.iconst 1, 1) := by decide +kernel
theorem dX0_tryOrders_163 : decode cX0_tryOrders 163 = .ok (.iload 5, 2) := by decide +kernel
theorem dX0_tryOrders_165 : decode cX0_tryOrders 165 = .ok (.ishl, 1) := by decide +kernel
theorem dX0_tryOrders_166 : decode cX0_tryOrders 166 = .ok (.ior, 1) := by decide +kernel
theorem dX0_tryOrders_167 : decode cX0_tryOrders 167 = .ok (.invokevirtual 39, 3) := by decide +kernel
theorem dX0_tryOrders_170 : decode cX0_tryOrders 170 = .ok (.iinc 5 1, 3) := by decide +kernel
theorem dX0_tryOrders_173 : decode cX0_tryOrders 173 = .ok (.goto (-154), 3) := by decide +kernel
theorem dX0_tryOrders_176 : decode cX0_tryOrders 176 = .ok (.return_, 1) := by decide +kernel
theorem dX1_init_0 : decode cX1_init 0 = .ok (.aload_n 0, 1) := by decide +kernel
theorem dX1_init_1 : decode cX1_init 1 = .ok (.invokespecial 3, 3) := by decide +kernel
theorem dX1_init_4 : decode cX1_init 4 = .ok (.aload_n 0, 1) := by decide +kernel
theorem dX1_init_5 : decode cX1_init 5 = .ok (.sipush 160, 3) := by decide +kernel
theorem dX1_init_8 : decode cX1_init 8 = .ok (.newarray .int, 2) := by decide +kernel
theorem dX1_init_10 : decode cX1_init 10 = .ok (.putfield 9, 3) := by decide +kernel
theorem dX1_init_13 : decode cX1_init 13 = .ok (.aload_n 0, 1) := by decide +kernel
theorem dX1_init_14 : decode cX1_init 14 = .ok (.sipush 160, 3) := by decide +kernel
theorem dX1_init_17 : decode cX1_init 17 = .ok (.newarray .int, 2) := by decide +kernel
theorem dX1_init_19 : decode cX1_init 19 = .ok (.putfield 15, 3) := by decide +kernel
theorem dX1_init_22 : decode cX1_init 22 = .ok (.return_, 1) := by decide +kernel
theorem dX1_learn_0 : decode cX1_learn 0 = .ok (.aload_n 0, 1) := by decide +kernel
theorem dX1_learn_1 : decode cX1_learn 1 = .ok (.aload_n 1, 1) := by decide +kernel
theorem dX1_learn_2 : decode cX1_learn 2 = .ok (.getfield 18, 3) := by decide +kernel
theorem dX1_learn_5 : decode cX1_learn 5 = .ok (.putfield 24, 3) := by decide +kernel
theorem dX1_learn_8 : decode cX1_learn 8 = .ok (.aload_n 1, 1) := by decide +kernel
theorem dX1_learn_9 : decode cX1_learn 9 = .ok (.getfield 25, 3) := by decide +kernel
theorem dX1_learn_12 : decode cX1_learn 12 = .ok (.iconst 0, 1) := by decide +kernel
theorem dX1_learn_13 : decode cX1_learn 13 = .ok (.aload_n 0, 1) := by decide +kernel
theorem dX1_learn_14 : decode cX1_learn 14 = .ok (.getfield 9, 3) := by decide +kernel
theorem dX1_learn_17 : decode cX1_learn 17 = .ok (.iconst 0, 1) := by decide +kernel
theorem dX1_learn_18 : decode cX1_learn 18 = .ok (.aload_n 0, 1) := by decide +kernel
theorem dX1_learn_19 : decode cX1_learn 19 = .ok (.getfield 9, 3) := by decide +kernel
theorem dX1_learn_22 : decode cX1_learn 22 = .ok (.arraylength, 1) := by decide +kernel
theorem dX1_learn_23 : decode cX1_learn 23 = .ok (.invokestatic 26, 3) := by decide +kernel
theorem dX1_learn_26 : decode cX1_learn 26 = .ok (.return_, 1) := by decide +kernel
theorem dX1_worth_0 : decode cX1_worth 0 = .ok (.iconst 0, 1) := by decide +kernel
theorem dX1_worth_1 : decode cX1_worth 1 = .ok (.istore_n 2, 1) := by decide +kernel
theorem dX1_worth_2 : decode cX1_worth 2 = .ok (.iconst 0, 1) := by decide +kernel
theorem dX1_worth_3 : decode cX1_worth 3 = .ok (.istore_n 3, 1) := by decide +kernel
theorem dX1_worth_4 : decode cX1_worth 4 = .ok (.iload_n 3, 1) := by decide +kernel
theorem dX1_worth_5 : decode cX1_worth 5 = .ok (.aload_n 0, 1) := by decide +kernel
theorem dX1_worth_6 : decode cX1_worth 6 = .ok (.getfield 24, 3) := by decide +kernel
theorem dX1_worth_9 : decode cX1_worth 9 = .ok (.if_icmp .ge 198, 3) := by decide +kernel
theorem dX1_worth_12 : decode cX1_worth 12 = .ok (.aload_n 0, 1) := by decide +kernel
theorem dX1_worth_13 : decode cX1_worth 13 = .ok (.getfield 9, 3) := by decide +kernel
theorem dX1_worth_16 : decode cX1_worth 16 = .ok (.iload_n 3, 1) := by decide +kernel
theorem dX1_worth_17 : decode cX1_worth 17 = .ok (.iaload, 1) := by decide +kernel
theorem dX1_worth_18 : decode cX1_worth 18 = .ok (.sipush 255, 3) := by decide +kernel
theorem dX1_worth_21 : decode cX1_worth 21 = .ok (.iand, 1) := by decide +kernel
theorem dX1_worth_22 : decode cX1_worth 22 = .ok (.istore 4, 2) := by decide +kernel
theorem dX1_worth_24 : decode cX1_worth 24 = .ok (.aload_n 0, 1) := by decide +kernel
theorem dX1_worth_25 : decode cX1_worth 25 = .ok (.getfield 9, 3) := by decide +kernel
theorem dX1_worth_28 : decode cX1_worth 28 = .ok (.iload_n 3, 1) := by decide +kernel
theorem dX1_worth_29 : decode cX1_worth 29 = .ok (.iaload, 1) := by decide +kernel
theorem dX1_worth_30 : decode cX1_worth 30 = .ok (.bipush 8, 2) := by decide +kernel
theorem dX1_worth_32 : decode cX1_worth 32 = .ok (.ishr, 1) := by decide +kernel
theorem dX1_worth_33 : decode cX1_worth 33 = .ok (.istore 5, 2) := by decide +kernel
theorem dX1_worth_35 : decode cX1_worth 35 = .ok (.iload 4, 2) := by decide +kernel
theorem dX1_worth_37 : decode cX1_worth 37 = .ok (.bipush 48, 2) := by decide +kernel
theorem dX1_worth_39 : decode cX1_worth 39 = .ok (.if_icmp .eq 10, 3) := by decide +kernel
theorem dX1_worth_42 : decode cX1_worth 42 = .ok (.iload 4, 2) := by decide +kernel
theorem dX1_worth_44 : decode cX1_worth 44 = .ok (.bipush 121, 2) := by decide +kernel
theorem dX1_worth_46 : decode cX1_worth 46 = .ok (.if_icmp .ne 44, 3) := by decide +kernel
theorem dX1_worth_49 : decode cX1_worth 49 = .ok (.iload_n 2, 1) := by decide +kernel
theorem dX1_worth_50 : decode cX1_worth 50 = .ok (.aload_n 0, 1) := by decide +kernel
theorem dX1_worth_51 : decode cX1_worth 51 = .ok (.getfield 15, 3) := by decide +kernel
theorem dX1_worth_54 : decode cX1_worth 54 = .ok (.arraylength, 1) := by decide +kernel
theorem dX1_worth_55 : decode cX1_worth 55 = .ok (.if_icmp .lt 5, 3) := by decide +kernel
theorem dX1_worth_58 : decode cX1_worth 58 = .ok (.iconst 0, 1) := by decide +kernel
theorem dX1_worth_59 : decode cX1_worth 59 = .ok (.ireturn, 1) := by decide +kernel
theorem dX1_worth_60 : decode cX1_worth 60 = .ok (.aload_n 0, 1) := by decide +kernel
theorem dX1_worth_61 : decode cX1_worth 61 = .ok (.getfield 15, 3) := by decide +kernel
theorem dX1_worth_64 : decode cX1_worth 64 = .ok (.iload_n 2, 1) := by decide +kernel
theorem dX1_worth_65 : decode cX1_worth 65 = .ok (.iload 4, 2) := by decide +kernel
theorem dX1_worth_67 : decode cX1_worth 67 = .ok (.bipush 48, 2) := by decide +kernel
theorem dX1_worth_69 : decode cX1_worth 69 = .ok (.if_icmp .ne 8, 3) := by decide +kernel
theorem dX1_worth_72 : decode cX1_worth 72 = .ok (.iload 5, 2) := by decide +kernel
theorem dX1_worth_74 : decode cX1_worth 74 = .ok (.goto 9, 3) := by decide +kernel
theorem dX1_worth_77 : decode cX1_worth 77 = .ok (.aload_n 1, 1) := by decide +kernel
theorem dX1_worth_78 : decode cX1_worth 78 = .ok (.iload 5, 2) := by decide +kernel
theorem dX1_worth_80 : decode cX1_worth 80 = .ok (.invokestatic 32, 3) := by decide +kernel
theorem dX1_worth_83 : decode cX1_worth 83 = .ok (.iastore, 1) := by decide +kernel
theorem dX1_worth_84 : decode cX1_worth 84 = .ok (.iinc 2 1, 3) := by decide +kernel
theorem dX1_worth_87 : decode cX1_worth 87 = .ok (.goto 114, 3) := by decide +kernel
theorem dX1_worth_90 : decode cX1_worth 90 = .ok (.iload_n 2, 1) := by decide +kernel
theorem dX1_worth_91 : decode cX1_worth 91 = .ok (.iconst 1, 1) := by decide +kernel
theorem dX1_worth_92 : decode cX1_worth 92 = .ok (.if_icmp .ge 5, 3) := by decide +kernel
theorem dX1_worth_95 : decode cX1_worth 95 = .ok (.iconst 0, 1) := by decide +kernel
theorem dX1_worth_96 : decode cX1_worth 96 = .ok (.ireturn, 1) := by decide +kernel
theorem dX1_worth_97 : decode cX1_worth 97 = .ok (.aload_n 0, 1) := by decide +kernel
theorem dX1_worth_98 : decode cX1_worth 98 = .ok (.getfield 15, 3) := by decide +kernel
theorem dX1_worth_101 : decode cX1_worth 101 = .ok (.iload_n 2, 1) := by decide +kernel
theorem dX1_worth_102 : decode cX1_worth 102 = .ok (.iconst 1, 1) := by decide +kernel
theorem dX1_worth_103 : decode cX1_worth 103 = .ok (.isub, 1) := by decide +kernel
theorem dX1_worth_104 : decode cX1_worth 104 = .ok (.iaload, 1) := by decide +kernel
theorem dX1_worth_105 : decode cX1_worth 105 = .ok (.istore 6, 2) := by decide +kernel
theorem dX1_worth_107 : decode cX1_worth 107 = .ok (.iload 4, 2) := by decide +kernel
theorem dX1_worth_109 : decode cX1_worth 109 = .ok (.bipush 59, 2) := by decide +kernel
theorem dX1_worth_111 : decode cX1_worth 111 = .ok (.if_icmp .ne 6, 3) := by decide +kernel
theorem dX1_worth_114 : decode cX1_worth 114 = .ok (.iload 6, 2) := by decide +kernel
theorem dX1_worth_116 : decode cX1_worth 116 = .ok (.ireturn, 1) := by decide +kernel
theorem dX1_worth_117 : decode cX1_worth 117 = .ok (.iload 4, 2) := by decide +kernel
theorem dX1_worth_119 : decode cX1_worth 119 = .ok (.bipush 63, 2) := by decide +kernel
theorem dX1_worth_121 : decode cX1_worth 121 = .ok (.if_icmp .ne 27, 3) := by decide +kernel
theorem dX1_worth_124 : decode cX1_worth 124 = .ok (.iinc 2 (-1), 3) := by decide +kernel
theorem dX1_worth_127 : decode cX1_worth 127 = .ok (.iload 6, 2) := by decide +kernel
theorem dX1_worth_129 : decode cX1_worth 129 = .ok (.ifCond .ne 14, 3) := by decide +kernel
theorem dX1_worth_132 : decode cX1_worth 132 = .ok (.iload_n 3, 1) := by decide +kernel
theorem dX1_worth_133 : decode cX1_worth 133 = .ok (.iload 5, 2) := by decide +kernel
theorem dX1_worth_135 : decode cX1_worth 135 = .ok (.iconst 1, 1) := by decide +kernel
theorem dX1_worth_136 : decode cX1_worth 136 = .ok (.isub, 1) := by decide +kernel
theorem dX1_worth_137 : decode cX1_worth 137 = .ok (.invokestatic 36, 3) := by decide +kernel
theorem dX1_worth_140 : decode cX1_worth 140 = .ok (.goto 4, 3) := by decide +kernel
theorem dX1_worth_143 : decode cX1_worth 143 = .ok (.iload_n 3, 1) := by decide +kernel
theorem dX1_worth_144 : decode cX1_worth 144 = .ok (.istore_n 3, 1) := by decide +kernel
theorem dX1_worth_145 : decode cX1_worth 145 = .ok (.goto 56, 3) := by decide +kernel
theorem dX1_worth_148 : decode cX1_worth 148 = .ok (.iload 4, 2) := by decide +kernel
theorem dX1_worth_150 : decode cX1_worth 150 = .ok (.bipush 33, 2) := by decide +kernel
theorem dX1_worth_152 : decode cX1_worth 152 = .ok (.if_icmp .ne 18, 3) := by decide +kernel
theorem dX1_worth_155 : decode cX1_worth 155 = .ok (.aload_n 0, 1) := by decide +kernel
theorem dX1_worth_156 : decode cX1_worth 156 = .ok (.getfield 15, 3) := by decide +kernel
theorem dX1_worth_159 : decode cX1_worth 159 = .ok (.iload_n 2, 1) := by decide +kernel
theorem dX1_worth_160 : decode cX1_worth 160 = .ok (.iconst 1, 1) := by decide +kernel
theorem dX1_worth_161 : decode cX1_worth 161 = .ok (.isub, 1) := by decide +kernel
theorem dX1_worth_162 : decode cX1_worth 162 = .ok (.iconst 1, 1) := by decide +kernel
theorem dX1_worth_163 : decode cX1_worth 163 = .ok (.iload 6, 2) := by decide +kernel
theorem dX1_worth_165 : decode cX1_worth 165 = .ok (.isub, 1) := by decide +kernel
theorem dX1_worth_166 : decode cX1_worth 166 = .ok (.iastore, 1) := by decide +kernel
theorem dX1_worth_167 : decode cX1_worth 167 = .ok (.goto 34, 3) := by decide +kernel
theorem dX1_worth_170 : decode cX1_worth 170 = .ok (.iload_n 2, 1) := by decide +kernel
theorem dX1_worth_171 : decode cX1_worth 171 = .ok (.iconst 2, 1) := by decide +kernel
theorem dX1_worth_172 : decode cX1_worth 172 = .ok (.if_icmp .lt 29, 3) := by decide +kernel
theorem dX1_worth_175 : decode cX1_worth 175 = .ok (.iinc 2 (-1), 3) := by decide +kernel
theorem dX1_worth_178 : decode cX1_worth 178 = .ok (.aload_n 0, 1) := by decide +kernel
theorem dX1_worth_179 : decode cX1_worth 179 = .ok (.getfield 15, 3) := by decide +kernel
theorem dX1_worth_182 : decode cX1_worth 182 = .ok (.iload_n 2, 1) := by decide +kernel
theorem dX1_worth_183 : decode cX1_worth 183 = .ok (.iconst 1, 1) := by decide +kernel
theorem dX1_worth_184 : decode cX1_worth 184 = .ok (.isub, 1) := by decide +kernel
theorem dX1_worth_185 : decode cX1_worth 185 = .ok (.iload 4, 2) := by decide +kernel
theorem dX1_worth_187 : decode cX1_worth 187 = .ok (.aload_n 0, 1) := by decide +kernel
theorem dX1_worth_188 : decode cX1_worth 188 = .ok (.getfield 15, 3) := by decide +kernel
theorem dX1_worth_191 : decode cX1_worth 191 = .ok (.iload_n 2, 1) := by decide +kernel
theorem dX1_worth_192 : decode cX1_worth 192 = .ok (.iconst 1, 1) := by decide +kernel
theorem dX1_worth_193 : decode cX1_worth 193 = .ok (.isub, 1) := by decide +kernel
theorem dX1_worth_194 : decode cX1_worth 194 = .ok (.iaload, 1) := by decide +kernel
theorem dX1_worth_195 : decode cX1_worth 195 = .ok (.iload 6, 2) := by decide +kernel
theorem dX1_worth_197 : decode cX1_worth 197 = .ok (.invokestatic 42, 3) := by decide +kernel
theorem dX1_worth_200 : decode cX1_worth 200 = .ok (.iastore, 1) := by decide +kernel
theorem dX1_worth_201 : decode cX1_worth 201 = .ok (.iinc 3 1, 3) := by decide +kernel
theorem dX1_worth_204 : decode cX1_worth 204 = .ok (.goto (-200), 3) := by decide +kernel
theorem dX1_worth_207 : decode cX1_worth 207 = .ok (.iconst 0, 1) := by decide +kernel
theorem dX1_worth_208 : decode cX1_worth 208 = .ok (.ireturn, 1) := by decide +kernel
theorem dX1_letterOf_0 : decode cX1_letterOf 0 = .ok (.iload_n 1, 1) := by decide +kernel
theorem dX1_letterOf_1 : decode cX1_letterOf 1 = .ok (.ifCond .lt 15, 3) := by decide +kernel
theorem dX1_letterOf_4 : decode cX1_letterOf 4 = .ok (.iload_n 1, 1) := by decide +kernel
theorem dX1_letterOf_5 : decode cX1_letterOf 5 = .ok (.aload_n 0, 1) := by decide +kernel
theorem dX1_letterOf_6 : decode cX1_letterOf 6 = .ok (.arraylength, 1) := by decide +kernel
theorem dX1_letterOf_7 : decode cX1_letterOf 7 = .ok (.if_icmp .ge 9, 3) := by decide +kernel
theorem dX1_letterOf_10 : decode cX1_letterOf 10 = .ok (.aload_n 0, 1) := by decide +kernel
theorem dX1_letterOf_11 : decode cX1_letterOf 11 = .ok (.iload_n 1, 1) := by decide +kernel
theorem dX1_letterOf_12 : decode cX1_letterOf 12 = .ok (.iaload, 1) := by decide +kernel
theorem dX1_letterOf_13 : decode cX1_letterOf 13 = .ok (.goto 4, 3) := by decide +kernel
theorem dX1_letterOf_16 : decode cX1_letterOf 16 = .ok (.iconst 0, 1) := by decide +kernel
theorem dX1_letterOf_17 : decode cX1_letterOf 17 = .ok (.ireturn, 1) := by decide +kernel
theorem dX1_joined_0 : decode cX1_joined 0 = .ok (.iload_n 0, 1) := by decide +kernel
theorem dX1_joined_1 : decode cX1_joined 1 = .ok (.tableswitch 191 38 62 #[187, 191, 191, 191, 133, 115, 191, 124, 191, 142, 191, 191, 191, 191, 191, 191, 191, 191, 191, 191, 191, 191, 165, 154, 176], 115) := by decide +kernel
theorem dX1_joined_116 : decode cX1_joined 116 = .ok (.iload_n 1, 1) := by decide +kernel
theorem dX1_joined_117 : decode cX1_joined 117 = .ok (.i2l, 1) := by decide +kernel
theorem dX1_joined_118 : decode cX1_joined 118 = .ok (.iload_n 2, 1) := by decide +kernel
theorem dX1_joined_119 : decode cX1_joined 119 = .ok (.i2l, 1) := by decide +kernel
theorem dX1_joined_120 : decode cX1_joined 120 = .ok (.ladd, 1) := by decide +kernel
theorem dX1_joined_121 : decode cX1_joined 121 = .ok (.invokestatic 46, 3) := by decide +kernel
theorem dX1_joined_124 : decode cX1_joined 124 = .ok (.ireturn, 1) := by decide +kernel
theorem dX1_joined_125 : decode cX1_joined 125 = .ok (.iload_n 1, 1) := by decide +kernel
theorem dX1_joined_126 : decode cX1_joined 126 = .ok (.i2l, 1) := by decide +kernel
theorem dX1_joined_127 : decode cX1_joined 127 = .ok (.iload_n 2, 1) := by decide +kernel
theorem dX1_joined_128 : decode cX1_joined 128 = .ok (.i2l, 1) := by decide +kernel
theorem dX1_joined_129 : decode cX1_joined 129 = .ok (.lsub, 1) := by decide +kernel
theorem dX1_joined_130 : decode cX1_joined 130 = .ok (.invokestatic 46, 3) := by decide +kernel
theorem dX1_joined_133 : decode cX1_joined 133 = .ok (.ireturn, 1) := by decide +kernel
theorem dX1_joined_134 : decode cX1_joined 134 = .ok (.iload_n 1, 1) := by decide +kernel
theorem dX1_joined_135 : decode cX1_joined 135 = .ok (.i2l, 1) := by decide +kernel
theorem dX1_joined_136 : decode cX1_joined 136 = .ok (.iload_n 2, 1) := by decide +kernel
theorem dX1_joined_137 : decode cX1_joined 137 = .ok (.i2l, 1) := by decide +kernel
theorem dX1_joined_138 : decode cX1_joined 138 = .ok (.lmul, 1) := by decide +kernel
theorem dX1_joined_139 : decode cX1_joined 139 = .ok (.invokestatic 46, 3) := by decide +kernel
theorem dX1_joined_142 : decode cX1_joined 142 = .ok (.ireturn, 1) := by decide +kernel
theorem dX1_joined_143 : decode cX1_joined 143 = .ok (.iload_n 2, 1) := by decide +kernel
theorem dX1_joined_144 : decode cX1_joined 144 = .ok (.ifCond .ne 7, 3) := by decide +kernel
theorem dX1_joined_147 : decode cX1_joined 147 = .ok (.iconst 0, 1) := by decide +kernel
theorem dX1_joined_148 : decode cX1_joined 148 = .ok (.goto 6, 3) := by decide +kernel
theorem dX1_joined_151 : decode cX1_joined 151 = .ok (.iload_n 1, 1) := by decide +kernel
theorem dX1_joined_152 : decode cX1_joined 152 = .ok (.iload_n 2, 1) := by decide +kernel
theorem dX1_joined_153 : decode cX1_joined 153 = .ok (.idiv, 1) := by decide +kernel
theorem dX1_joined_154 : decode cX1_joined 154 = .ok (.ireturn, 1) := by decide +kernel
theorem dX1_joined_155 : decode cX1_joined 155 = .ok (.iload_n 1, 1) := by decide +kernel
theorem dX1_joined_156 : decode cX1_joined 156 = .ok (.iload_n 2, 1) := by decide +kernel
theorem dX1_joined_157 : decode cX1_joined 157 = .ok (.if_icmp .ne 7, 3) := by decide +kernel
theorem dX1_joined_160 : decode cX1_joined 160 = .ok (.iconst 1, 1) := by decide +kernel
theorem dX1_joined_161 : decode cX1_joined 161 = .ok (.goto 4, 3) := by decide +kernel
theorem dX1_joined_164 : decode cX1_joined 164 = .ok (.iconst 0, 1) := by decide +kernel
theorem dX1_joined_165 : decode cX1_joined 165 = .ok (.ireturn, 1) := by decide +kernel
theorem dX1_joined_166 : decode cX1_joined 166 = .ok (.iload_n 1, 1) := by decide +kernel
theorem dX1_joined_167 : decode cX1_joined 167 = .ok (.iload_n 2, 1) := by decide +kernel
theorem dX1_joined_168 : decode cX1_joined 168 = .ok (.if_icmp .ge 7, 3) := by decide +kernel
theorem dX1_joined_171 : decode cX1_joined 171 = .ok (.iconst 1, 1) := by decide +kernel
theorem dX1_joined_172 : decode cX1_joined 172 = .ok (.goto 4, 3) := by decide +kernel
theorem dX1_joined_175 : decode cX1_joined 175 = .ok (.iconst 0, 1) := by decide +kernel
theorem dX1_joined_176 : decode cX1_joined 176 = .ok (.ireturn, 1) := by decide +kernel
theorem dX1_joined_177 : decode cX1_joined 177 = .ok (.iload_n 1, 1) := by decide +kernel
theorem dX1_joined_178 : decode cX1_joined 178 = .ok (.iload_n 2, 1) := by decide +kernel
theorem dX1_joined_179 : decode cX1_joined 179 = .ok (.if_icmp .le 7, 3) := by decide +kernel
theorem dX1_joined_182 : decode cX1_joined 182 = .ok (.iconst 1, 1) := by decide +kernel
theorem dX1_joined_183 : decode cX1_joined 183 = .ok (.goto 4, 3) := by decide +kernel
theorem dX1_joined_186 : decode cX1_joined 186 = .ok (.iconst 0, 1) := by decide +kernel
theorem dX1_joined_187 : decode cX1_joined 187 = .ok (.ireturn, 1) := by decide +kernel
theorem dX1_joined_188 : decode cX1_joined 188 = .ok (.iload_n 1, 1) := by decide +kernel
theorem dX1_joined_189 : decode cX1_joined 189 = .ok (.iload_n 2, 1) := by decide +kernel
theorem dX1_joined_190 : decode cX1_joined 190 = .ok (.iand, 1) := by decide +kernel
theorem dX1_joined_191 : decode cX1_joined 191 = .ok (.ireturn, 1) := by decide +kernel
theorem dX1_joined_192 : decode cX1_joined 192 = .ok (.iload_n 1, 1) := by decide +kernel
theorem dX1_joined_193 : decode cX1_joined 193 = .ok (.iload_n 2, 1) := by decide +kernel
theorem dX1_joined_194 : decode cX1_joined 194 = .ok (.ior, 1) := by decide +kernel
theorem dX1_joined_195 : decode cX1_joined 195 = .ok (.ireturn, 1) := by decide +kernel
theorem dX1_bounded_0 : decode cX1_bounded 0 = .ok (.ldc2_w 50, 3) := by decide +kernel
theorem dX1_bounded_3 : decode cX1_bounded 3 = .ok (.ldc2_w 52, 3) := by decide +kernel
theorem dX1_bounded_6 : decode cX1_bounded 6 = .ok (.lload_n 0, 1) := by decide +kernel
theorem dX1_bounded_7 : decode cX1_bounded 7 = .ok (.invokestatic 54, 3) := by decide +kernel
theorem dX1_bounded_10 : decode cX1_bounded 10 = .ok (.invokestatic 58, 3) := by decide +kernel
theorem dX1_bounded_13 : decode cX1_bounded 13 = .ok (.l2i, 1) := by decide +kernel
theorem dX1_bounded_14 : decode cX1_bounded 14 = .ok (.ireturn, 1) := by decide +kernel
theorem dX2_init_0 : decode cX2_init 0 = .ok (.aload_n 0, 1) := by decide +kernel
theorem dX2_init_1 : decode cX2_init 1 = .ok (.aload_n 1, 1) := by decide +kernel
theorem dX2_init_2 : decode cX2_init 2 = .ok (.invokespecial 3, 3) := by decide +kernel
theorem dX2_init_5 : decode cX2_init 5 = .ok (.aload_n 0, 1) := by decide +kernel
theorem dX2_init_6 : decode cX2_init 6 = .ok (.sipush 160, 3) := by decide +kernel
theorem dX2_init_9 : decode cX2_init 9 = .ok (.newarray .int, 2) := by decide +kernel
theorem dX2_init_11 : decode cX2_init 11 = .ok (.putfield 9, 3) := by decide +kernel
theorem dX2_init_14 : decode cX2_init 14 = .ok (.return_, 1) := by decide +kernel
theorem dX2_begin_0 : decode cX2_begin 0 = .ok (.aload_n 0, 1) := by decide +kernel
theorem dX2_begin_1 : decode cX2_begin 1 = .ok (.iconst 0, 1) := by decide +kernel
theorem dX2_begin_2 : decode cX2_begin 2 = .ok (.putfield 15, 3) := by decide +kernel
theorem dX2_begin_5 : decode cX2_begin 5 = .ok (.return_, 1) := by decide +kernel
theorem dX2_isWhole_0 : decode cX2_isWhole 0 = .ok (.iconst 1, 1) := by decide +kernel
theorem dX2_isWhole_1 : decode cX2_isWhole 1 = .ok (.ireturn, 1) := by decide +kernel
theorem dX2_write_0 : decode cX2_write 0 = .ok (.aload_n 0, 1) := by decide +kernel
theorem dX2_write_1 : decode cX2_write 1 = .ok (.getfield 15, 3) := by decide +kernel
theorem dX2_write_4 : decode cX2_write 4 = .ok (.aload_n 0, 1) := by decide +kernel
theorem dX2_write_5 : decode cX2_write 5 = .ok (.getfield 9, 3) := by decide +kernel
theorem dX2_write_8 : decode cX2_write 8 = .ok (.arraylength, 1) := by decide +kernel
theorem dX2_write_9 : decode cX2_write 9 = .ok (.if_icmp .ge 28, 3) := by decide +kernel
theorem dX2_write_12 : decode cX2_write 12 = .ok (.aload_n 0, 1) := by decide +kernel
theorem dX2_write_13 : decode cX2_write 13 = .ok (.getfield 9, 3) := by decide +kernel
theorem dX2_write_16 : decode cX2_write 16 = .ok (.aload_n 0, 1) := by decide +kernel
theorem dX2_write_17 : decode cX2_write 17 = .ok (.getfield 15, 3) := by decide +kernel
theorem dX2_write_20 : decode cX2_write 20 = .ok (.iload_n 2, 1) := by decide +kernel
theorem dX2_write_21 : decode cX2_write 21 = .ok (.bipush 8, 2) := by decide +kernel
theorem dX2_write_23 : decode cX2_write 23 = .ok (.ishl, 1) := by decide +kernel
theorem dX2_write_24 : decode cX2_write 24 = .ok (.iload_n 1, 1) := by decide +kernel
theorem dX2_write_25 : decode cX2_write 25 = .ok (.ior, 1) := by decide +kernel
theorem dX2_write_26 : decode cX2_write 26 = .ok (.iastore, 1) := by decide +kernel
theorem dX2_write_27 : decode cX2_write 27 = .ok (.aload_n 0, 1) := by decide +kernel
theorem dX2_write_28 : decode cX2_write 28 = .ok (.dup, 1) := by decide +kernel
theorem dX2_write_29 : decode cX2_write 29 = .ok (.getfield 15, 3) := by decide +kernel
theorem dX2_write_32 : decode cX2_write 32 = .ok (.iconst 1, 1) := by decide +kernel
theorem dX2_write_33 : decode cX2_write 33 = .ok (.iadd, 1) := by decide +kernel
theorem dX2_write_34 : decode cX2_write 34 = .ok (.putfield 15, 3) := by decide +kernel
theorem dX2_write_37 : decode cX2_write 37 = .ok (.return_, 1) := by decide +kernel
theorem dX2_readClause_0 : decode cX2_readClause 0 = .ok (.aload_n 0, 1) := by decide +kernel
theorem dX2_readClause_1 : decode cX2_readClause 1 = .ok (.bipush 121, 2) := by decide +kernel
theorem dX2_readClause_3 : decode cX2_readClause 3 = .ok (.invokevirtual 19, 3) := by decide +kernel
theorem dX2_readClause_6 : decode cX2_readClause 6 = .ok (.ifCond .eq 12, 3) := by decide +kernel
theorem dX2_readClause_9 : decode cX2_readClause 9 = .ok (.aload_n 0, 1) := by decide +kernel
theorem dX2_readClause_10 : decode cX2_readClause 10 = .ok (.bipush 58, 2) := by decide +kernel
theorem dX2_readClause_12 : decode cX2_readClause 12 = .ok (.invokevirtual 19, 3) := by decide +kernel
theorem dX2_readClause_15 : decode cX2_readClause 15 = .ok (.ifCond .ne 5, 3) := by decide +kernel
theorem dX2_readClause_18 : decode cX2_readClause 18 = .ok (.iconst 0, 1) := by decide +kernel
theorem dX2_readClause_19 : decode cX2_readClause 19 = .ok (.ireturn, 1) := by decide +kernel
theorem dX2_readClause_20 : decode cX2_readClause 20 = .ok (.aload_n 0, 1) := by decide +kernel
theorem dX2_readClause_21 : decode cX2_readClause 21 = .ok (.invokevirtual 23, 3) := by decide +kernel
theorem dX2_readClause_24 : decode cX2_readClause 24 = .ok (.istore_n 1, 1) := by decide +kernel
theorem dX2_readClause_25 : decode cX2_readClause 25 = .ok (.iload_n 1, 1) := by decide +kernel
theorem dX2_readClause_26 : decode cX2_readClause 26 = .ok (.bipush 33, 2) := by decide +kernel
theorem dX2_readClause_28 : decode cX2_readClause 28 = .ok (.if_icmp .eq 9, 3) := by decide +kernel
theorem dX2_readClause_31 : decode cX2_readClause 31 = .ok (.iload_n 1, 1) := by decide +kernel
theorem dX2_readClause_32 : decode cX2_readClause 32 = .ok (.bipush 40, 2) := by decide +kernel
theorem dX2_readClause_34 : decode cX2_readClause 34 = .ok (.if_icmp .ne 7, 3) := by decide +kernel
theorem dX2_readClause_37 : decode cX2_readClause 37 = .ok (.iconst 1, 1) := by decide +kernel
theorem dX2_readClause_38 : decode cX2_readClause 38 = .ok (.goto 4, 3) := by decide +kernel
theorem dX2_readClause_41 : decode cX2_readClause 41 = .ok (.iconst 0, 1) := by decide +kernel
theorem dX2_readClause_42 : decode cX2_readClause 42 = .ok (.istore_n 2, 1) := by decide +kernel
theorem dX2_readClause_43 : decode cX2_readClause 43 = .ok (.iload_n 2, 1) := by decide +kernel
theorem dX2_readClause_44 : decode cX2_readClause 44 = .ok (.ifCond .eq 14, 3) := by decide +kernel
theorem dX2_readClause_47 : decode cX2_readClause 47 = .ok (.aload_n 0, 1) := by decide +kernel
theorem dX2_readClause_48 : decode cX2_readClause 48 = .ok (.iconst 0, 1) := by decide +kernel
theorem dX2_readClause_49 : decode cX2_readClause 49 = .ok (.invokevirtual 27, 3) := by decide +kernel
theorem dX2_readClause_52 : decode cX2_readClause 52 = .ok (.ifCond .ne 16, 3) := by decide +kernel
theorem dX2_readClause_55 : decode cX2_readClause 55 = .ok (.goto 11, 3) := by decide +kernel
theorem dX2_readClause_58 : decode cX2_readClause 58 = .ok (.aload_n 0, 1) := by decide +kernel
theorem dX2_readClause_59 : decode cX2_readClause 59 = .ok (.iconst 0, 1) := by decide +kernel
theorem dX2_readClause_60 : decode cX2_readClause 60 = .ok (.invokevirtual 30, 3) := by decide +kernel
theorem dX2_readClause_63 : decode cX2_readClause 63 = .ok (.ifCond .ne 5, 3) := by decide +kernel
theorem dX2_readClause_66 : decode cX2_readClause 66 = .ok (.iconst 0, 1) := by decide +kernel
theorem dX2_readClause_67 : decode cX2_readClause 67 = .ok (.ireturn, 1) := by decide +kernel
theorem dX2_readClause_68 : decode cX2_readClause 68 = .ok (.iload_n 2, 1) := by decide +kernel
theorem dX2_readClause_69 : decode cX2_readClause 69 = .ok (.ifCond .ne 25, 3) := by decide +kernel
theorem dX2_readClause_72 : decode cX2_readClause 72 = .ok (.aload_n 0, 1) := by decide +kernel
theorem dX2_readClause_73 : decode cX2_readClause 73 = .ok (.invokevirtual 23, 3) := by decide +kernel
theorem dX2_readClause_76 : decode cX2_readClause 76 = .ok (.invokestatic 33, 3) := by decide +kernel
theorem dX2_readClause_79 : decode cX2_readClause 79 = .ok (.ifCond .eq 15, 3) := by decide +kernel
theorem dX2_readClause_82 : decode cX2_readClause 82 = .ok (.iconst 1, 1) := by decide +kernel
theorem dX2_readClause_83 : decode cX2_readClause 83 = .ok (.istore_n 2, 1) := by decide +kernel
theorem dX2_readClause_84 : decode cX2_readClause 84 = .ok (.aload_n 0, 1) := by decide +kernel
theorem dX2_readClause_85 : decode cX2_readClause 85 = .ok (.iconst 0, 1) := by decide +kernel
theorem dX2_readClause_86 : decode cX2_readClause 86 = .ok (.invokevirtual 36, 3) := by decide +kernel
theorem dX2_readClause_89 : decode cX2_readClause 89 = .ok (.ifCond .ne 5, 3) := by decide +kernel
theorem dX2_readClause_92 : decode cX2_readClause 92 = .ok (.iconst 0, 1) := by decide +kernel
theorem dX2_readClause_93 : decode cX2_readClause 93 = .ok (.ireturn, 1) := by decide +kernel
theorem dX2_readClause_94 : decode cX2_readClause 94 = .ok (.iconst (-1), 1) := by decide +kernel
theorem dX2_readClause_95 : decode cX2_readClause 95 = .ok (.istore_n 3, 1) := by decide +kernel
theorem dX2_readClause_96 : decode cX2_readClause 96 = .ok (.iload_n 2, 1) := by decide +kernel
theorem dX2_readClause_97 : decode cX2_readClause 97 = .ok (.ifCond .eq 44, 3) := by decide +kernel
theorem dX2_readClause_100 : decode cX2_readClause 100 = .ok (.aload_n 0, 1) := by decide +kernel
theorem dX2_readClause_101 : decode cX2_readClause 101 = .ok (.iconst 0, 1) := by decide +kernel
theorem dX2_readClause_102 : decode cX2_readClause 102 = .ok (.invokevirtual 39, 3) := by decide +kernel
theorem dX2_readClause_105 : decode cX2_readClause 105 = .ok (.ifCond .eq 12, 3) := by decide +kernel
theorem dX2_readClause_108 : decode cX2_readClause 108 = .ok (.aload_n 0, 1) := by decide +kernel
theorem dX2_readClause_109 : decode cX2_readClause 109 = .ok (.bipush 63, 2) := by decide +kernel
theorem dX2_readClause_111 : decode cX2_readClause 111 = .ok (.invokevirtual 19, 3) := by decide +kernel
theorem dX2_readClause_114 : decode cX2_readClause 114 = .ok (.ifCond .ne 5, 3) := by decide +kernel
theorem dX2_readClause_117 : decode cX2_readClause 117 = .ok (.iconst 0, 1) := by decide +kernel
theorem dX2_readClause_118 : decode cX2_readClause 118 = .ok (.ireturn, 1) := by decide +kernel
theorem dX2_readClause_119 : decode cX2_readClause 119 = .ok (.aload_n 0, 1) := by decide +kernel
theorem dX2_readClause_120 : decode cX2_readClause 120 = .ok (.getfield 15, 3) := by decide +kernel
theorem dX2_readClause_123 : decode cX2_readClause 123 = .ok (.istore_n 3, 1) := by decide +kernel
theorem dX2_readClause_124 : decode cX2_readClause 124 = .ok (.aload_n 0, 1) := by decide +kernel
theorem dX2_readClause_125 : decode cX2_readClause 125 = .ok (.bipush 63, 2) := by decide +kernel
theorem dX2_readClause_127 : decode cX2_readClause 127 = .ok (.iconst 0, 1) := by decide +kernel
theorem dX2_readClause_128 : decode cX2_readClause 128 = .ok (.invokevirtual 42, 3) := by decide +kernel
theorem dX2_readClause_131 : decode cX2_readClause 131 = .ok (.aload_n 0, 1) := by decide +kernel
theorem dX2_readClause_132 : decode cX2_readClause 132 = .ok (.iconst 0, 1) := by decide +kernel
theorem dX2_readClause_133 : decode cX2_readClause 133 = .ok (.invokevirtual 30, 3) := by decide +kernel
theorem dX2_readClause_136 : decode cX2_readClause 136 = .ok (.ifCond .ne 5, 3) := by decide +kernel
theorem dX2_readClause_139 : decode cX2_readClause 139 = .ok (.iconst 0, 1) := by decide +kernel
theorem dX2_readClause_140 : decode cX2_readClause 140 = .ok (.ireturn, 1) := by decide +kernel
theorem dX2_readClause_141 : decode cX2_readClause 141 = .ok (.aload_n 0, 1) := by decide +kernel
theorem dX2_readClause_142 : decode cX2_readClause 142 = .ok (.bipush 59, 2) := by decide +kernel
theorem dX2_readClause_144 : decode cX2_readClause 144 = .ok (.iconst 0, 1) := by decide +kernel
theorem dX2_readClause_145 : decode cX2_readClause 145 = .ok (.invokevirtual 42, 3) := by decide +kernel
theorem dX2_readClause_148 : decode cX2_readClause 148 = .ok (.aload_n 0, 1) := by decide +kernel
theorem dX2_readClause_149 : decode cX2_readClause 149 = .ok (.iload_n 3, 1) := by decide +kernel
theorem dX2_readClause_150 : decode cX2_readClause 150 = .ok (.invokevirtual 46, 3) := by decide +kernel
theorem dX2_readClause_153 : decode cX2_readClause 153 = .ok (.iconst 1, 1) := by decide +kernel
theorem dX2_readClause_154 : decode cX2_readClause 154 = .ok (.ireturn, 1) := by decide +kernel
theorem dX2_skipToHere_0 : decode cX2_skipToHere 0 = .ok (.iload_n 1, 1) := by decide +kernel
theorem dX2_skipToHere_1 : decode cX2_skipToHere 1 = .ok (.ifCond .lt 28, 3) := by decide +kernel
theorem dX2_skipToHere_4 : decode cX2_skipToHere 4 = .ok (.iload_n 1, 1) := by decide +kernel
theorem dX2_skipToHere_5 : decode cX2_skipToHere 5 = .ok (.aload_n 0, 1) := by decide +kernel
theorem dX2_skipToHere_6 : decode cX2_skipToHere 6 = .ok (.getfield 9, 3) := by decide +kernel
theorem dX2_skipToHere_9 : decode cX2_skipToHere 9 = .ok (.arraylength, 1) := by decide +kernel
theorem dX2_skipToHere_10 : decode cX2_skipToHere 10 = .ok (.if_icmp .ge 19, 3) := by decide +kernel
theorem dX2_skipToHere_13 : decode cX2_skipToHere 13 = .ok (.aload_n 0, 1) := by decide +kernel
theorem dX2_skipToHere_14 : decode cX2_skipToHere 14 = .ok (.getfield 9, 3) := by decide +kernel
theorem dX2_skipToHere_17 : decode cX2_skipToHere 17 = .ok (.iload_n 1, 1) := by decide +kernel
theorem dX2_skipToHere_18 : decode cX2_skipToHere 18 = .ok (.aload_n 0, 1) := by decide +kernel
theorem dX2_skipToHere_19 : decode cX2_skipToHere 19 = .ok (.getfield 15, 3) := by decide +kernel
theorem dX2_skipToHere_22 : decode cX2_skipToHere 22 = .ok (.bipush 8, 2) := by decide +kernel
theorem dX2_skipToHere_24 : decode cX2_skipToHere 24 = .ok (.ishl, 1) := by decide +kernel
theorem dX2_skipToHere_25 : decode cX2_skipToHere 25 = .ok (.bipush 63, 2) := by decide +kernel
theorem dX2_skipToHere_27 : decode cX2_skipToHere 27 = .ok (.ior, 1) := by decide +kernel
theorem dX2_skipToHere_28 : decode cX2_skipToHere 28 = .ok (.iastore, 1) := by decide +kernel
theorem dX2_skipToHere_29 : decode cX2_skipToHere 29 = .ok (.return_, 1) := by decide +kernel
theorem dX2_isComparison_0 : decode cX2_isComparison 0 = .ok (.iload_n 0, 1) := by decide +kernel
theorem dX2_isComparison_1 : decode cX2_isComparison 1 = .ok (.bipush 61, 2) := by decide +kernel
theorem dX2_isComparison_3 : decode cX2_isComparison 3 = .ok (.if_icmp .eq 15, 3) := by decide +kernel
theorem dX2_isComparison_6 : decode cX2_isComparison 6 = .ok (.iload_n 0, 1) := by decide +kernel
theorem dX2_isComparison_7 : decode cX2_isComparison 7 = .ok (.bipush 60, 2) := by decide +kernel
theorem dX2_isComparison_9 : decode cX2_isComparison 9 = .ok (.if_icmp .eq 9, 3) := by decide +kernel
theorem dX2_isComparison_12 : decode cX2_isComparison 12 = .ok (.iload_n 0, 1) := by decide +kernel
theorem dX2_isComparison_13 : decode cX2_isComparison 13 = .ok (.bipush 62, 2) := by decide +kernel
theorem dX2_isComparison_15 : decode cX2_isComparison 15 = .ok (.if_icmp .ne 7, 3) := by decide +kernel
theorem dX2_isComparison_18 : decode cX2_isComparison 18 = .ok (.iconst 1, 1) := by decide +kernel
theorem dX2_isComparison_19 : decode cX2_isComparison 19 = .ok (.goto 4, 3) := by decide +kernel
theorem dX2_isComparison_22 : decode cX2_isComparison 22 = .ok (.iconst 0, 1) := by decide +kernel
theorem dX2_isComparison_23 : decode cX2_isComparison 23 = .ok (.ireturn, 1) := by decide +kernel
theorem dX2_readUnit_0 : decode cX2_readUnit 0 = .ok (.aload_n 0, 1) := by decide +kernel
theorem dX2_readUnit_1 : decode cX2_readUnit 1 = .ok (.invokevirtual 23, 3) := by decide +kernel
theorem dX2_readUnit_4 : decode cX2_readUnit 4 = .ok (.istore_n 2, 1) := by decide +kernel
theorem dX2_readUnit_5 : decode cX2_readUnit 5 = .ok (.iload_n 2, 1) := by decide +kernel
theorem dX2_readUnit_6 : decode cX2_readUnit 6 = .ok (.bipush 33, 2) := by decide +kernel
theorem dX2_readUnit_8 : decode cX2_readUnit 8 = .ok (.if_icmp .eq 31, 3) := by decide +kernel
theorem dX2_readUnit_11 : decode cX2_readUnit 11 = .ok (.iload_n 2, 1) := by decide +kernel
theorem dX2_readUnit_12 : decode cX2_readUnit 12 = .ok (.bipush 40, 2) := by decide +kernel
theorem dX2_readUnit_14 : decode cX2_readUnit 14 = .ok (.if_icmp .eq 25, 3) := by decide +kernel
theorem dX2_readUnit_17 : decode cX2_readUnit 17 = .ok (.aload_n 0, 1) := by decide +kernel
theorem dX2_readUnit_18 : decode cX2_readUnit 18 = .ok (.iload_n 1, 1) := by decide +kernel
theorem dX2_readUnit_19 : decode cX2_readUnit 19 = .ok (.invokevirtual 30, 3) := by decide +kernel
theorem dX2_readUnit_22 : decode cX2_readUnit 22 = .ok (.ifCond .eq 15, 3) := by decide +kernel
theorem dX2_readUnit_25 : decode cX2_readUnit 25 = .ok (.aload_n 0, 1) := by decide +kernel
theorem dX2_readUnit_26 : decode cX2_readUnit 26 = .ok (.iload_n 1, 1) := by decide +kernel
theorem dX2_readUnit_27 : decode cX2_readUnit 27 = .ok (.invokevirtual 36, 3) := by decide +kernel
theorem dX2_readUnit_30 : decode cX2_readUnit 30 = .ok (.ifCond .eq 7, 3) := by decide +kernel
theorem dX2_readUnit_33 : decode cX2_readUnit 33 = .ok (.iconst 1, 1) := by decide +kernel
theorem dX2_readUnit_34 : decode cX2_readUnit 34 = .ok (.goto 4, 3) := by decide +kernel
theorem dX2_readUnit_37 : decode cX2_readUnit 37 = .ok (.iconst 0, 1) := by decide +kernel
theorem dX2_readUnit_38 : decode cX2_readUnit 38 = .ok (.ireturn, 1) := by decide +kernel
theorem dX2_readUnit_39 : decode cX2_readUnit 39 = .ok (.iload_n 1, 1) := by decide +kernel
theorem dX2_readUnit_40 : decode cX2_readUnit 40 = .ok (.bipush 6, 2) := by decide +kernel
theorem dX2_readUnit_42 : decode cX2_readUnit 42 = .ok (.if_icmp .lt 5, 3) := by decide +kernel
theorem dX2_readUnit_45 : decode cX2_readUnit 45 = .ok (.iconst 0, 1) := by decide +kernel
theorem dX2_readUnit_46 : decode cX2_readUnit 46 = .ok (.ireturn, 1) := by decide +kernel
theorem dX2_readUnit_47 : decode cX2_readUnit 47 = .ok (.aload_n 0, 1) := by decide +kernel
theorem dX2_readUnit_48 : decode cX2_readUnit 48 = .ok (.dup, 1) := by decide +kernel
theorem dX2_readUnit_49 : decode cX2_readUnit 49 = .ok (.getfield 50, 3) := by decide +kernel
theorem dX2_readUnit_52 : decode cX2_readUnit 52 = .ok (.iconst 1, 1) := by decide +kernel
theorem dX2_readUnit_53 : decode cX2_readUnit 53 = .ok (.iadd, 1) := by decide +kernel
theorem dX2_readUnit_54 : decode cX2_readUnit 54 = .ok (.putfield 50, 3) := by decide +kernel
theorem dX2_readUnit_57 : decode cX2_readUnit 57 = .ok (.iload_n 2, 1) := by decide +kernel
theorem dX2_readUnit_58 : decode cX2_readUnit 58 = .ok (.bipush 40, 2) := by decide +kernel
theorem dX2_readUnit_60 : decode cX2_readUnit 60 = .ok (.if_icmp .ne 38, 3) := by decide +kernel
theorem dX2_readUnit_63 : decode cX2_readUnit 63 = .ok (.aload_n 0, 1) := by decide +kernel
theorem dX2_readUnit_64 : decode cX2_readUnit 64 = .ok (.iload_n 1, 1) := by decide +kernel
theorem dX2_readUnit_65 : decode cX2_readUnit 65 = .ok (.iconst 1, 1) := by decide +kernel
theorem dX2_readUnit_66 : decode cX2_readUnit 66 = .ok (.iadd, 1) := by decide +kernel
theorem dX2_readUnit_67 : decode cX2_readUnit 67 = .ok (.invokevirtual 27, 3) := by decide +kernel
theorem dX2_readUnit_70 : decode cX2_readUnit 70 = .ok (.ifCond .eq 26, 3) := by decide +kernel
theorem dX2_readUnit_73 : decode cX2_readUnit 73 = .ok (.aload_n 0, 1) := by decide +kernel
theorem dX2_readUnit_74 : decode cX2_readUnit 74 = .ok (.iload_n 1, 1) := by decide +kernel
theorem dX2_readUnit_75 : decode cX2_readUnit 75 = .ok (.iconst 1, 1) := by decide +kernel
theorem dX2_readUnit_76 : decode cX2_readUnit 76 = .ok (.iadd, 1) := by decide +kernel
theorem dX2_readUnit_77 : decode cX2_readUnit 77 = .ok (.invokevirtual 39, 3) := by decide +kernel
theorem dX2_readUnit_80 : decode cX2_readUnit 80 = .ok (.ifCond .eq 16, 3) := by decide +kernel
theorem dX2_readUnit_83 : decode cX2_readUnit 83 = .ok (.aload_n 0, 1) := by decide +kernel
theorem dX2_readUnit_84 : decode cX2_readUnit 84 = .ok (.bipush 41, 2) := by decide +kernel
theorem dX2_readUnit_86 : decode cX2_readUnit 86 = .ok (.invokevirtual 19, 3) := by decide +kernel
theorem dX2_readUnit_89 : decode cX2_readUnit 89 = .ok (.ifCond .eq 7, 3) := by decide +kernel
theorem dX2_readUnit_92 : decode cX2_readUnit 92 = .ok (.iconst 1, 1) := by decide +kernel
theorem dX2_readUnit_93 : decode cX2_readUnit 93 = .ok (.goto 4, 3) := by decide +kernel
theorem dX2_readUnit_96 : decode cX2_readUnit 96 = .ok (.iconst 0, 1) := by decide +kernel
theorem dX2_readUnit_97 : decode cX2_readUnit 97 = .ok (.ireturn, 1) := by decide +kernel
theorem dX2_readUnit_98 : decode cX2_readUnit 98 = .ok (.aload_n 0, 1) := by decide +kernel
theorem dX2_readUnit_99 : decode cX2_readUnit 99 = .ok (.iload_n 1, 1) := by decide +kernel
theorem dX2_readUnit_100 : decode cX2_readUnit 100 = .ok (.iconst 1, 1) := by decide +kernel
theorem dX2_readUnit_101 : decode cX2_readUnit 101 = .ok (.iadd, 1) := by decide +kernel
theorem dX2_readUnit_102 : decode cX2_readUnit 102 = .ok (.invokevirtual 27, 3) := by decide +kernel
theorem dX2_readUnit_105 : decode cX2_readUnit 105 = .ok (.ifCond .ne 5, 3) := by decide +kernel
theorem dX2_readUnit_108 : decode cX2_readUnit 108 = .ok (.iconst 0, 1) := by decide +kernel
theorem dX2_readUnit_109 : decode cX2_readUnit 109 = .ok (.ireturn, 1) := by decide +kernel
theorem dX2_readUnit_110 : decode cX2_readUnit 110 = .ok (.aload_n 0, 1) := by decide +kernel
theorem dX2_readUnit_111 : decode cX2_readUnit 111 = .ok (.bipush 33, 2) := by decide +kernel
theorem dX2_readUnit_113 : decode cX2_readUnit 113 = .ok (.iconst 0, 1) := by decide +kernel
theorem dX2_readUnit_114 : decode cX2_readUnit 114 = .ok (.invokevirtual 42, 3) := by decide +kernel
theorem dX2_readUnit_117 : decode cX2_readUnit 117 = .ok (.iconst 1, 1) := by decide +kernel
theorem dX2_readUnit_118 : decode cX2_readUnit 118 = .ok (.ireturn, 1) := by decide +kernel
theorem dX2_readComparison_0 : decode cX2_readComparison 0 = .ok (.aload_n 0, 1) := by decide +kernel
theorem dX2_readComparison_1 : decode cX2_readComparison 1 = .ok (.invokevirtual 23, 3) := by decide +kernel
theorem dX2_readComparison_4 : decode cX2_readComparison 4 = .ok (.istore_n 2, 1) := by decide +kernel
theorem dX2_readComparison_5 : decode cX2_readComparison 5 = .ok (.iload_n 2, 1) := by decide +kernel
theorem dX2_readComparison_6 : decode cX2_readComparison 6 = .ok (.invokestatic 33, 3) := by decide +kernel
theorem dX2_readComparison_9 : decode cX2_readComparison 9 = .ok (.ifCond .ne 5, 3) := by decide +kernel
theorem dX2_readComparison_12 : decode cX2_readComparison 12 = .ok (.iconst 0, 1) := by decide +kernel
theorem dX2_readComparison_13 : decode cX2_readComparison 13 = .ok (.ireturn, 1) := by decide +kernel
theorem dX2_readComparison_14 : decode cX2_readComparison 14 = .ok (.aload_n 0, 1) := by decide +kernel
theorem dX2_readComparison_15 : decode cX2_readComparison 15 = .ok (.dup, 1) := by decide +kernel
theorem dX2_readComparison_16 : decode cX2_readComparison 16 = .ok (.getfield 50, 3) := by decide +kernel
theorem dX2_readComparison_19 : decode cX2_readComparison 19 = .ok (.iconst 1, 1) := by decide +kernel
theorem dX2_readComparison_20 : decode cX2_readComparison 20 = .ok (.iadd, 1) := by decide +kernel
theorem dX2_readComparison_21 : decode cX2_readComparison 21 = .ok (.putfield 50, 3) := by decide +kernel
theorem dX2_readComparison_24 : decode cX2_readComparison 24 = .ok (.aload_n 0, 1) := by decide +kernel
theorem dX2_readComparison_25 : decode cX2_readComparison 25 = .ok (.iload_n 1, 1) := by decide +kernel
theorem dX2_readComparison_26 : decode cX2_readComparison 26 = .ok (.invokevirtual 30, 3) := by decide +kernel
theorem dX2_readComparison_29 : decode cX2_readComparison 29 = .ok (.ifCond .ne 5, 3) := by decide +kernel
theorem dX2_readComparison_32 : decode cX2_readComparison 32 = .ok (.iconst 0, 1) := by decide +kernel
theorem dX2_readComparison_33 : decode cX2_readComparison 33 = .ok (.ireturn, 1) := by decide +kernel
theorem dX2_readComparison_34 : decode cX2_readComparison 34 = .ok (.aload_n 0, 1) := by decide +kernel
theorem dX2_readComparison_35 : decode cX2_readComparison 35 = .ok (.iload_n 2, 1) := by decide +kernel
theorem dX2_readComparison_36 : decode cX2_readComparison 36 = .ok (.iconst 0, 1) := by decide +kernel
theorem dX2_readComparison_37 : decode cX2_readComparison 37 = .ok (.invokevirtual 42, 3) := by decide +kernel
theorem dX2_readComparison_40 : decode cX2_readComparison 40 = .ok (.iconst 1, 1) := by decide +kernel
theorem dX2_readComparison_41 : decode cX2_readComparison 41 = .ok (.ireturn, 1) := by decide +kernel
theorem dX2_readRestOfCondition_0 : decode cX2_readRestOfCondition 0 = .ok (.aload_n 0, 1) := by decide +kernel
theorem dX2_readRestOfCondition_1 : decode cX2_readRestOfCondition 1 = .ok (.iload_n 1, 1) := by decide +kernel
theorem dX2_readRestOfCondition_2 : decode cX2_readRestOfCondition 2 = .ok (.invokevirtual 53, 3) := by decide +kernel
theorem dX2_readRestOfCondition_5 : decode cX2_readRestOfCondition 5 = .ok (.ifCond .ne 5, 3) := by decide +kernel
theorem dX2_readRestOfCondition_8 : decode cX2_readRestOfCondition 8 = .ok (.iconst 0, 1) := by decide +kernel
theorem dX2_readRestOfCondition_9 : decode cX2_readRestOfCondition 9 = .ok (.ireturn, 1) := by decide +kernel
theorem dX2_readRestOfCondition_10 : decode cX2_readRestOfCondition 10 = .ok (.iconst 0, 1) := by decide +kernel
theorem dX2_readRestOfCondition_11 : decode cX2_readRestOfCondition 11 = .ok (.istore_n 2, 1) := by decide +kernel
theorem dX2_readRestOfCondition_12 : decode cX2_readRestOfCondition 12 = .ok (.iload_n 2, 1) := by decide +kernel
theorem dX2_readRestOfCondition_13 : decode cX2_readRestOfCondition 13 = .ok (.sipush 160, 3) := by decide +kernel
theorem dX2_readRestOfCondition_16 : decode cX2_readRestOfCondition 16 = .ok (.if_icmp .ge 43, 3) := by decide +kernel
theorem dX2_readRestOfCondition_19 : decode cX2_readRestOfCondition 19 = .ok (.aload_n 0, 1) := by decide +kernel
theorem dX2_readRestOfCondition_20 : decode cX2_readRestOfCondition 20 = .ok (.bipush 124, 2) := by decide +kernel
theorem dX2_readRestOfCondition_22 : decode cX2_readRestOfCondition 22 = .ok (.invokevirtual 19, 3) := by decide +kernel
theorem dX2_readRestOfCondition_25 : decode cX2_readRestOfCondition 25 = .ok (.ifCond .eq 34, 3) := by decide +kernel
theorem dX2_readRestOfCondition_28 : decode cX2_readRestOfCondition 28 = .ok (.aload_n 0, 1) := by decide +kernel
theorem dX2_readRestOfCondition_29 : decode cX2_readRestOfCondition 29 = .ok (.iload_n 1, 1) := by decide +kernel
theorem dX2_readRestOfCondition_30 : decode cX2_readRestOfCondition 30 = .ok (.invokevirtual 27, 3) := by decide +kernel
theorem dX2_readRestOfCondition_33 : decode cX2_readRestOfCondition 33 = .ok (.ifCond .eq 11, 3) := by decide +kernel
theorem dX2_readRestOfCondition_36 : decode cX2_readRestOfCondition 36 = .ok (.aload_n 0, 1) := by decide +kernel
theorem dX2_readRestOfCondition_37 : decode cX2_readRestOfCondition 37 = .ok (.iload_n 1, 1) := by decide +kernel
theorem dX2_readRestOfCondition_38 : decode cX2_readRestOfCondition 38 = .ok (.invokevirtual 53, 3) := by decide +kernel
theorem dX2_readRestOfCondition_41 : decode cX2_readRestOfCondition 41 = .ok (.ifCond .ne 5, 3) := by decide +kernel
theorem dX2_readRestOfCondition_44 : decode cX2_readRestOfCondition 44 = .ok (.iconst 0, 1) := by decide +kernel
theorem dX2_readRestOfCondition_45 : decode cX2_readRestOfCondition 45 = .ok (.ireturn, 1) := by decide +kernel
theorem dX2_readRestOfCondition_46 : decode cX2_readRestOfCondition 46 = .ok (.aload_n 0, 1) := by decide +kernel
theorem dX2_readRestOfCondition_47 : decode cX2_readRestOfCondition 47 = .ok (.bipush 124, 2) := by decide +kernel
theorem dX2_readRestOfCondition_49 : decode cX2_readRestOfCondition 49 = .ok (.iconst 0, 1) := by decide +kernel
theorem dX2_readRestOfCondition_50 : decode cX2_readRestOfCondition 50 = .ok (.invokevirtual 42, 3) := by decide +kernel
theorem dX2_readRestOfCondition_53 : decode cX2_readRestOfCondition 53 = .ok (.iinc 2 1, 3) := by decide +kernel
theorem dX2_readRestOfCondition_56 : decode cX2_readRestOfCondition 56 = .ok (.goto (-44), 3) := by decide +kernel
theorem dX2_readRestOfCondition_59 : decode cX2_readRestOfCondition 59 = .ok (.iconst 1, 1) := by decide +kernel
theorem dX2_readRestOfCondition_60 : decode cX2_readRestOfCondition 60 = .ok (.ireturn, 1) := by decide +kernel
theorem dX2_readRestOfTruth_0 : decode cX2_readRestOfTruth 0 = .ok (.iconst 0, 1) := by decide +kernel
theorem dX2_readRestOfTruth_1 : decode cX2_readRestOfTruth 1 = .ok (.istore_n 2, 1) := by decide +kernel
theorem dX2_readRestOfTruth_2 : decode cX2_readRestOfTruth 2 = .ok (.iload_n 2, 1) := by decide +kernel
theorem dX2_readRestOfTruth_3 : decode cX2_readRestOfTruth 3 = .ok (.sipush 160, 3) := by decide +kernel
theorem dX2_readRestOfTruth_6 : decode cX2_readRestOfTruth 6 = .ok (.if_icmp .ge 35, 3) := by decide +kernel
theorem dX2_readRestOfTruth_9 : decode cX2_readRestOfTruth 9 = .ok (.aload_n 0, 1) := by decide +kernel
theorem dX2_readRestOfTruth_10 : decode cX2_readRestOfTruth 10 = .ok (.bipush 38, 2) := by decide +kernel
theorem dX2_readRestOfTruth_12 : decode cX2_readRestOfTruth 12 = .ok (.invokevirtual 19, 3) := by decide +kernel
theorem dX2_readRestOfTruth_15 : decode cX2_readRestOfTruth 15 = .ok (.ifCond .eq 26, 3) := by decide +kernel
theorem dX2_readRestOfTruth_18 : decode cX2_readRestOfTruth 18 = .ok (.aload_n 0, 1) := by decide +kernel
theorem dX2_readRestOfTruth_19 : decode cX2_readRestOfTruth 19 = .ok (.iload_n 1, 1) := by decide +kernel
theorem dX2_readRestOfTruth_20 : decode cX2_readRestOfTruth 20 = .ok (.invokevirtual 27, 3) := by decide +kernel
theorem dX2_readRestOfTruth_23 : decode cX2_readRestOfTruth 23 = .ok (.ifCond .ne 5, 3) := by decide +kernel
theorem dX2_readRestOfTruth_26 : decode cX2_readRestOfTruth 26 = .ok (.iconst 0, 1) := by decide +kernel
theorem dX2_readRestOfTruth_27 : decode cX2_readRestOfTruth 27 = .ok (.ireturn, 1) := by decide +kernel
theorem dX2_readRestOfTruth_28 : decode cX2_readRestOfTruth 28 = .ok (.aload_n 0, 1) := by decide +kernel
theorem dX2_readRestOfTruth_29 : decode cX2_readRestOfTruth 29 = .ok (.bipush 38, 2) := by decide +kernel
theorem dX2_readRestOfTruth_31 : decode cX2_readRestOfTruth 31 = .ok (.iconst 0, 1) := by decide +kernel
theorem dX2_readRestOfTruth_32 : decode cX2_readRestOfTruth 32 = .ok (.invokevirtual 42, 3) := by decide +kernel
theorem dX2_readRestOfTruth_35 : decode cX2_readRestOfTruth 35 = .ok (.iinc 2 1, 3) := by decide +kernel
theorem dX2_readRestOfTruth_38 : decode cX2_readRestOfTruth 38 = .ok (.goto (-36), 3) := by decide +kernel
theorem dX2_readRestOfTruth_41 : decode cX2_readRestOfTruth 41 = .ok (.iconst 1, 1) := by decide +kernel
theorem dX2_readRestOfTruth_42 : decode cX2_readRestOfTruth 42 = .ok (.ireturn, 1) := by decide +kernel
theorem dX2_readSum_0 : decode cX2_readSum 0 = .ok (.aload_n 0, 1) := by decide +kernel
theorem dX2_readSum_1 : decode cX2_readSum 1 = .ok (.iload_n 1, 1) := by decide +kernel
theorem dX2_readSum_2 : decode cX2_readSum 2 = .ok (.invokevirtual 56, 3) := by decide +kernel
theorem dX2_readSum_5 : decode cX2_readSum 5 = .ok (.ifCond .ne 5, 3) := by decide +kernel
theorem dX2_readSum_8 : decode cX2_readSum 8 = .ok (.iconst 0, 1) := by decide +kernel
theorem dX2_readSum_9 : decode cX2_readSum 9 = .ok (.ireturn, 1) := by decide +kernel
theorem dX2_readSum_10 : decode cX2_readSum 10 = .ok (.aload_n 0, 1) := by decide +kernel
theorem dX2_readSum_11 : decode cX2_readSum 11 = .ok (.invokevirtual 23, 3) := by decide +kernel
theorem dX2_readSum_14 : decode cX2_readSum 14 = .ok (.istore_n 2, 1) := by decide +kernel
theorem dX2_readSum_15 : decode cX2_readSum 15 = .ok (.iconst 0, 1) := by decide +kernel
theorem dX2_readSum_16 : decode cX2_readSum 16 = .ok (.istore_n 3, 1) := by decide +kernel
theorem dX2_readSum_17 : decode cX2_readSum 17 = .ok (.iload_n 3, 1) := by decide +kernel
theorem dX2_readSum_18 : decode cX2_readSum 18 = .ok (.sipush 160, 3) := by decide +kernel
theorem dX2_readSum_21 : decode cX2_readSum 21 = .ok (.if_icmp .ge 52, 3) := by decide +kernel
theorem dX2_readSum_24 : decode cX2_readSum 24 = .ok (.iload_n 2, 1) := by decide +kernel
theorem dX2_readSum_25 : decode cX2_readSum 25 = .ok (.bipush 43, 2) := by decide +kernel
theorem dX2_readSum_27 : decode cX2_readSum 27 = .ok (.if_icmp .eq 9, 3) := by decide +kernel
theorem dX2_readSum_30 : decode cX2_readSum 30 = .ok (.iload_n 2, 1) := by decide +kernel
theorem dX2_readSum_31 : decode cX2_readSum 31 = .ok (.bipush 45, 2) := by decide +kernel
theorem dX2_readSum_33 : decode cX2_readSum 33 = .ok (.if_icmp .ne 40, 3) := by decide +kernel
theorem dX2_readSum_36 : decode cX2_readSum 36 = .ok (.aload_n 0, 1) := by decide +kernel
theorem dX2_readSum_37 : decode cX2_readSum 37 = .ok (.dup, 1) := by decide +kernel
theorem dX2_readSum_38 : decode cX2_readSum 38 = .ok (.getfield 50, 3) := by decide +kernel
theorem dX2_readSum_41 : decode cX2_readSum 41 = .ok (.iconst 1, 1) := by decide +kernel
theorem dX2_readSum_42 : decode cX2_readSum 42 = .ok (.iadd, 1) := by decide +kernel
theorem dX2_readSum_43 : decode cX2_readSum 43 = .ok (.putfield 50, 3) := by decide +kernel
theorem dX2_readSum_46 : decode cX2_readSum 46 = .ok (.aload_n 0, 1) := by decide +kernel
theorem dX2_readSum_47 : decode cX2_readSum 47 = .ok (.iload_n 1, 1) := by decide +kernel
theorem dX2_readSum_48 : decode cX2_readSum 48 = .ok (.invokevirtual 56, 3) := by decide +kernel
theorem dX2_readSum_51 : decode cX2_readSum 51 = .ok (.ifCond .ne 5, 3) := by decide +kernel
theorem dX2_readSum_54 : decode cX2_readSum 54 = .ok (.iconst 0, 1) := by decide +kernel
theorem dX2_readSum_55 : decode cX2_readSum 55 = .ok (.ireturn, 1) := by decide +kernel
theorem dX2_readSum_56 : decode cX2_readSum 56 = .ok (.aload_n 0, 1) := by decide +kernel
theorem dX2_readSum_57 : decode cX2_readSum 57 = .ok (.iload_n 2, 1) := by decide +kernel
theorem dX2_readSum_58 : decode cX2_readSum 58 = .ok (.iconst 0, 1) := by decide +kernel
theorem dX2_readSum_59 : decode cX2_readSum 59 = .ok (.invokevirtual 42, 3) := by decide +kernel
theorem dX2_readSum_62 : decode cX2_readSum 62 = .ok (.aload_n 0, 1) := by decide +kernel
theorem dX2_readSum_63 : decode cX2_readSum 63 = .ok (.invokevirtual 23, 3) := by decide +kernel
theorem dX2_readSum_66 : decode cX2_readSum 66 = .ok (.istore_n 2, 1) := by decide +kernel
theorem dX2_readSum_67 : decode cX2_readSum 67 = .ok (.iinc 3 1, 3) := by decide +kernel
theorem dX2_readSum_70 : decode cX2_readSum 70 = .ok (.goto (-53), 3) := by decide +kernel
theorem dX2_readSum_73 : decode cX2_readSum 73 = .ok (.iconst 1, 1) := by decide +kernel
theorem dX2_readSum_74 : decode cX2_readSum 74 = .ok (.ireturn, 1) := by decide +kernel
theorem dX2_readTerm_0 : decode cX2_readTerm 0 = .ok (.aload_n 0, 1) := by decide +kernel
theorem dX2_readTerm_1 : decode cX2_readTerm 1 = .ok (.iload_n 1, 1) := by decide +kernel
theorem dX2_readTerm_2 : decode cX2_readTerm 2 = .ok (.invokevirtual 59, 3) := by decide +kernel
theorem dX2_readTerm_5 : decode cX2_readTerm 5 = .ok (.ifCond .ne 5, 3) := by decide +kernel
theorem dX2_readTerm_8 : decode cX2_readTerm 8 = .ok (.iconst 0, 1) := by decide +kernel
theorem dX2_readTerm_9 : decode cX2_readTerm 9 = .ok (.ireturn, 1) := by decide +kernel
theorem dX2_readTerm_10 : decode cX2_readTerm 10 = .ok (.aload_n 0, 1) := by decide +kernel
theorem dX2_readTerm_11 : decode cX2_readTerm 11 = .ok (.invokevirtual 23, 3) := by decide +kernel
theorem dX2_readTerm_14 : decode cX2_readTerm 14 = .ok (.istore_n 2, 1) := by decide +kernel
theorem dX2_readTerm_15 : decode cX2_readTerm 15 = .ok (.iconst 0, 1) := by decide +kernel
theorem dX2_readTerm_16 : decode cX2_readTerm 16 = .ok (.istore_n 3, 1) := by decide +kernel
theorem dX2_readTerm_17 : decode cX2_readTerm 17 = .ok (.iload_n 3, 1) := by decide +kernel
theorem dX2_readTerm_18 : decode cX2_readTerm 18 = .ok (.sipush 160, 3) := by decide +kernel
theorem dX2_readTerm_21 : decode cX2_readTerm 21 = .ok (.if_icmp .ge 52, 3) := by decide +kernel
theorem dX2_readTerm_24 : decode cX2_readTerm 24 = .ok (.iload_n 2, 1) := by decide +kernel
theorem dX2_readTerm_25 : decode cX2_readTerm 25 = .ok (.bipush 42, 2) := by decide +kernel
theorem dX2_readTerm_27 : decode cX2_readTerm 27 = .ok (.if_icmp .eq 9, 3) := by decide +kernel
theorem dX2_readTerm_30 : decode cX2_readTerm 30 = .ok (.iload_n 2, 1) := by decide +kernel
theorem dX2_readTerm_31 : decode cX2_readTerm 31 = .ok (.bipush 47, 2) := by decide +kernel
theorem dX2_readTerm_33 : decode cX2_readTerm 33 = .ok (.if_icmp .ne 40, 3) := by decide +kernel
theorem dX2_readTerm_36 : decode cX2_readTerm 36 = .ok (.aload_n 0, 1) := by decide +kernel
theorem dX2_readTerm_37 : decode cX2_readTerm 37 = .ok (.dup, 1) := by decide +kernel
theorem dX2_readTerm_38 : decode cX2_readTerm 38 = .ok (.getfield 50, 3) := by decide +kernel
theorem dX2_readTerm_41 : decode cX2_readTerm 41 = .ok (.iconst 1, 1) := by decide +kernel
theorem dX2_readTerm_42 : decode cX2_readTerm 42 = .ok (.iadd, 1) := by decide +kernel
theorem dX2_readTerm_43 : decode cX2_readTerm 43 = .ok (.putfield 50, 3) := by decide +kernel
theorem dX2_readTerm_46 : decode cX2_readTerm 46 = .ok (.aload_n 0, 1) := by decide +kernel
theorem dX2_readTerm_47 : decode cX2_readTerm 47 = .ok (.iload_n 1, 1) := by decide +kernel
theorem dX2_readTerm_48 : decode cX2_readTerm 48 = .ok (.invokevirtual 59, 3) := by decide +kernel
theorem dX2_readTerm_51 : decode cX2_readTerm 51 = .ok (.ifCond .ne 5, 3) := by decide +kernel
theorem dX2_readTerm_54 : decode cX2_readTerm 54 = .ok (.iconst 0, 1) := by decide +kernel
theorem dX2_readTerm_55 : decode cX2_readTerm 55 = .ok (.ireturn, 1) := by decide +kernel
theorem dX2_readTerm_56 : decode cX2_readTerm 56 = .ok (.aload_n 0, 1) := by decide +kernel
theorem dX2_readTerm_57 : decode cX2_readTerm 57 = .ok (.iload_n 2, 1) := by decide +kernel
theorem dX2_readTerm_58 : decode cX2_readTerm 58 = .ok (.iconst 0, 1) := by decide +kernel
theorem dX2_readTerm_59 : decode cX2_readTerm 59 = .ok (.invokevirtual 42, 3) := by decide +kernel
theorem dX2_readTerm_62 : decode cX2_readTerm 62 = .ok (.aload_n 0, 1) := by decide +kernel
theorem dX2_readTerm_63 : decode cX2_readTerm 63 = .ok (.invokevirtual 23, 3) := by decide +kernel
theorem dX2_readTerm_66 : decode cX2_readTerm 66 = .ok (.istore_n 2, 1) := by decide +kernel
theorem dX2_readTerm_67 : decode cX2_readTerm 67 = .ok (.iinc 3 1, 3) := by decide +kernel
theorem dX2_readTerm_70 : decode cX2_readTerm 70 = .ok (.goto (-53), 3) := by decide +kernel
theorem dX2_readTerm_73 : decode cX2_readTerm 73 = .ok (.iconst 1, 1) := by decide +kernel
theorem dX2_readTerm_74 : decode cX2_readTerm 74 = .ok (.ireturn, 1) := by decide +kernel
theorem dX2_readAtom_0 : decode cX2_readAtom 0 = .ok (.aload_n 0, 1) := by decide +kernel
theorem dX2_readAtom_1 : decode cX2_readAtom 1 = .ok (.invokevirtual 23, 3) := by decide +kernel
theorem dX2_readAtom_4 : decode cX2_readAtom 4 = .ok (.istore_n 2, 1) := by decide +kernel
theorem dX2_readAtom_5 : decode cX2_readAtom 5 = .ok (.iload_n 2, 1) := by decide +kernel
theorem dX2_readAtom_6 : decode cX2_readAtom 6 = .ok (.bipush 91, 2) := by decide +kernel
theorem dX2_readAtom_8 : decode cX2_readAtom 8 = .ok (.if_icmp .ne 46, 3) := by decide +kernel
theorem dX2_readAtom_11 : decode cX2_readAtom 11 = .ok (.iload_n 1, 1) := by decide +kernel
theorem dX2_readAtom_12 : decode cX2_readAtom 12 = .ok (.bipush 6, 2) := by decide +kernel
theorem dX2_readAtom_14 : decode cX2_readAtom 14 = .ok (.if_icmp .lt 5, 3) := by decide +kernel
theorem dX2_readAtom_17 : decode cX2_readAtom 17 = .ok (.iconst 0, 1) := by decide +kernel
theorem dX2_readAtom_18 : decode cX2_readAtom 18 = .ok (.ireturn, 1) := by decide +kernel
theorem dX2_readAtom_19 : decode cX2_readAtom 19 = .ok (.aload_n 0, 1) := by decide +kernel
theorem dX2_readAtom_20 : decode cX2_readAtom 20 = .ok (.dup, 1) := by decide +kernel
theorem dX2_readAtom_21 : decode cX2_readAtom 21 = .ok (.getfield 50, 3) := by decide +kernel
theorem dX2_readAtom_24 : decode cX2_readAtom 24 = .ok (.iconst 1, 1) := by decide +kernel
theorem dX2_readAtom_25 : decode cX2_readAtom 25 = .ok (.iadd, 1) := by decide +kernel
theorem dX2_readAtom_26 : decode cX2_readAtom 26 = .ok (.putfield 50, 3) := by decide +kernel
theorem dX2_readAtom_29 : decode cX2_readAtom 29 = .ok (.aload_n 0, 1) := by decide +kernel
theorem dX2_readAtom_30 : decode cX2_readAtom 30 = .ok (.iload_n 1, 1) := by decide +kernel
theorem dX2_readAtom_31 : decode cX2_readAtom 31 = .ok (.iconst 1, 1) := by decide +kernel
theorem dX2_readAtom_32 : decode cX2_readAtom 32 = .ok (.iadd, 1) := by decide +kernel
theorem dX2_readAtom_33 : decode cX2_readAtom 33 = .ok (.invokevirtual 30, 3) := by decide +kernel
theorem dX2_readAtom_36 : decode cX2_readAtom 36 = .ok (.ifCond .eq 16, 3) := by decide +kernel
theorem dX2_readAtom_39 : decode cX2_readAtom 39 = .ok (.aload_n 0, 1) := by decide +kernel
theorem dX2_readAtom_40 : decode cX2_readAtom 40 = .ok (.bipush 93, 2) := by decide +kernel
theorem dX2_readAtom_42 : decode cX2_readAtom 42 = .ok (.invokevirtual 19, 3) := by decide +kernel
theorem dX2_readAtom_45 : decode cX2_readAtom 45 = .ok (.ifCond .eq 7, 3) := by decide +kernel
theorem dX2_readAtom_48 : decode cX2_readAtom 48 = .ok (.iconst 1, 1) := by decide +kernel
theorem dX2_readAtom_49 : decode cX2_readAtom 49 = .ok (.goto 4, 3) := by decide +kernel
theorem dX2_readAtom_52 : decode cX2_readAtom 52 = .ok (.iconst 0, 1) := by decide +kernel
theorem dX2_readAtom_53 : decode cX2_readAtom 53 = .ok (.ireturn, 1) := by decide +kernel
theorem dX2_readAtom_54 : decode cX2_readAtom 54 = .ok (.ldc 62, 2) := by decide +kernel
theorem dX2_readAtom_56 : decode cX2_readAtom 56 = .ok (.iload_n 2, 1) := by decide +kernel
theorem dX2_readAtom_57 : decode cX2_readAtom 57 = .ok (.i2c, 1) := by decide +kernel
theorem dX2_readAtom_58 : decode cX2_readAtom 58 = .ok (.invokevirtual 64, 3) := by decide +kernel
theorem dX2_readAtom_61 : decode cX2_readAtom 61 = .ok (.istore_n 3, 1) := by decide +kernel
theorem dX2_readAtom_62 : decode cX2_readAtom 62 = .ok (.iload_n 3, 1) := by decide +kernel
theorem dX2_readAtom_63 : decode cX2_readAtom 63 = .ok (.ifCond .lt 22, 3) := by decide +kernel
theorem dX2_readAtom_66 : decode cX2_readAtom 66 = .ok (.aload_n 0, 1) := by decide +kernel
theorem dX2_readAtom_67 : decode cX2_readAtom 67 = .ok (.dup, 1) := by decide +kernel
theorem dX2_readAtom_68 : decode cX2_readAtom 68 = .ok (.getfield 50, 3) := by decide +kernel
theorem dX2_readAtom_71 : decode cX2_readAtom 71 = .ok (.iconst 1, 1) := by decide +kernel
theorem dX2_readAtom_72 : decode cX2_readAtom 72 = .ok (.iadd, 1) := by decide +kernel
theorem dX2_readAtom_73 : decode cX2_readAtom 73 = .ok (.putfield 50, 3) := by decide +kernel
theorem dX2_readAtom_76 : decode cX2_readAtom 76 = .ok (.aload_n 0, 1) := by decide +kernel
theorem dX2_readAtom_77 : decode cX2_readAtom 77 = .ok (.bipush 121, 2) := by decide +kernel
theorem dX2_readAtom_79 : decode cX2_readAtom 79 = .ok (.iload_n 3, 1) := by decide +kernel
theorem dX2_readAtom_80 : decode cX2_readAtom 80 = .ok (.invokevirtual 42, 3) := by decide +kernel
theorem dX2_readAtom_83 : decode cX2_readAtom 83 = .ok (.iconst 1, 1) := by decide +kernel
theorem dX2_readAtom_84 : decode cX2_readAtom 84 = .ok (.ireturn, 1) := by decide +kernel
theorem dX2_readAtom_85 : decode cX2_readAtom 85 = .ok (.aload_n 0, 1) := by decide +kernel
theorem dX2_readAtom_86 : decode cX2_readAtom 86 = .ok (.iconst 4, 1) := by decide +kernel
theorem dX2_readAtom_87 : decode cX2_readAtom 87 = .ok (.invokevirtual 70, 3) := by decide +kernel
theorem dX2_readAtom_90 : decode cX2_readAtom 90 = .ok (.istore 4, 2) := by decide +kernel
theorem dX2_readAtom_92 : decode cX2_readAtom 92 = .ok (.iload 4, 2) := by decide +kernel
theorem dX2_readAtom_94 : decode cX2_readAtom 94 = .ok (.iconst (-1), 1) := by decide +kernel
theorem dX2_readAtom_95 : decode cX2_readAtom 95 = .ok (.if_icmp .ne 5, 3) := by decide +kernel
theorem dX2_readAtom_98 : decode cX2_readAtom 98 = .ok (.iconst 0, 1) := by decide +kernel
theorem dX2_readAtom_99 : decode cX2_readAtom 99 = .ok (.ireturn, 1) := by decide +kernel
theorem dX2_readAtom_100 : decode cX2_readAtom 100 = .ok (.aload_n 0, 1) := by decide +kernel
theorem dX2_readAtom_101 : decode cX2_readAtom 101 = .ok (.bipush 48, 2) := by decide +kernel
theorem dX2_readAtom_103 : decode cX2_readAtom 103 = .ok (.iload 4, 2) := by decide +kernel
theorem dX2_readAtom_105 : decode cX2_readAtom 105 = .ok (.invokevirtual 42, 3) := by decide +kernel
theorem dX2_readAtom_108 : decode cX2_readAtom 108 = .ok (.iconst 1, 1) := by decide +kernel
theorem dX2_readAtom_109 : decode cX2_readAtom 109 = .ok (.ireturn, 1) := by decide +kernel
theorem dX4_init_0 : decode cX4_init 0 = .ok (.aload_n 0, 1) := by decide +kernel
theorem dX4_init_1 : decode cX4_init 1 = .ok (.invokespecial 3, 3) := by decide +kernel
theorem dX4_init_4 : decode cX4_init 4 = .ok (.aload_n 0, 1) := by decide +kernel
theorem dX4_init_5 : decode cX4_init 5 = .ok (.bipush 30, 2) := by decide +kernel
theorem dX4_init_7 : decode cX4_init 7 = .ok (.bipush 30, 2) := by decide +kernel
theorem dX4_init_9 : decode cX4_init 9 = .ok (.multianewarray 9 2, 4) := by decide +kernel
theorem dX4_init_13 : decode cX4_init 13 = .ok (.putfield 11, 3) := by decide +kernel
theorem dX4_init_16 : decode cX4_init 16 = .ok (.aload_n 0, 1) := by decide +kernel
theorem dX4_init_17 : decode cX4_init 17 = .ok (.bipush 30, 2) := by decide +kernel
theorem dX4_init_19 : decode cX4_init 19 = .ok (.bipush 6, 2) := by decide +kernel
theorem dX4_init_21 : decode cX4_init 21 = .ok (.multianewarray 9 2, 4) := by decide +kernel
theorem dX4_init_25 : decode cX4_init 25 = .ok (.putfield 16, 3) := by decide +kernel
theorem dX4_init_28 : decode cX4_init 28 = .ok (.return_, 1) := by decide +kernel
theorem dX4_forget_0 : decode cX4_forget 0 = .ok (.aload_n 0, 1) := by decide +kernel
theorem dX4_forget_1 : decode cX4_forget 1 = .ok (.iconst 0, 1) := by decide +kernel
theorem dX4_forget_2 : decode cX4_forget 2 = .ok (.putfield 19, 3) := by decide +kernel
theorem dX4_forget_5 : decode cX4_forget 5 = .ok (.aload_n 0, 1) := by decide +kernel
theorem dX4_forget_6 : decode cX4_forget 6 = .ok (.iconst 0, 1) := by decide +kernel
theorem dX4_forget_7 : decode cX4_forget 7 = .ok (.putfield 23, 3) := by decide +kernel
theorem dX4_forget_10 : decode cX4_forget 10 = .ok (.return_, 1) := by decide +kernel
theorem dX4_keep_0 : decode cX4_keep 0 = .ok (.aload_n 0, 1) := by decide +kernel
theorem dX4_keep_1 : decode cX4_keep 1 = .ok (.getfield 23, 3) := by decide +kernel
theorem dX4_keep_4 : decode cX4_keep 4 = .ok (.ifCond .lt 12, 3) := by decide +kernel
theorem dX4_keep_7 : decode cX4_keep 7 = .ok (.aload_n 0, 1) := by decide +kernel
theorem dX4_keep_8 : decode cX4_keep 8 = .ok (.getfield 23, 3) := by decide +kernel
theorem dX4_keep_11 : decode cX4_keep 11 = .ok (.bipush 30, 2) := by decide +kernel
theorem dX4_keep_13 : decode cX4_keep 13 = .ok (.if_icmp .lt 8, 3) := by decide +kernel
theorem dX4_keep_16 : decode cX4_keep 16 = .ok (.aload_n 0, 1) := by decide +kernel
theorem dX4_keep_17 : decode cX4_keep 17 = .ok (.iconst 0, 1) := by decide +kernel
theorem dX4_keep_18 : decode cX4_keep 18 = .ok (.putfield 23, 3) := by decide +kernel
theorem dX4_keep_21 : decode cX4_keep 21 = .ok (.aload_n 1, 1) := by decide +kernel
theorem dX4_keep_22 : decode cX4_keep 22 = .ok (.getfield 26, 3) := by decide +kernel
theorem dX4_keep_25 : decode cX4_keep 25 = .ok (.iconst 0, 1) := by decide +kernel
theorem dX4_keep_26 : decode cX4_keep 26 = .ok (.aload_n 0, 1) := by decide +kernel
theorem dX4_keep_27 : decode cX4_keep 27 = .ok (.getfield 11, 3) := by decide +kernel
theorem dX4_keep_30 : decode cX4_keep 30 = .ok (.aload_n 0, 1) := by decide +kernel
theorem dX4_keep_31 : decode cX4_keep 31 = .ok (.getfield 23, 3) := by decide +kernel
theorem dX4_keep_34 : decode cX4_keep 34 = .ok (.aaload, 1) := by decide +kernel
theorem dX4_keep_35 : decode cX4_keep 35 = .ok (.iconst 0, 1) := by decide +kernel
theorem dX4_keep_36 : decode cX4_keep 36 = .ok (.aload_n 1, 1) := by decide +kernel
theorem dX4_keep_37 : decode cX4_keep 37 = .ok (.getfield 26, 3) := by decide +kernel
theorem dX4_keep_40 : decode cX4_keep 40 = .ok (.arraylength, 1) := by decide +kernel
theorem dX4_keep_41 : decode cX4_keep 41 = .ok (.invokestatic 31, 3) := by decide +kernel
theorem dX4_keep_44 : decode cX4_keep 44 = .ok (.aload_n 1, 1) := by decide +kernel
theorem dX4_keep_45 : decode cX4_keep 45 = .ok (.getfield 37, 3) := by decide +kernel
theorem dX4_keep_48 : decode cX4_keep 48 = .ok (.iconst 0, 1) := by decide +kernel
theorem dX4_keep_49 : decode cX4_keep 49 = .ok (.aload_n 0, 1) := by decide +kernel
theorem dX4_keep_50 : decode cX4_keep 50 = .ok (.getfield 16, 3) := by decide +kernel
theorem dX4_keep_53 : decode cX4_keep 53 = .ok (.aload_n 0, 1) := by decide +kernel
theorem dX4_keep_54 : decode cX4_keep 54 = .ok (.getfield 23, 3) := by decide +kernel
theorem dX4_keep_57 : decode cX4_keep 57 = .ok (.aaload, 1) := by decide +kernel
theorem dX4_keep_58 : decode cX4_keep 58 = .ok (.iconst 0, 1) := by decide +kernel
theorem dX4_keep_59 : decode cX4_keep 59 = .ok (.aload_n 1, 1) := by decide +kernel
theorem dX4_keep_60 : decode cX4_keep 60 = .ok (.getfield 37, 3) := by decide +kernel
theorem dX4_keep_63 : decode cX4_keep 63 = .ok (.arraylength, 1) := by decide +kernel
theorem dX4_keep_64 : decode cX4_keep 64 = .ok (.invokestatic 31, 3) := by decide +kernel
theorem dX4_keep_67 : decode cX4_keep 67 = .ok (.aload_n 0, 1) := by decide +kernel
theorem dX4_keep_68 : decode cX4_keep 68 = .ok (.dup, 1) := by decide +kernel
theorem dX4_keep_69 : decode cX4_keep 69 = .ok (.getfield 23, 3) := by decide +kernel
theorem dX4_keep_72 : decode cX4_keep 72 = .ok (.iconst 1, 1) := by decide +kernel
theorem dX4_keep_73 : decode cX4_keep 73 = .ok (.iadd, 1) := by decide +kernel
theorem dX4_keep_74 : decode cX4_keep 74 = .ok (.putfield 23, 3) := by decide +kernel
theorem dX4_keep_77 : decode cX4_keep 77 = .ok (.aload_n 0, 1) := by decide +kernel
theorem dX4_keep_78 : decode cX4_keep 78 = .ok (.aload_n 0, 1) := by decide +kernel
theorem dX4_keep_79 : decode cX4_keep 79 = .ok (.getfield 19, 3) := by decide +kernel
theorem dX4_keep_82 : decode cX4_keep 82 = .ok (.iconst 1, 1) := by decide +kernel
theorem dX4_keep_83 : decode cX4_keep 83 = .ok (.iadd, 1) := by decide +kernel
theorem dX4_keep_84 : decode cX4_keep 84 = .ok (.bipush 30, 2) := by decide +kernel
theorem dX4_keep_86 : decode cX4_keep 86 = .ok (.invokestatic 39, 3) := by decide +kernel
theorem dX4_keep_89 : decode cX4_keep 89 = .ok (.putfield 19, 3) := by decide +kernel
theorem dX4_keep_92 : decode cX4_keep 92 = .ok (.return_, 1) := by decide +kernel
theorem dX4_restore_0 : decode cX4_restore 0 = .ok (.aload_n 0, 1) := by decide +kernel
theorem dX4_restore_1 : decode cX4_restore 1 = .ok (.getfield 19, 3) := by decide +kernel
theorem dX4_restore_4 : decode cX4_restore 4 = .ok (.ifCond .ne 5, 3) := by decide +kernel
theorem dX4_restore_7 : decode cX4_restore 7 = .ok (.iconst 0, 1) := by decide +kernel
theorem dX4_restore_8 : decode cX4_restore 8 = .ok (.ireturn, 1) := by decide +kernel
theorem dX4_restore_9 : decode cX4_restore 9 = .ok (.aload_n 0, 1) := by decide +kernel
theorem dX4_restore_10 : decode cX4_restore 10 = .ok (.aload_n 0, 1) := by decide +kernel
theorem dX4_restore_11 : decode cX4_restore 11 = .ok (.getfield 23, 3) := by decide +kernel
theorem dX4_restore_14 : decode cX4_restore 14 = .ok (.ifCond .le 12, 3) := by decide +kernel
theorem dX4_restore_17 : decode cX4_restore 17 = .ok (.aload_n 0, 1) := by decide +kernel
theorem dX4_restore_18 : decode cX4_restore 18 = .ok (.getfield 23, 3) := by decide +kernel
theorem dX4_restore_21 : decode cX4_restore 21 = .ok (.iconst 1, 1) := by decide +kernel
theorem dX4_restore_22 : decode cX4_restore 22 = .ok (.isub, 1) := by decide +kernel
theorem dX4_restore_23 : decode cX4_restore 23 = .ok (.goto 5, 3) := by decide +kernel
theorem dX4_restore_26 : decode cX4_restore 26 = .ok (.bipush 29, 2) := by decide +kernel
theorem dX4_restore_28 : decode cX4_restore 28 = .ok (.putfield 23, 3) := by decide +kernel
theorem dX4_restore_31 : decode cX4_restore 31 = .ok (.aload_n 0, 1) := by decide +kernel
theorem dX4_restore_32 : decode cX4_restore 32 = .ok (.dup, 1) := by decide +kernel
theorem dX4_restore_33 : decode cX4_restore 33 = .ok (.getfield 19, 3) := by decide +kernel
theorem dX4_restore_36 : decode cX4_restore 36 = .ok (.iconst 1, 1) := by decide +kernel
theorem dX4_restore_37 : decode cX4_restore 37 = .ok (.isub, 1) := by decide +kernel
theorem dX4_restore_38 : decode cX4_restore 38 = .ok (.putfield 19, 3) := by decide +kernel
theorem dX4_restore_41 : decode cX4_restore 41 = .ok (.aload_n 0, 1) := by decide +kernel
theorem dX4_restore_42 : decode cX4_restore 42 = .ok (.getfield 11, 3) := by decide +kernel
theorem dX4_restore_45 : decode cX4_restore 45 = .ok (.aload_n 0, 1) := by decide +kernel
theorem dX4_restore_46 : decode cX4_restore 46 = .ok (.getfield 23, 3) := by decide +kernel
theorem dX4_restore_49 : decode cX4_restore 49 = .ok (.aaload, 1) := by decide +kernel
theorem dX4_restore_50 : decode cX4_restore 50 = .ok (.iconst 0, 1) := by decide +kernel
theorem dX4_restore_51 : decode cX4_restore 51 = .ok (.aload_n 1, 1) := by decide +kernel
theorem dX4_restore_52 : decode cX4_restore 52 = .ok (.getfield 26, 3) := by decide +kernel
theorem dX4_restore_55 : decode cX4_restore 55 = .ok (.iconst 0, 1) := by decide +kernel
theorem dX4_restore_56 : decode cX4_restore 56 = .ok (.aload_n 1, 1) := by decide +kernel
theorem dX4_restore_57 : decode cX4_restore 57 = .ok (.getfield 26, 3) := by decide +kernel
theorem dX4_restore_60 : decode cX4_restore 60 = .ok (.arraylength, 1) := by decide +kernel
theorem dX4_restore_61 : decode cX4_restore 61 = .ok (.invokestatic 31, 3) := by decide +kernel
theorem dX4_restore_64 : decode cX4_restore 64 = .ok (.aload_n 0, 1) := by decide +kernel
theorem dX4_restore_65 : decode cX4_restore 65 = .ok (.getfield 16, 3) := by decide +kernel
theorem dX4_restore_68 : decode cX4_restore 68 = .ok (.aload_n 0, 1) := by decide +kernel
theorem dX4_restore_69 : decode cX4_restore 69 = .ok (.getfield 23, 3) := by decide +kernel
theorem dX4_restore_72 : decode cX4_restore 72 = .ok (.aaload, 1) := by decide +kernel
theorem dX4_restore_73 : decode cX4_restore 73 = .ok (.iconst 0, 1) := by decide +kernel
theorem dX4_restore_74 : decode cX4_restore 74 = .ok (.aload_n 1, 1) := by decide +kernel
theorem dX4_restore_75 : decode cX4_restore 75 = .ok (.getfield 37, 3) := by decide +kernel
theorem dX4_restore_78 : decode cX4_restore 78 = .ok (.iconst 0, 1) := by decide +kernel
theorem dX4_restore_79 : decode cX4_restore 79 = .ok (.aload_n 1, 1) := by decide +kernel
theorem dX4_restore_80 : decode cX4_restore 80 = .ok (.getfield 37, 3) := by decide +kernel
theorem dX4_restore_83 : decode cX4_restore 83 = .ok (.arraylength, 1) := by decide +kernel
theorem dX4_restore_84 : decode cX4_restore 84 = .ok (.invokestatic 31, 3) := by decide +kernel
theorem dX4_restore_87 : decode cX4_restore 87 = .ok (.aload_n 1, 1) := by decide +kernel
theorem dX4_restore_88 : decode cX4_restore 88 = .ok (.dup, 1) := by decide +kernel
theorem dX4_restore_89 : decode cX4_restore 89 = .ok (.getfield 45, 3) := by decide +kernel
theorem dX4_restore_92 : decode cX4_restore 92 = .ok (.iconst 1, 1) := by decide +kernel
theorem dX4_restore_93 : decode cX4_restore 93 = .ok (.isub, 1) := by decide +kernel
theorem dX4_restore_94 : decode cX4_restore 94 = .ok (.putfield 45, 3) := by decide +kernel
theorem dX4_restore_97 : decode cX4_restore 97 = .ok (.iconst 1, 1) := by decide +kernel
theorem dX4_restore_98 : decode cX4_restore 98 = .ok (.ireturn, 1) := by decide +kernel
theorem dX5_init_0 : decode cX5_init 0 = .ok (.aload_n 0, 1) := by decide +kernel
theorem dX5_init_1 : decode cX5_init 1 = .ok (.invokespecial 3, 3) := by decide +kernel
theorem dX5_init_4 : decode cX5_init 4 = .ok (.aload_n 0, 1) := by decide +kernel
theorem dX5_init_5 : decode cX5_init 5 = .ok (.aload_n 1, 1) := by decide +kernel
theorem dX5_init_6 : decode cX5_init 6 = .ok (.putfield 9, 3) := by decide +kernel
theorem dX5_init_9 : decode cX5_init 9 = .ok (.aload_n 0, 1) := by decide +kernel
theorem dX5_init_10 : decode cX5_init 10 = .ok (.iconst 0, 1) := by decide +kernel
theorem dX5_init_11 : decode cX5_init 11 = .ok (.putfield 15, 3) := by decide +kernel
theorem dX5_init_14 : decode cX5_init 14 = .ok (.return_, 1) := by decide +kernel
theorem dX5_read_0 : decode cX5_read 0 = .ok (.aload_n 0, 1) := by decide +kernel
theorem dX5_read_1 : decode cX5_read 1 = .ok (.iconst 0, 1) := by decide +kernel
theorem dX5_read_2 : decode cX5_read 2 = .ok (.putfield 15, 3) := by decide +kernel
theorem dX5_read_5 : decode cX5_read 5 = .ok (.aload_n 0, 1) := by decide +kernel
theorem dX5_read_6 : decode cX5_read 6 = .ok (.invokevirtual 19, 3) := by decide +kernel
theorem dX5_read_9 : decode cX5_read 9 = .ok (.iconst 0, 1) := by decide +kernel
theorem dX5_read_10 : decode cX5_read 10 = .ok (.istore_n 1, 1) := by decide +kernel
theorem dX5_read_11 : decode cX5_read 11 = .ok (.iload_n 1, 1) := by decide +kernel
theorem dX5_read_12 : decode cX5_read 12 = .ok (.sipush 160, 3) := by decide +kernel
theorem dX5_read_15 : decode cX5_read 15 = .ok (.if_icmp .ge 58, 3) := by decide +kernel
theorem dX5_read_18 : decode cX5_read 18 = .ok (.aload_n 0, 1) := by decide +kernel
theorem dX5_read_19 : decode cX5_read 19 = .ok (.invokevirtual 22, 3) := by decide +kernel
theorem dX5_read_22 : decode cX5_read 22 = .ok (.ifCond .ne 8, 3) := by decide +kernel
theorem dX5_read_25 : decode cX5_read 25 = .ok (.aload_n 0, 1) := by decide +kernel
theorem dX5_read_26 : decode cX5_read 26 = .ok (.getfield 15, 3) := by decide +kernel
theorem dX5_read_29 : decode cX5_read 29 = .ok (.ireturn, 1) := by decide +kernel
theorem dX5_read_30 : decode cX5_read 30 = .ok (.aload_n 0, 1) := by decide +kernel
theorem dX5_read_31 : decode cX5_read 31 = .ok (.invokevirtual 26, 3) := by decide +kernel
theorem dX5_read_34 : decode cX5_read 34 = .ok (.ifCond .ne 19, 3) := by decide +kernel
theorem dX5_read_37 : decode cX5_read 37 = .ok (.aload_n 0, 1) := by decide +kernel
theorem dX5_read_38 : decode cX5_read 38 = .ok (.invokevirtual 30, 3) := by decide +kernel
theorem dX5_read_41 : decode cX5_read 41 = .ok (.ifCond .eq 7, 3) := by decide +kernel
theorem dX5_read_44 : decode cX5_read 44 = .ok (.iconst (-1), 1) := by decide +kernel
theorem dX5_read_45 : decode cX5_read 45 = .ok (.goto 7, 3) := by decide +kernel
theorem dX5_read_48 : decode cX5_read 48 = .ok (.aload_n 0, 1) := by decide +kernel
theorem dX5_read_49 : decode cX5_read 49 = .ok (.getfield 15, 3) := by decide +kernel
theorem dX5_read_52 : decode cX5_read 52 = .ok (.ireturn, 1) := by decide +kernel
theorem dX5_read_53 : decode cX5_read 53 = .ok (.aload_n 0, 1) := by decide +kernel
theorem dX5_read_54 : decode cX5_read 54 = .ok (.bipush 59, 2) := by decide +kernel
theorem dX5_read_56 : decode cX5_read 56 = .ok (.invokevirtual 33, 3) := by decide +kernel
theorem dX5_read_59 : decode cX5_read 59 = .ok (.ifCond .ne 8, 3) := by decide +kernel
theorem dX5_read_62 : decode cX5_read 62 = .ok (.aload_n 0, 1) := by decide +kernel
theorem dX5_read_63 : decode cX5_read 63 = .ok (.getfield 15, 3) := by decide +kernel
theorem dX5_read_66 : decode cX5_read 66 = .ok (.ireturn, 1) := by decide +kernel
theorem dX5_read_67 : decode cX5_read 67 = .ok (.iinc 1 1, 3) := by decide +kernel
theorem dX5_read_70 : decode cX5_read 70 = .ok (.goto (-59), 3) := by decide +kernel
theorem dX5_read_73 : decode cX5_read 73 = .ok (.aload_n 0, 1) := by decide +kernel
theorem dX5_read_74 : decode cX5_read 74 = .ok (.getfield 15, 3) := by decide +kernel
theorem dX5_read_77 : decode cX5_read 77 = .ok (.ireturn, 1) := by decide +kernel
theorem dX5_next_0 : decode cX5_next 0 = .ok (.aload_n 0, 1) := by decide +kernel
theorem dX5_next_1 : decode cX5_next 1 = .ok (.getfield 15, 3) := by decide +kernel
theorem dX5_next_4 : decode cX5_next 4 = .ok (.aload_n 0, 1) := by decide +kernel
theorem dX5_next_5 : decode cX5_next 5 = .ok (.getfield 9, 3) := by decide +kernel
theorem dX5_next_8 : decode cX5_next 8 = .ok (.getfield 37, 3) := by decide +kernel
theorem dX5_next_11 : decode cX5_next 11 = .ok (.if_icmp .ge 33, 3) := by decide +kernel
theorem dX5_next_14 : decode cX5_next 14 = .ok (.aload_n 0, 1) := by decide +kernel
theorem dX5_next_15 : decode cX5_next 15 = .ok (.getfield 9, 3) := by decide +kernel
theorem dX5_next_18 : decode cX5_next 18 = .ok (.getfield 42, 3) := by decide +kernel
theorem dX5_next_21 : decode cX5_next 21 = .ok (.aload_n 0, 1) := by decide +kernel
theorem dX5_next_22 : decode cX5_next 22 = .ok (.getfield 15, 3) := by decide +kernel
theorem dX5_next_25 : decode cX5_next 25 = .ok (.iaload, 1) := by decide +kernel
theorem dX5_next_26 : decode cX5_next 26 = .ok (.bipush 32, 2) := by decide +kernel
theorem dX5_next_28 : decode cX5_next 28 = .ok (.if_icmp .ne 16, 3) := by decide +kernel
theorem dX5_next_31 : decode cX5_next 31 = .ok (.aload_n 0, 1) := by decide +kernel
theorem dX5_next_32 : decode cX5_next 32 = .ok (.dup, 1) := by decide +kernel
theorem dX5_next_33 : decode cX5_next 33 = .ok (.getfield 15, 3) := by decide +kernel
theorem dX5_next_36 : decode cX5_next 36 = .ok (.iconst 1, 1) := by decide +kernel
theorem dX5_next_37 : decode cX5_next 37 = .ok (.iadd, 1) := by decide +kernel
theorem dX5_next_38 : decode cX5_next 38 = .ok (.putfield 15, 3) := by decide +kernel
theorem dX5_next_41 : decode cX5_next 41 = .ok (.goto (-41), 3) := by decide +kernel
theorem dX5_next_44 : decode cX5_next 44 = .ok (.aload_n 0, 1) := by decide +kernel
theorem dX5_next_45 : decode cX5_next 45 = .ok (.getfield 15, 3) := by decide +kernel
theorem dX5_next_48 : decode cX5_next 48 = .ok (.aload_n 0, 1) := by decide +kernel
theorem dX5_next_49 : decode cX5_next 49 = .ok (.getfield 9, 3) := by decide +kernel
theorem dX5_next_52 : decode cX5_next 52 = .ok (.getfield 37, 3) := by decide +kernel
theorem dX5_next_55 : decode cX5_next 55 = .ok (.if_icmp .ge 18, 3) := by decide +kernel
theorem dX5_next_58 : decode cX5_next 58 = .ok (.aload_n 0, 1) := by decide +kernel
theorem dX5_next_59 : decode cX5_next 59 = .ok (.getfield 9, 3) := by decide +kernel
theorem dX5_next_62 : decode cX5_next 62 = .ok (.getfield 42, 3) := by decide +kernel
theorem dX5_next_65 : decode cX5_next 65 = .ok (.aload_n 0, 1) := by decide +kernel
theorem dX5_next_66 : decode cX5_next 66 = .ok (.getfield 15, 3) := by decide +kernel
theorem dX5_next_69 : decode cX5_next 69 = .ok (.iaload, 1) := by decide +kernel
theorem dX5_next_70 : decode cX5_next 70 = .ok (.goto 4, 3) := by decide +kernel
theorem dX5_next_73 : decode cX5_next 73 = .ok (.iconst 0, 1) := by decide +kernel
theorem dX5_next_74 : decode cX5_next 74 = .ok (.ireturn, 1) := by decide +kernel
theorem dX5_takes_0 : decode cX5_takes 0 = .ok (.aload_n 0, 1) := by decide +kernel
theorem dX5_takes_1 : decode cX5_takes 1 = .ok (.invokevirtual 26, 3) := by decide +kernel
theorem dX5_takes_4 : decode cX5_takes 4 = .ok (.iload_n 1, 1) := by decide +kernel
theorem dX5_takes_5 : decode cX5_takes 5 = .ok (.if_icmp .eq 5, 3) := by decide +kernel
theorem dX5_takes_8 : decode cX5_takes 8 = .ok (.iconst 0, 1) := by decide +kernel
theorem dX5_takes_9 : decode cX5_takes 9 = .ok (.ireturn, 1) := by decide +kernel
theorem dX5_takes_10 : decode cX5_takes 10 = .ok (.aload_n 0, 1) := by decide +kernel
theorem dX5_takes_11 : decode cX5_takes 11 = .ok (.dup, 1) := by decide +kernel
theorem dX5_takes_12 : decode cX5_takes 12 = .ok (.getfield 15, 3) := by decide +kernel
theorem dX5_takes_15 : decode cX5_takes 15 = .ok (.iconst 1, 1) := by decide +kernel
theorem dX5_takes_16 : decode cX5_takes 16 = .ok (.iadd, 1) := by decide +kernel
theorem dX5_takes_17 : decode cX5_takes 17 = .ok (.putfield 15, 3) := by decide +kernel
theorem dX5_takes_20 : decode cX5_takes 20 = .ok (.iconst 1, 1) := by decide +kernel
theorem dX5_takes_21 : decode cX5_takes 21 = .ok (.ireturn, 1) := by decide +kernel
theorem dX5_isAtDigit_0 : decode cX5_isAtDigit 0 = .ok (.aload_n 0, 1) := by decide +kernel
theorem dX5_isAtDigit_1 : decode cX5_isAtDigit 1 = .ok (.getfield 15, 3) := by decide +kernel
theorem dX5_isAtDigit_4 : decode cX5_isAtDigit 4 = .ok (.aload_n 0, 1) := by decide +kernel
theorem dX5_isAtDigit_5 : decode cX5_isAtDigit 5 = .ok (.getfield 9, 3) := by decide +kernel
theorem dX5_isAtDigit_8 : decode cX5_isAtDigit 8 = .ok (.getfield 37, 3) := by decide +kernel
theorem dX5_isAtDigit_11 : decode cX5_isAtDigit 11 = .ok (.if_icmp .ge 41, 3) := by decide +kernel
theorem dX5_isAtDigit_14 : decode cX5_isAtDigit 14 = .ok (.aload_n 0, 1) := by decide +kernel
theorem dX5_isAtDigit_15 : decode cX5_isAtDigit 15 = .ok (.getfield 9, 3) := by decide +kernel
theorem dX5_isAtDigit_18 : decode cX5_isAtDigit 18 = .ok (.getfield 42, 3) := by decide +kernel
theorem dX5_isAtDigit_21 : decode cX5_isAtDigit 21 = .ok (.aload_n 0, 1) := by decide +kernel
theorem dX5_isAtDigit_22 : decode cX5_isAtDigit 22 = .ok (.getfield 15, 3) := by decide +kernel
theorem dX5_isAtDigit_25 : decode cX5_isAtDigit 25 = .ok (.iaload, 1) := by decide +kernel
theorem dX5_isAtDigit_26 : decode cX5_isAtDigit 26 = .ok (.bipush 48, 2) := by decide +kernel
theorem dX5_isAtDigit_28 : decode cX5_isAtDigit 28 = .ok (.if_icmp .lt 24, 3) := by decide +kernel
theorem dX5_isAtDigit_31 : decode cX5_isAtDigit 31 = .ok (.aload_n 0, 1) := by decide +kernel
theorem dX5_isAtDigit_32 : decode cX5_isAtDigit 32 = .ok (.getfield 9, 3) := by decide +kernel
theorem dX5_isAtDigit_35 : decode cX5_isAtDigit 35 = .ok (.getfield 42, 3) := by decide +kernel
theorem dX5_isAtDigit_38 : decode cX5_isAtDigit 38 = .ok (.aload_n 0, 1) := by decide +kernel
theorem dX5_isAtDigit_39 : decode cX5_isAtDigit 39 = .ok (.getfield 15, 3) := by decide +kernel
theorem dX5_isAtDigit_42 : decode cX5_isAtDigit 42 = .ok (.iaload, 1) := by decide +kernel
theorem dX5_isAtDigit_43 : decode cX5_isAtDigit 43 = .ok (.bipush 57, 2) := by decide +kernel
theorem dX5_isAtDigit_45 : decode cX5_isAtDigit 45 = .ok (.if_icmp .gt 7, 3) := by decide +kernel
theorem dX5_isAtDigit_48 : decode cX5_isAtDigit 48 = .ok (.iconst 1, 1) := by decide +kernel
theorem dX5_isAtDigit_49 : decode cX5_isAtDigit 49 = .ok (.goto 4, 3) := by decide +kernel
theorem dX5_isAtDigit_52 : decode cX5_isAtDigit 52 = .ok (.iconst 0, 1) := by decide +kernel
theorem dX5_isAtDigit_53 : decode cX5_isAtDigit 53 = .ok (.ireturn, 1) := by decide +kernel
theorem dX5_number_0 : decode cX5_number 0 = .ok (.aload_n 0, 1) := by decide +kernel
theorem dX5_number_1 : decode cX5_number 1 = .ok (.invokevirtual 46, 3) := by decide +kernel
theorem dX5_number_4 : decode cX5_number 4 = .ok (.ifCond .ne 5, 3) := by decide +kernel
theorem dX5_number_7 : decode cX5_number 7 = .ok (.iconst (-1), 1) := by decide +kernel
theorem dX5_number_8 : decode cX5_number 8 = .ok (.ireturn, 1) := by decide +kernel
theorem dX5_number_9 : decode cX5_number 9 = .ok (.iconst 0, 1) := by decide +kernel
theorem dX5_number_10 : decode cX5_number 10 = .ok (.istore_n 2, 1) := by decide +kernel
theorem dX5_number_11 : decode cX5_number 11 = .ok (.iconst 0, 1) := by decide +kernel
theorem dX5_number_12 : decode cX5_number 12 = .ok (.istore_n 3, 1) := by decide +kernel
theorem dX5_number_13 : decode cX5_number 13 = .ok (.iload_n 3, 1) := by decide +kernel
theorem dX5_number_14 : decode cX5_number 14 = .ok (.iload_n 1, 1) := by decide +kernel
theorem dX5_number_15 : decode cX5_number 15 = .ok (.if_icmp .ge 47, 3) := by decide +kernel
theorem dX5_number_18 : decode cX5_number 18 = .ok (.aload_n 0, 1) := by decide +kernel
theorem dX5_number_19 : decode cX5_number 19 = .ok (.invokevirtual 46, 3) := by decide +kernel
theorem dX5_number_22 : decode cX5_number 22 = .ok (.ifCond .eq 40, 3) := by decide +kernel
theorem dX5_number_25 : decode cX5_number 25 = .ok (.iload_n 2, 1) := by decide +kernel
theorem dX5_number_26 : decode cX5_number 26 = .ok (.bipush 10, 2) := by decide +kernel
theorem dX5_number_28 : decode cX5_number 28 = .ok (.imul, 1) := by decide +kernel
theorem dX5_number_29 : decode cX5_number 29 = .ok (.aload_n 0, 1) := by decide +kernel
theorem dX5_number_30 : decode cX5_number 30 = .ok (.getfield 9, 3) := by decide +kernel
theorem dX5_number_33 : decode cX5_number 33 = .ok (.getfield 42, 3) := by decide +kernel
theorem dX5_number_36 : decode cX5_number 36 = .ok (.aload_n 0, 1) := by decide +kernel
theorem dX5_number_37 : decode cX5_number 37 = .ok (.getfield 15, 3) := by decide +kernel
theorem dX5_number_40 : decode cX5_number 40 = .ok (.iaload, 1) := by decide +kernel
theorem dX5_number_41 : decode cX5_number 41 = .ok (.iadd, 1) := by decide +kernel
theorem dX5_number_42 : decode cX5_number 42 = .ok (.bipush 48, 2) := by decide +kernel
theorem dX5_number_44 : decode cX5_number 44 = .ok (.isub, 1) := by decide +kernel
theorem dX5_number_45 : decode cX5_number 45 = .ok (.istore_n 2, 1) := by decide +kernel
theorem dX5_number_46 : decode cX5_number 46 = .ok (.aload_n 0, 1) := by decide +kernel
theorem dX5_number_47 : decode cX5_number 47 = .ok (.dup, 1) := by decide +kernel
theorem dX5_number_48 : decode cX5_number 48 = .ok (.getfield 15, 3) := by decide +kernel
theorem dX5_number_51 : decode cX5_number 51 = .ok (.iconst 1, 1) := by decide +kernel
theorem dX5_number_52 : decode cX5_number 52 = .ok (.iadd, 1) := by decide +kernel
theorem dX5_number_53 : decode cX5_number 53 = .ok (.putfield 15, 3) := by decide +kernel
theorem dX5_number_56 : decode cX5_number 56 = .ok (.iinc 3 1, 3) := by decide +kernel
theorem dX5_number_59 : decode cX5_number 59 = .ok (.goto (-46), 3) := by decide +kernel
theorem dX5_number_62 : decode cX5_number 62 = .ok (.aload_n 0, 1) := by decide +kernel
theorem dX5_number_63 : decode cX5_number 63 = .ok (.invokevirtual 46, 3) := by decide +kernel
theorem dX5_number_66 : decode cX5_number 66 = .ok (.ifCond .eq 7, 3) := by decide +kernel
theorem dX5_number_69 : decode cX5_number 69 = .ok (.iconst (-1), 1) := by decide +kernel
theorem dX5_number_70 : decode cX5_number 70 = .ok (.goto 4, 3) := by decide +kernel
theorem dX5_number_73 : decode cX5_number 73 = .ok (.iload_n 2, 1) := by decide +kernel
theorem dX5_number_74 : decode cX5_number 74 = .ok (.ireturn, 1) := by decide +kernel
theorem dX6_init_0 : decode cX6_init 0 = .ok (.aload_n 0, 1) := by decide +kernel
theorem dX6_init_1 : decode cX6_init 1 = .ok (.invokespecial 3, 3) := by decide +kernel
theorem dX6_init_4 : decode cX6_init 4 = .ok (.aload_n 0, 1) := by decide +kernel
theorem dX6_init_5 : decode cX6_init 5 = .ok (.bipush 30, 2) := by decide +kernel
theorem dX6_init_7 : decode cX6_init 7 = .ok (.newarray .int, 2) := by decide +kernel
theorem dX6_init_9 : decode cX6_init 9 = .ok (.putfield 9, 3) := by decide +kernel
theorem dX6_init_12 : decode cX6_init 12 = .ok (.aload_n 0, 1) := by decide +kernel
theorem dX6_init_13 : decode cX6_init 13 = .ok (.bipush 6, 2) := by decide +kernel
theorem dX6_init_15 : decode cX6_init 15 = .ok (.newarray .int, 2) := by decide +kernel
theorem dX6_init_17 : decode cX6_init 17 = .ok (.putfield 15, 3) := by decide +kernel
theorem dX6_init_20 : decode cX6_init 20 = .ok (.aload_n 0, 1) := by decide +kernel
theorem dX6_init_21 : decode cX6_init 21 = .ok (.bipush 6, 2) := by decide +kernel
theorem dX6_init_23 : decode cX6_init 23 = .ok (.newarray .int, 2) := by decide +kernel
theorem dX6_init_25 : decode cX6_init 25 = .ok (.putfield 18, 3) := by decide +kernel
theorem dX6_init_28 : decode cX6_init 28 = .ok (.aload_n 0, 1) := by decide +kernel
theorem dX6_init_29 : decode cX6_init 29 = .ok (.bipush 6, 2) := by decide +kernel
theorem dX6_init_31 : decode cX6_init 31 = .ok (.newarray .int, 2) := by decide +kernel
theorem dX6_init_33 : decode cX6_init 33 = .ok (.putfield 21, 3) := by decide +kernel
theorem dX6_init_36 : decode cX6_init 36 = .ok (.return_, 1) := by decide +kernel
theorem dX6_begin_0 : decode cX6_begin 0 = .ok (.aload_n 0, 1) := by decide +kernel
theorem dX6_begin_1 : decode cX6_begin 1 = .ok (.iconst 0, 1) := by decide +kernel
theorem dX6_begin_2 : decode cX6_begin 2 = .ok (.putfield 24, 3) := by decide +kernel
theorem dX6_begin_5 : decode cX6_begin 5 = .ok (.iconst 0, 1) := by decide +kernel
theorem dX6_begin_6 : decode cX6_begin 6 = .ok (.istore_n 2, 1) := by decide +kernel
theorem dX6_begin_7 : decode cX6_begin 7 = .ok (.iload_n 2, 1) := by decide +kernel
theorem dX6_begin_8 : decode cX6_begin 8 = .ok (.bipush 6, 2) := by decide +kernel
theorem dX6_begin_10 : decode cX6_begin 10 = .ok (.if_icmp .ge 49, 3) := by decide +kernel
theorem dX6_begin_13 : decode cX6_begin 13 = .ok (.aload_n 1, 1) := by decide +kernel
theorem dX6_begin_14 : decode cX6_begin 14 = .ok (.getfield 28, 3) := by decide +kernel
theorem dX6_begin_17 : decode cX6_begin 17 = .ok (.iload_n 2, 1) := by decide +kernel
theorem dX6_begin_18 : decode cX6_begin 18 = .ok (.aaload, 1) := by decide +kernel
theorem dX6_begin_19 : decode cX6_begin 19 = .ok (.iconst 0, 1) := by decide +kernel
theorem dX6_begin_20 : decode cX6_begin 20 = .ok (.aload_n 0, 1) := by decide +kernel
theorem dX6_begin_21 : decode cX6_begin 21 = .ok (.getfield 9, 3) := by decide +kernel
theorem dX6_begin_24 : decode cX6_begin 24 = .ok (.iload_n 2, 1) := by decide +kernel
theorem dX6_begin_25 : decode cX6_begin 25 = .ok (.iconst 5, 1) := by decide +kernel
theorem dX6_begin_26 : decode cX6_begin 26 = .ok (.imul, 1) := by decide +kernel
theorem dX6_begin_27 : decode cX6_begin 27 = .ok (.iconst 5, 1) := by decide +kernel
theorem dX6_begin_28 : decode cX6_begin 28 = .ok (.invokestatic 34, 3) := by decide +kernel
theorem dX6_begin_31 : decode cX6_begin 31 = .ok (.aload_n 0, 1) := by decide +kernel
theorem dX6_begin_32 : decode cX6_begin 32 = .ok (.getfield 15, 3) := by decide +kernel
theorem dX6_begin_35 : decode cX6_begin 35 = .ok (.iload_n 2, 1) := by decide +kernel
theorem dX6_begin_36 : decode cX6_begin 36 = .ok (.iconst 0, 1) := by decide +kernel
theorem dX6_begin_37 : decode cX6_begin 37 = .ok (.iastore, 1) := by decide +kernel
theorem dX6_begin_38 : decode cX6_begin 38 = .ok (.aload_n 0, 1) := by decide +kernel
theorem dX6_begin_39 : decode cX6_begin 39 = .ok (.getfield 18, 3) := by decide +kernel
theorem dX6_begin_42 : decode cX6_begin 42 = .ok (.iload_n 2, 1) := by decide +kernel
theorem dX6_begin_43 : decode cX6_begin 43 = .ok (.iload_n 2, 1) := by decide +kernel
theorem dX6_begin_44 : decode cX6_begin 44 = .ok (.iastore, 1) := by decide +kernel
theorem dX6_begin_45 : decode cX6_begin 45 = .ok (.aload_n 0, 1) := by decide +kernel
theorem dX6_begin_46 : decode cX6_begin 46 = .ok (.getfield 21, 3) := by decide +kernel
theorem dX6_begin_49 : decode cX6_begin 49 = .ok (.iload_n 2, 1) := by decide +kernel
theorem dX6_begin_50 : decode cX6_begin 50 = .ok (.bipush 9, 2) := by decide +kernel
theorem dX6_begin_52 : decode cX6_begin 52 = .ok (.iastore, 1) := by decide +kernel
theorem dX6_begin_53 : decode cX6_begin 53 = .ok (.iinc 2 1, 3) := by decide +kernel
theorem dX6_begin_56 : decode cX6_begin 56 = .ok (.goto (-49), 3) := by decide +kernel
theorem dX6_begin_59 : decode cX6_begin 59 = .ok (.return_, 1) := by decide +kernel
theorem dX6_copy_0 : decode cX6_copy 0 = .ok (.aload_n 0, 1) := by decide +kernel
theorem dX6_copy_1 : decode cX6_copy 1 = .ok (.aload_n 1, 1) := by decide +kernel
theorem dX6_copy_2 : decode cX6_copy 2 = .ok (.getfield 24, 3) := by decide +kernel
theorem dX6_copy_5 : decode cX6_copy 5 = .ok (.putfield 24, 3) := by decide +kernel
theorem dX6_copy_8 : decode cX6_copy 8 = .ok (.aload_n 1, 1) := by decide +kernel
theorem dX6_copy_9 : decode cX6_copy 9 = .ok (.getfield 9, 3) := by decide +kernel
theorem dX6_copy_12 : decode cX6_copy 12 = .ok (.iconst 0, 1) := by decide +kernel
theorem dX6_copy_13 : decode cX6_copy 13 = .ok (.aload_n 0, 1) := by decide +kernel
theorem dX6_copy_14 : decode cX6_copy 14 = .ok (.getfield 9, 3) := by decide +kernel
theorem dX6_copy_17 : decode cX6_copy 17 = .ok (.iconst 0, 1) := by decide +kernel
theorem dX6_copy_18 : decode cX6_copy 18 = .ok (.aload_n 0, 1) := by decide +kernel
theorem dX6_copy_19 : decode cX6_copy 19 = .ok (.getfield 9, 3) := by decide +kernel
theorem dX6_copy_22 : decode cX6_copy 22 = .ok (.arraylength, 1) := by decide +kernel
theorem dX6_copy_23 : decode cX6_copy 23 = .ok (.invokestatic 34, 3) := by decide +kernel
theorem dX6_copy_26 : decode cX6_copy 26 = .ok (.aload_n 1, 1) := by decide +kernel
theorem dX6_copy_27 : decode cX6_copy 27 = .ok (.getfield 15, 3) := by decide +kernel
theorem dX6_copy_30 : decode cX6_copy 30 = .ok (.iconst 0, 1) := by decide +kernel
theorem dX6_copy_31 : decode cX6_copy 31 = .ok (.aload_n 0, 1) := by decide +kernel
theorem dX6_copy_32 : decode cX6_copy 32 = .ok (.getfield 15, 3) := by decide +kernel
theorem dX6_copy_35 : decode cX6_copy 35 = .ok (.iconst 0, 1) := by decide +kernel
theorem dX6_copy_36 : decode cX6_copy 36 = .ok (.aload_n 0, 1) := by decide +kernel
theorem dX6_copy_37 : decode cX6_copy 37 = .ok (.getfield 15, 3) := by decide +kernel
theorem dX6_copy_40 : decode cX6_copy 40 = .ok (.arraylength, 1) := by decide +kernel
theorem dX6_copy_41 : decode cX6_copy 41 = .ok (.invokestatic 34, 3) := by decide +kernel
theorem dX6_copy_44 : decode cX6_copy 44 = .ok (.aload_n 1, 1) := by decide +kernel
theorem dX6_copy_45 : decode cX6_copy 45 = .ok (.getfield 18, 3) := by decide +kernel
theorem dX6_copy_48 : decode cX6_copy 48 = .ok (.iconst 0, 1) := by decide +kernel
theorem dX6_copy_49 : decode cX6_copy 49 = .ok (.aload_n 0, 1) := by decide +kernel
theorem dX6_copy_50 : decode cX6_copy 50 = .ok (.getfield 18, 3) := by decide +kernel
theorem dX6_copy_53 : decode cX6_copy 53 = .ok (.iconst 0, 1) := by decide +kernel
theorem dX6_copy_54 : decode cX6_copy 54 = .ok (.aload_n 0, 1) := by decide +kernel
theorem dX6_copy_55 : decode cX6_copy 55 = .ok (.getfield 18, 3) := by decide +kernel
theorem dX6_copy_58 : decode cX6_copy 58 = .ok (.arraylength, 1) := by decide +kernel
theorem dX6_copy_59 : decode cX6_copy 59 = .ok (.invokestatic 34, 3) := by decide +kernel
theorem dX6_copy_62 : decode cX6_copy 62 = .ok (.aload_n 1, 1) := by decide +kernel
theorem dX6_copy_63 : decode cX6_copy 63 = .ok (.getfield 21, 3) := by decide +kernel
theorem dX6_copy_66 : decode cX6_copy 66 = .ok (.iconst 0, 1) := by decide +kernel
theorem dX6_copy_67 : decode cX6_copy 67 = .ok (.aload_n 0, 1) := by decide +kernel
theorem dX6_copy_68 : decode cX6_copy 68 = .ok (.getfield 21, 3) := by decide +kernel
theorem dX6_copy_71 : decode cX6_copy 71 = .ok (.iconst 0, 1) := by decide +kernel
theorem dX6_copy_72 : decode cX6_copy 72 = .ok (.aload_n 0, 1) := by decide +kernel
theorem dX6_copy_73 : decode cX6_copy 73 = .ok (.getfield 21, 3) := by decide +kernel
theorem dX6_copy_76 : decode cX6_copy 76 = .ok (.arraylength, 1) := by decide +kernel
theorem dX6_copy_77 : decode cX6_copy 77 = .ok (.invokestatic 34, 3) := by decide +kernel
theorem dX6_copy_80 : decode cX6_copy 80 = .ok (.return_, 1) := by decide +kernel
theorem dX6_isStore_0 : decode cX6_isStore 0 = .ok (.iload_n 0, 1) := by decide +kernel
theorem dX6_isStore_1 : decode cX6_isStore 1 = .ok (.ifCond .lt 20, 3) := by decide +kernel
theorem dX6_isStore_4 : decode cX6_isStore 4 = .ok (.iload_n 0, 1) := by decide +kernel
theorem dX6_isStore_5 : decode cX6_isStore 5 = .ok (.bipush 6, 2) := by decide +kernel
theorem dX6_isStore_7 : decode cX6_isStore 7 = .ok (.if_icmp .ge 14, 3) := by decide +kernel
theorem dX6_isStore_10 : decode cX6_isStore 10 = .ok (.iload_n 1, 1) := by decide +kernel
theorem dX6_isStore_11 : decode cX6_isStore 11 = .ok (.invokestatic 40, 3) := by decide +kernel
theorem dX6_isStore_14 : decode cX6_isStore 14 = .ok (.ifCond .eq 7, 3) := by decide +kernel
theorem dX6_isStore_17 : decode cX6_isStore 17 = .ok (.iconst 1, 1) := by decide +kernel
theorem dX6_isStore_18 : decode cX6_isStore 18 = .ok (.goto 4, 3) := by decide +kernel
theorem dX6_isStore_21 : decode cX6_isStore 21 = .ok (.iconst 0, 1) := by decide +kernel
theorem dX6_isStore_22 : decode cX6_isStore 22 = .ok (.ireturn, 1) := by decide +kernel
theorem dX6_store_0 : decode cX6_store 0 = .ok (.iload_n 1, 1) := by decide +kernel
theorem dX6_store_1 : decode cX6_store 1 = .ok (.iload_n 2, 1) := by decide +kernel
theorem dX6_store_2 : decode cX6_store 2 = .ok (.invokestatic 44, 3) := by decide +kernel
theorem dX6_store_5 : decode cX6_store 5 = .ok (.ifCond .eq 16, 3) := by decide +kernel
theorem dX6_store_8 : decode cX6_store 8 = .ok (.aload_n 0, 1) := by decide +kernel
theorem dX6_store_9 : decode cX6_store 9 = .ok (.getfield 9, 3) := by decide +kernel
theorem dX6_store_12 : decode cX6_store 12 = .ok (.iload_n 1, 1) := by decide +kernel
theorem dX6_store_13 : decode cX6_store 13 = .ok (.iconst 5, 1) := by decide +kernel
theorem dX6_store_14 : decode cX6_store 14 = .ok (.imul, 1) := by decide +kernel
theorem dX6_store_15 : decode cX6_store 15 = .ok (.iload_n 2, 1) := by decide +kernel
theorem dX6_store_16 : decode cX6_store 16 = .ok (.iadd, 1) := by decide +kernel
theorem dX6_store_17 : decode cX6_store 17 = .ok (.iaload, 1) := by decide +kernel
theorem dX6_store_18 : decode cX6_store 18 = .ok (.goto 4, 3) := by decide +kernel
theorem dX6_store_21 : decode cX6_store 21 = .ok (.iconst 0, 1) := by decide +kernel
theorem dX6_store_22 : decode cX6_store 22 = .ok (.ireturn, 1) := by decide +kernel
theorem dX6_setStore_0 : decode cX6_setStore 0 = .ok (.iload_n 1, 1) := by decide +kernel
theorem dX6_setStore_1 : decode cX6_setStore 1 = .ok (.iload_n 2, 1) := by decide +kernel
theorem dX6_setStore_2 : decode cX6_setStore 2 = .ok (.invokestatic 44, 3) := by decide +kernel
theorem dX6_setStore_5 : decode cX6_setStore 5 = .ok (.ifCond .eq 14, 3) := by decide +kernel
theorem dX6_setStore_8 : decode cX6_setStore 8 = .ok (.aload_n 0, 1) := by decide +kernel
theorem dX6_setStore_9 : decode cX6_setStore 9 = .ok (.getfield 9, 3) := by decide +kernel
theorem dX6_setStore_12 : decode cX6_setStore 12 = .ok (.iload_n 1, 1) := by decide +kernel
theorem dX6_setStore_13 : decode cX6_setStore 13 = .ok (.iconst 5, 1) := by decide +kernel
theorem dX6_setStore_14 : decode cX6_setStore 14 = .ok (.imul, 1) := by decide +kernel
theorem dX6_setStore_15 : decode cX6_setStore 15 = .ok (.iload_n 2, 1) := by decide +kernel
theorem dX6_setStore_16 : decode cX6_setStore 16 = .ok (.iadd, 1) := by decide +kernel
theorem dX6_setStore_17 : decode cX6_setStore 17 = .ok (.iload_n 3, 1) := by decide +kernel
theorem dX6_setStore_18 : decode cX6_setStore 18 = .ok (.iastore, 1) := by decide +kernel
theorem dX6_setStore_19 : decode cX6_setStore 19 = .ok (.return_, 1) := by decide +kernel
theorem dX6_hasEnough_0 : decode cX6_hasEnough 0 = .ok (.iload_n 1, 1) := by decide +kernel
theorem dX6_hasEnough_1 : decode cX6_hasEnough 1 = .ok (.iload_n 2, 1) := by decide +kernel
theorem dX6_hasEnough_2 : decode cX6_hasEnough 2 = .ok (.invokestatic 44, 3) := by decide +kernel
theorem dX6_hasEnough_5 : decode cX6_hasEnough 5 = .ok (.ifCond .eq 21, 3) := by decide +kernel
theorem dX6_hasEnough_8 : decode cX6_hasEnough 8 = .ok (.aload_n 0, 1) := by decide +kernel
theorem dX6_hasEnough_9 : decode cX6_hasEnough 9 = .ok (.getfield 9, 3) := by decide +kernel
theorem dX6_hasEnough_12 : decode cX6_hasEnough 12 = .ok (.iload_n 1, 1) := by decide +kernel
theorem dX6_hasEnough_13 : decode cX6_hasEnough 13 = .ok (.iconst 5, 1) := by decide +kernel
theorem dX6_hasEnough_14 : decode cX6_hasEnough 14 = .ok (.imul, 1) := by decide +kernel
theorem dX6_hasEnough_15 : decode cX6_hasEnough 15 = .ok (.iload_n 2, 1) := by decide +kernel
theorem dX6_hasEnough_16 : decode cX6_hasEnough 16 = .ok (.iadd, 1) := by decide +kernel
theorem dX6_hasEnough_17 : decode cX6_hasEnough 17 = .ok (.iaload, 1) := by decide +kernel
theorem dX6_hasEnough_18 : decode cX6_hasEnough 18 = .ok (.iload_n 3, 1) := by decide +kernel
theorem dX6_hasEnough_19 : decode cX6_hasEnough 19 = .ok (.if_icmp .lt 7, 3) := by decide +kernel
theorem dX6_hasEnough_22 : decode cX6_hasEnough 22 = .ok (.iconst 1, 1) := by decide +kernel
theorem dX6_hasEnough_23 : decode cX6_hasEnough 23 = .ok (.goto 4, 3) := by decide +kernel
theorem dX6_hasEnough_26 : decode cX6_hasEnough 26 = .ok (.iconst 0, 1) := by decide +kernel
theorem dX6_hasEnough_27 : decode cX6_hasEnough 27 = .ok (.ireturn, 1) := by decide +kernel
theorem dX6_putOf_0 : decode cX6_putOf 0 = .ok (.iload_n 1, 1) := by decide +kernel
theorem dX6_putOf_1 : decode cX6_putOf 1 = .ok (.ifCond .lt 18, 3) := by decide +kernel
theorem dX6_putOf_4 : decode cX6_putOf 4 = .ok (.iload_n 1, 1) := by decide +kernel
theorem dX6_putOf_5 : decode cX6_putOf 5 = .ok (.bipush 6, 2) := by decide +kernel
theorem dX6_putOf_7 : decode cX6_putOf 7 = .ok (.if_icmp .ge 12, 3) := by decide +kernel
theorem dX6_putOf_10 : decode cX6_putOf 10 = .ok (.aload_n 0, 1) := by decide +kernel
theorem dX6_putOf_11 : decode cX6_putOf 11 = .ok (.getfield 21, 3) := by decide +kernel
theorem dX6_putOf_14 : decode cX6_putOf 14 = .ok (.iload_n 1, 1) := by decide +kernel
theorem dX6_putOf_15 : decode cX6_putOf 15 = .ok (.iaload, 1) := by decide +kernel
theorem dX6_putOf_16 : decode cX6_putOf 16 = .ok (.goto 5, 3) := by decide +kernel
theorem dX6_putOf_19 : decode cX6_putOf 19 = .ok (.bipush 9, 2) := by decide +kernel
theorem dX6_putOf_21 : decode cX6_putOf 21 = .ok (.ireturn, 1) := by decide +kernel
theorem dX6_usePut_0 : decode cX6_usePut 0 = .ok (.aload_n 0, 1) := by decide +kernel
theorem dX6_usePut_1 : decode cX6_usePut 1 = .ok (.iload_n 1, 1) := by decide +kernel
theorem dX6_usePut_2 : decode cX6_usePut 2 = .ok (.invokevirtual 48, 3) := by decide +kernel
theorem dX6_usePut_5 : decode cX6_usePut 5 = .ok (.istore_n 3, 1) := by decide +kernel
theorem dX6_usePut_6 : decode cX6_usePut 6 = .ok (.aload_n 0, 1) := by decide +kernel
theorem dX6_usePut_7 : decode cX6_usePut 7 = .ok (.iload_n 1, 1) := by decide +kernel
theorem dX6_usePut_8 : decode cX6_usePut 8 = .ok (.iload_n 3, 1) := by decide +kernel
theorem dX6_usePut_9 : decode cX6_usePut 9 = .ok (.iload_n 2, 1) := by decide +kernel
theorem dX6_usePut_10 : decode cX6_usePut 10 = .ok (.invokevirtual 52, 3) := by decide +kernel
theorem dX6_usePut_13 : decode cX6_usePut 13 = .ok (.ifCond .eq 17, 3) := by decide +kernel
theorem dX6_usePut_16 : decode cX6_usePut 16 = .ok (.aload_n 0, 1) := by decide +kernel
theorem dX6_usePut_17 : decode cX6_usePut 17 = .ok (.iload_n 1, 1) := by decide +kernel
theorem dX6_usePut_18 : decode cX6_usePut 18 = .ok (.iload_n 3, 1) := by decide +kernel
theorem dX6_usePut_19 : decode cX6_usePut 19 = .ok (.aload_n 0, 1) := by decide +kernel
theorem dX6_usePut_20 : decode cX6_usePut 20 = .ok (.iload_n 1, 1) := by decide +kernel
theorem dX6_usePut_21 : decode cX6_usePut 21 = .ok (.iload_n 3, 1) := by decide +kernel
theorem dX6_usePut_22 : decode cX6_usePut 22 = .ok (.invokevirtual 56, 3) := by decide +kernel
theorem dX6_usePut_25 : decode cX6_usePut 25 = .ok (.iload_n 2, 1) := by decide +kernel
theorem dX6_usePut_26 : decode cX6_usePut 26 = .ok (.isub, 1) := by decide +kernel
theorem dX6_usePut_27 : decode cX6_usePut 27 = .ok (.invokevirtual 60, 3) := by decide +kernel
theorem dX6_usePut_30 : decode cX6_usePut 30 = .ok (.return_, 1) := by decide +kernel
theorem dX6_placeOf_0 : decode cX6_placeOf 0 = .ok (.iconst 0, 1) := by decide +kernel
theorem dX6_placeOf_1 : decode cX6_placeOf 1 = .ok (.istore_n 2, 1) := by decide +kernel
theorem dX6_placeOf_2 : decode cX6_placeOf 2 = .ok (.iload_n 2, 1) := by decide +kernel
theorem dX6_placeOf_3 : decode cX6_placeOf 3 = .ok (.bipush 6, 2) := by decide +kernel
theorem dX6_placeOf_5 : decode cX6_placeOf 5 = .ok (.if_icmp .ge 21, 3) := by decide +kernel
theorem dX6_placeOf_8 : decode cX6_placeOf 8 = .ok (.aload_n 0, 1) := by decide +kernel
theorem dX6_placeOf_9 : decode cX6_placeOf 9 = .ok (.getfield 18, 3) := by decide +kernel
theorem dX6_placeOf_12 : decode cX6_placeOf 12 = .ok (.iload_n 2, 1) := by decide +kernel
theorem dX6_placeOf_13 : decode cX6_placeOf 13 = .ok (.iaload, 1) := by decide +kernel
theorem dX6_placeOf_14 : decode cX6_placeOf 14 = .ok (.iload_n 1, 1) := by decide +kernel
theorem dX6_placeOf_15 : decode cX6_placeOf 15 = .ok (.if_icmp .ne 5, 3) := by decide +kernel
theorem dX6_placeOf_18 : decode cX6_placeOf 18 = .ok (.iload_n 2, 1) := by decide +kernel
theorem dX6_placeOf_19 : decode cX6_placeOf 19 = .ok (.ireturn, 1) := by decide +kernel
theorem dX6_placeOf_20 : decode cX6_placeOf 20 = .ok (.iinc 2 1, 3) := by decide +kernel
theorem dX6_placeOf_23 : decode cX6_placeOf 23 = .ok (.goto (-21), 3) := by decide +kernel
theorem dX6_placeOf_26 : decode cX6_placeOf 26 = .ok (.iconst (-1), 1) := by decide +kernel
theorem dX6_placeOf_27 : decode cX6_placeOf 27 = .ok (.ireturn, 1) := by decide +kernel
theorem dX6_turnOrder_0 : decode cX6_turnOrder 0 = .ok (.aload_n 0, 1) := by decide +kernel
theorem dX6_turnOrder_1 : decode cX6_turnOrder 1 = .ok (.getfield 18, 3) := by decide +kernel
theorem dX6_turnOrder_4 : decode cX6_turnOrder 4 = .ok (.iconst 0, 1) := by decide +kernel
theorem dX6_turnOrder_5 : decode cX6_turnOrder 5 = .ok (.iaload, 1) := by decide +kernel
theorem dX6_turnOrder_6 : decode cX6_turnOrder 6 = .ok (.istore_n 2, 1) := by decide +kernel
theorem dX6_turnOrder_7 : decode cX6_turnOrder 7 = .ok (.iconst 1, 1) := by decide +kernel
theorem dX6_turnOrder_8 : decode cX6_turnOrder 8 = .ok (.istore_n 3, 1) := by decide +kernel
theorem dX6_turnOrder_9 : decode cX6_turnOrder 9 = .ok (.iload_n 3, 1) := by decide +kernel
theorem dX6_turnOrder_10 : decode cX6_turnOrder 10 = .ok (.iload_n 1, 1) := by decide +kernel
theorem dX6_turnOrder_11 : decode cX6_turnOrder 11 = .ok (.if_icmp .ge 29, 3) := by decide +kernel
theorem dX6_turnOrder_14 : decode cX6_turnOrder 14 = .ok (.iload_n 3, 1) := by decide +kernel
theorem dX6_turnOrder_15 : decode cX6_turnOrder 15 = .ok (.bipush 6, 2) := by decide +kernel
theorem dX6_turnOrder_17 : decode cX6_turnOrder 17 = .ok (.if_icmp .ge 23, 3) := by decide +kernel
theorem dX6_turnOrder_20 : decode cX6_turnOrder 20 = .ok (.aload_n 0, 1) := by decide +kernel
theorem dX6_turnOrder_21 : decode cX6_turnOrder 21 = .ok (.getfield 18, 3) := by decide +kernel
theorem dX6_turnOrder_24 : decode cX6_turnOrder 24 = .ok (.iload_n 3, 1) := by decide +kernel
theorem dX6_turnOrder_25 : decode cX6_turnOrder 25 = .ok (.iconst 1, 1) := by decide +kernel
theorem dX6_turnOrder_26 : decode cX6_turnOrder 26 = .ok (.isub, 1) := by decide +kernel
theorem dX6_turnOrder_27 : decode cX6_turnOrder 27 = .ok (.aload_n 0, 1) := by decide +kernel
theorem dX6_turnOrder_28 : decode cX6_turnOrder 28 = .ok (.getfield 18, 3) := by decide +kernel
theorem dX6_turnOrder_31 : decode cX6_turnOrder 31 = .ok (.iload_n 3, 1) := by decide +kernel
theorem dX6_turnOrder_32 : decode cX6_turnOrder 32 = .ok (.iaload, 1) := by decide +kernel
theorem dX6_turnOrder_33 : decode cX6_turnOrder 33 = .ok (.iastore, 1) := by decide +kernel
theorem dX6_turnOrder_34 : decode cX6_turnOrder 34 = .ok (.iinc 3 1, 3) := by decide +kernel
theorem dX6_turnOrder_37 : decode cX6_turnOrder 37 = .ok (.goto (-28), 3) := by decide +kernel
theorem dX6_turnOrder_40 : decode cX6_turnOrder 40 = .ok (.iload_n 1, 1) := by decide +kernel
theorem dX6_turnOrder_41 : decode cX6_turnOrder 41 = .ok (.iconst 1, 1) := by decide +kernel
theorem dX6_turnOrder_42 : decode cX6_turnOrder 42 = .ok (.bipush 6, 2) := by decide +kernel
theorem dX6_turnOrder_44 : decode cX6_turnOrder 44 = .ok (.invokestatic 64, 3) := by decide +kernel
theorem dX6_turnOrder_47 : decode cX6_turnOrder 47 = .ok (.ifCond .eq 12, 3) := by decide +kernel
theorem dX6_turnOrder_50 : decode cX6_turnOrder 50 = .ok (.aload_n 0, 1) := by decide +kernel
theorem dX6_turnOrder_51 : decode cX6_turnOrder 51 = .ok (.getfield 18, 3) := by decide +kernel
theorem dX6_turnOrder_54 : decode cX6_turnOrder 54 = .ok (.iload_n 1, 1) := by decide +kernel
theorem dX6_turnOrder_55 : decode cX6_turnOrder 55 = .ok (.iconst 1, 1) := by decide +kernel
theorem dX6_turnOrder_56 : decode cX6_turnOrder 56 = .ok (.isub, 1) := by decide +kernel
theorem dX6_turnOrder_57 : decode cX6_turnOrder 57 = .ok (.iload_n 2, 1) := by decide +kernel
theorem dX6_turnOrder_58 : decode cX6_turnOrder 58 = .ok (.iastore, 1) := by decide +kernel
theorem dX6_turnOrder_59 : decode cX6_turnOrder 59 = .ok (.return_, 1) := by decide +kernel
theorem dX7_init_0 : decode cX7_init 0 = .ok (.aload_n 0, 1) := by decide +kernel
theorem dX7_init_1 : decode cX7_init 1 = .ok (.invokespecial 3, 3) := by decide +kernel
theorem dX7_init_4 : decode cX7_init 4 = .ok (.aload_n 0, 1) := by decide +kernel
theorem dX7_init_5 : decode cX7_init 5 = .ok (.iconst 5, 1) := by decide +kernel
theorem dX7_init_6 : decode cX7_init 6 = .ok (.newarray .int, 2) := by decide +kernel
theorem dX7_init_8 : decode cX7_init 8 = .ok (.putfield 9, 3) := by decide +kernel
theorem dX7_init_11 : decode cX7_init 11 = .ok (.aload_n 0, 1) := by decide +kernel
theorem dX7_init_12 : decode cX7_init 12 = .ok (.bipush 6, 2) := by decide +kernel
theorem dX7_init_14 : decode cX7_init 14 = .ok (.newarray .int, 2) := by decide +kernel
theorem dX7_init_16 : decode cX7_init 16 = .ok (.putfield 15, 3) := by decide +kernel
theorem dX7_init_19 : decode cX7_init 19 = .ok (.aload_n 0, 1) := by decide +kernel
theorem dX7_init_20 : decode cX7_init 20 = .ok (.bipush 6, 2) := by decide +kernel
theorem dX7_init_22 : decode cX7_init 22 = .ok (.newarray .int, 2) := by decide +kernel
theorem dX7_init_24 : decode cX7_init 24 = .ok (.putfield 18, 3) := by decide +kernel
theorem dX7_init_27 : decode cX7_init 27 = .ok (.aload_n 0, 1) := by decide +kernel
theorem dX7_init_28 : decode cX7_init 28 = .ok (.bipush 6, 2) := by decide +kernel
theorem dX7_init_30 : decode cX7_init 30 = .ok (.newarray .int, 2) := by decide +kernel
theorem dX7_init_32 : decode cX7_init 32 = .ok (.putfield 21, 3) := by decide +kernel
theorem dX7_init_35 : decode cX7_init 35 = .ok (.return_, 1) := by decide +kernel
theorem dX7_learn_0 : decode cX7_learn 0 = .ok (.aload_n 0, 1) := by decide +kernel
theorem dX7_learn_1 : decode cX7_learn 1 = .ok (.aload_n 1, 1) := by decide +kernel
theorem dX7_learn_2 : decode cX7_learn 2 = .ok (.getfield 24, 3) := by decide +kernel
theorem dX7_learn_5 : decode cX7_learn 5 = .ok (.putfield 30, 3) := by decide +kernel
theorem dX7_learn_8 : decode cX7_learn 8 = .ok (.aload_n 0, 1) := by decide +kernel
theorem dX7_learn_9 : decode cX7_learn 9 = .ok (.aload_n 1, 1) := by decide +kernel
theorem dX7_learn_10 : decode cX7_learn 10 = .ok (.getfield 31, 3) := by decide +kernel
theorem dX7_learn_13 : decode cX7_learn 13 = .ok (.iconst 0, 1) := by decide +kernel
theorem dX7_learn_14 : decode cX7_learn 14 = .ok (.iaload, 1) := by decide +kernel
theorem dX7_learn_15 : decode cX7_learn 15 = .ok (.putfield 34, 3) := by decide +kernel
theorem dX7_learn_18 : decode cX7_learn 18 = .ok (.aload_n 0, 1) := by decide +kernel
theorem dX7_learn_19 : decode cX7_learn 19 = .ok (.aload_n 1, 1) := by decide +kernel
theorem dX7_learn_20 : decode cX7_learn 20 = .ok (.getfield 31, 3) := by decide +kernel
theorem dX7_learn_23 : decode cX7_learn 23 = .ok (.iconst 1, 1) := by decide +kernel
theorem dX7_learn_24 : decode cX7_learn 24 = .ok (.iaload, 1) := by decide +kernel
theorem dX7_learn_25 : decode cX7_learn 25 = .ok (.putfield 37, 3) := by decide +kernel
theorem dX7_learn_28 : decode cX7_learn 28 = .ok (.aload_n 0, 1) := by decide +kernel
theorem dX7_learn_29 : decode cX7_learn 29 = .ok (.aload_n 1, 1) := by decide +kernel
theorem dX7_learn_30 : decode cX7_learn 30 = .ok (.getfield 31, 3) := by decide +kernel
theorem dX7_learn_33 : decode cX7_learn 33 = .ok (.iconst 2, 1) := by decide +kernel
theorem dX7_learn_34 : decode cX7_learn 34 = .ok (.iaload, 1) := by decide +kernel
theorem dX7_learn_35 : decode cX7_learn 35 = .ok (.putfield 40, 3) := by decide +kernel
theorem dX7_learn_38 : decode cX7_learn 38 = .ok (.aload_n 1, 1) := by decide +kernel
theorem dX7_learn_39 : decode cX7_learn 39 = .ok (.getfield 43, 3) := by decide +kernel
theorem dX7_learn_42 : decode cX7_learn 42 = .ok (.iconst 0, 1) := by decide +kernel
theorem dX7_learn_43 : decode cX7_learn 43 = .ok (.aload_n 0, 1) := by decide +kernel
theorem dX7_learn_44 : decode cX7_learn 44 = .ok (.getfield 9, 3) := by decide +kernel
theorem dX7_learn_47 : decode cX7_learn 47 = .ok (.iconst 0, 1) := by decide +kernel
theorem dX7_learn_48 : decode cX7_learn 48 = .ok (.aload_n 0, 1) := by decide +kernel
theorem dX7_learn_49 : decode cX7_learn 49 = .ok (.getfield 9, 3) := by decide +kernel
theorem dX7_learn_52 : decode cX7_learn 52 = .ok (.arraylength, 1) := by decide +kernel
theorem dX7_learn_53 : decode cX7_learn 53 = .ok (.invokestatic 44, 3) := by decide +kernel
theorem dX7_learn_56 : decode cX7_learn 56 = .ok (.iconst 0, 1) := by decide +kernel
theorem dX7_learn_57 : decode cX7_learn 57 = .ok (.istore_n 2, 1) := by decide +kernel
theorem dX7_learn_58 : decode cX7_learn 58 = .ok (.iload_n 2, 1) := by decide +kernel
theorem dX7_learn_59 : decode cX7_learn 59 = .ok (.bipush 6, 2) := by decide +kernel
theorem dX7_learn_61 : decode cX7_learn 61 = .ok (.if_icmp .ge 53, 3) := by decide +kernel
theorem dX7_learn_64 : decode cX7_learn 64 = .ok (.aload_n 0, 1) := by decide +kernel
theorem dX7_learn_65 : decode cX7_learn 65 = .ok (.getfield 15, 3) := by decide +kernel
theorem dX7_learn_68 : decode cX7_learn 68 = .ok (.iload_n 2, 1) := by decide +kernel
theorem dX7_learn_69 : decode cX7_learn 69 = .ok (.aload_n 1, 1) := by decide +kernel
theorem dX7_learn_70 : decode cX7_learn 70 = .ok (.getfield 50, 3) := by decide +kernel
theorem dX7_learn_73 : decode cX7_learn 73 = .ok (.iload_n 2, 1) := by decide +kernel
theorem dX7_learn_74 : decode cX7_learn 74 = .ok (.aaload, 1) := by decide +kernel
theorem dX7_learn_75 : decode cX7_learn 75 = .ok (.iconst 5, 1) := by decide +kernel
theorem dX7_learn_76 : decode cX7_learn 76 = .ok (.iaload, 1) := by decide +kernel
theorem dX7_learn_77 : decode cX7_learn 77 = .ok (.iastore, 1) := by decide +kernel
theorem dX7_learn_78 : decode cX7_learn 78 = .ok (.aload_n 0, 1) := by decide +kernel
theorem dX7_learn_79 : decode cX7_learn 79 = .ok (.getfield 18, 3) := by decide +kernel
theorem dX7_learn_82 : decode cX7_learn 82 = .ok (.iload_n 2, 1) := by decide +kernel
theorem dX7_learn_83 : decode cX7_learn 83 = .ok (.aload_n 1, 1) := by decide +kernel
theorem dX7_learn_84 : decode cX7_learn 84 = .ok (.getfield 50, 3) := by decide +kernel
theorem dX7_learn_87 : decode cX7_learn 87 = .ok (.iload_n 2, 1) := by decide +kernel
theorem dX7_learn_88 : decode cX7_learn 88 = .ok (.aaload, 1) := by decide +kernel
theorem dX7_learn_89 : decode cX7_learn 89 = .ok (.bipush 6, 2) := by decide +kernel
theorem dX7_learn_91 : decode cX7_learn 91 = .ok (.iaload, 1) := by decide +kernel
theorem dX7_learn_92 : decode cX7_learn 92 = .ok (.iastore, 1) := by decide +kernel
theorem dX7_learn_93 : decode cX7_learn 93 = .ok (.aload_n 0, 1) := by decide +kernel
theorem dX7_learn_94 : decode cX7_learn 94 = .ok (.getfield 21, 3) := by decide +kernel
theorem dX7_learn_97 : decode cX7_learn 97 = .ok (.iload_n 2, 1) := by decide +kernel
theorem dX7_learn_98 : decode cX7_learn 98 = .ok (.aload_n 1, 1) := by decide +kernel
theorem dX7_learn_99 : decode cX7_learn 99 = .ok (.getfield 50, 3) := by decide +kernel
theorem dX7_learn_102 : decode cX7_learn 102 = .ok (.iload_n 2, 1) := by decide +kernel
theorem dX7_learn_103 : decode cX7_learn 103 = .ok (.aaload, 1) := by decide +kernel
theorem dX7_learn_104 : decode cX7_learn 104 = .ok (.bipush 7, 2) := by decide +kernel
theorem dX7_learn_106 : decode cX7_learn 106 = .ok (.iaload, 1) := by decide +kernel
theorem dX7_learn_107 : decode cX7_learn 107 = .ok (.iastore, 1) := by decide +kernel
theorem dX7_learn_108 : decode cX7_learn 108 = .ok (.iinc 2 1, 3) := by decide +kernel
theorem dX7_learn_111 : decode cX7_learn 111 = .ok (.goto (-53), 3) := by decide +kernel
theorem dX7_learn_114 : decode cX7_learn 114 = .ok (.return_, 1) := by decide +kernel
theorem dX7_exchangeLadles_0 : decode cX7_exchangeLadles 0 = .ok (.iload_n 1, 1) := by decide +kernel
theorem dX7_exchangeLadles_1 : decode cX7_exchangeLadles 1 = .ok (.iconst 0, 1) := by decide +kernel
theorem dX7_exchangeLadles_2 : decode cX7_exchangeLadles 2 = .ok (.iconst 5, 1) := by decide +kernel
theorem dX7_exchangeLadles_3 : decode cX7_exchangeLadles 3 = .ok (.invokestatic 54, 3) := by decide +kernel
theorem dX7_exchangeLadles_6 : decode cX7_exchangeLadles 6 = .ok (.ifCond .eq 38, 3) := by decide +kernel
theorem dX7_exchangeLadles_9 : decode cX7_exchangeLadles 9 = .ok (.iload_n 2, 1) := by decide +kernel
theorem dX7_exchangeLadles_10 : decode cX7_exchangeLadles 10 = .ok (.iconst 0, 1) := by decide +kernel
theorem dX7_exchangeLadles_11 : decode cX7_exchangeLadles 11 = .ok (.iconst 5, 1) := by decide +kernel
theorem dX7_exchangeLadles_12 : decode cX7_exchangeLadles 12 = .ok (.invokestatic 54, 3) := by decide +kernel
theorem dX7_exchangeLadles_15 : decode cX7_exchangeLadles 15 = .ok (.ifCond .eq 29, 3) := by decide +kernel
theorem dX7_exchangeLadles_18 : decode cX7_exchangeLadles 18 = .ok (.aload_n 0, 1) := by decide +kernel
theorem dX7_exchangeLadles_19 : decode cX7_exchangeLadles 19 = .ok (.getfield 15, 3) := by decide +kernel
theorem dX7_exchangeLadles_22 : decode cX7_exchangeLadles 22 = .ok (.iload_n 1, 1) := by decide +kernel
theorem dX7_exchangeLadles_23 : decode cX7_exchangeLadles 23 = .ok (.iaload, 1) := by decide +kernel
theorem dX7_exchangeLadles_24 : decode cX7_exchangeLadles 24 = .ok (.istore_n 3, 1) := by decide +kernel
theorem dX7_exchangeLadles_25 : decode cX7_exchangeLadles 25 = .ok (.aload_n 0, 1) := by decide +kernel
theorem dX7_exchangeLadles_26 : decode cX7_exchangeLadles 26 = .ok (.getfield 15, 3) := by decide +kernel
theorem dX7_exchangeLadles_29 : decode cX7_exchangeLadles 29 = .ok (.iload_n 1, 1) := by decide +kernel
theorem dX7_exchangeLadles_30 : decode cX7_exchangeLadles 30 = .ok (.aload_n 0, 1) := by decide +kernel
theorem dX7_exchangeLadles_31 : decode cX7_exchangeLadles 31 = .ok (.getfield 15, 3) := by decide +kernel
theorem dX7_exchangeLadles_34 : decode cX7_exchangeLadles 34 = .ok (.iload_n 2, 1) := by decide +kernel
theorem dX7_exchangeLadles_35 : decode cX7_exchangeLadles 35 = .ok (.iaload, 1) := by decide +kernel
theorem dX7_exchangeLadles_36 : decode cX7_exchangeLadles 36 = .ok (.iastore, 1) := by decide +kernel
theorem dX7_exchangeLadles_37 : decode cX7_exchangeLadles 37 = .ok (.aload_n 0, 1) := by decide +kernel
theorem dX7_exchangeLadles_38 : decode cX7_exchangeLadles 38 = .ok (.getfield 15, 3) := by decide +kernel
theorem dX7_exchangeLadles_41 : decode cX7_exchangeLadles 41 = .ok (.iload_n 2, 1) := by decide +kernel
theorem dX7_exchangeLadles_42 : decode cX7_exchangeLadles 42 = .ok (.iload_n 3, 1) := by decide +kernel
theorem dX7_exchangeLadles_43 : decode cX7_exchangeLadles 43 = .ok (.iastore, 1) := by decide +kernel
theorem dX7_exchangeLadles_44 : decode cX7_exchangeLadles 44 = .ok (.return_, 1) := by decide +kernel
theorem dX8_init_0 : decode cX8_init 0 = .ok (.aload_n 0, 1) := by decide +kernel
theorem dX8_init_1 : decode cX8_init 1 = .ok (.aload_n 1, 1) := by decide +kernel
theorem dX8_init_2 : decode cX8_init 2 = .ok (.invokespecial 3, 3) := by decide +kernel
theorem dX8_init_5 : decode cX8_init 5 = .ok (.aload_n 0, 1) := by decide +kernel
theorem dX8_init_6 : decode cX8_init 6 = .ok (.iconst 5, 1) := by decide +kernel
theorem dX8_init_7 : decode cX8_init 7 = .ok (.newarray .int, 2) := by decide +kernel
theorem dX8_init_9 : decode cX8_init 9 = .ok (.putfield 9, 3) := by decide +kernel
theorem dX8_init_12 : decode cX8_init 12 = .ok (.aload_n 0, 1) := by decide +kernel
theorem dX8_init_13 : decode cX8_init 13 = .ok (.bipush 6, 2) := by decide +kernel
theorem dX8_init_15 : decode cX8_init 15 = .ok (.bipush 8, 2) := by decide +kernel
theorem dX8_init_17 : decode cX8_init 17 = .ok (.multianewarray 15 2, 4) := by decide +kernel
theorem dX8_init_21 : decode cX8_init 21 = .ok (.putfield 17, 3) := by decide +kernel
theorem dX8_init_24 : decode cX8_init 24 = .ok (.aload_n 0, 1) := by decide +kernel
theorem dX8_init_25 : decode cX8_init 25 = .ok (.iconst 3, 1) := by decide +kernel
theorem dX8_init_26 : decode cX8_init 26 = .ok (.newarray .int, 2) := by decide +kernel
theorem dX8_init_28 : decode cX8_init 28 = .ok (.putfield 20, 3) := by decide +kernel
theorem dX8_init_31 : decode cX8_init 31 = .ok (.return_, 1) := by decide +kernel
theorem dX8_begin_0 : decode cX8_begin 0 = .ok (.aload_n 0, 1) := by decide +kernel
theorem dX8_begin_1 : decode cX8_begin 1 = .ok (.iconst 0, 1) := by decide +kernel
theorem dX8_begin_2 : decode cX8_begin 2 = .ok (.putfield 23, 3) := by decide +kernel
theorem dX8_begin_5 : decode cX8_begin 5 = .ok (.aload_n 0, 1) := by decide +kernel
theorem dX8_begin_6 : decode cX8_begin 6 = .ok (.iconst 0, 1) := by decide +kernel
theorem dX8_begin_7 : decode cX8_begin 7 = .ok (.putfield 27, 3) := by decide +kernel
theorem dX8_begin_10 : decode cX8_begin 10 = .ok (.aload_n 0, 1) := by decide +kernel
theorem dX8_begin_11 : decode cX8_begin 11 = .ok (.iconst 0, 1) := by decide +kernel
theorem dX8_begin_12 : decode cX8_begin 12 = .ok (.putfield 31, 3) := by decide +kernel
theorem dX8_begin_15 : decode cX8_begin 15 = .ok (.getstatic 34, 3) := by decide +kernel
theorem dX8_begin_18 : decode cX8_begin 18 = .ok (.iconst 0, 1) := by decide +kernel
theorem dX8_begin_19 : decode cX8_begin 19 = .ok (.aload_n 0, 1) := by decide +kernel
theorem dX8_begin_20 : decode cX8_begin 20 = .ok (.getfield 9, 3) := by decide +kernel
theorem dX8_begin_23 : decode cX8_begin 23 = .ok (.iconst 0, 1) := by decide +kernel
theorem dX8_begin_24 : decode cX8_begin 24 = .ok (.aload_n 0, 1) := by decide +kernel
theorem dX8_begin_25 : decode cX8_begin 25 = .ok (.getfield 9, 3) := by decide +kernel
theorem dX8_begin_28 : decode cX8_begin 28 = .ok (.arraylength, 1) := by decide +kernel
theorem dX8_begin_29 : decode cX8_begin 29 = .ok (.invokestatic 37, 3) := by decide +kernel
theorem dX8_begin_32 : decode cX8_begin 32 = .ok (.getstatic 43, 3) := by decide +kernel
theorem dX8_begin_35 : decode cX8_begin 35 = .ok (.iconst 0, 1) := by decide +kernel
theorem dX8_begin_36 : decode cX8_begin 36 = .ok (.aload_n 0, 1) := by decide +kernel
theorem dX8_begin_37 : decode cX8_begin 37 = .ok (.getfield 20, 3) := by decide +kernel
theorem dX8_begin_40 : decode cX8_begin 40 = .ok (.iconst 0, 1) := by decide +kernel
theorem dX8_begin_41 : decode cX8_begin 41 = .ok (.aload_n 0, 1) := by decide +kernel
theorem dX8_begin_42 : decode cX8_begin 42 = .ok (.getfield 20, 3) := by decide +kernel
theorem dX8_begin_45 : decode cX8_begin 45 = .ok (.arraylength, 1) := by decide +kernel
theorem dX8_begin_46 : decode cX8_begin 46 = .ok (.invokestatic 37, 3) := by decide +kernel
theorem dX8_begin_49 : decode cX8_begin 49 = .ok (.iconst 0, 1) := by decide +kernel
theorem dX8_begin_50 : decode cX8_begin 50 = .ok (.istore_n 1, 1) := by decide +kernel
theorem dX8_begin_51 : decode cX8_begin 51 = .ok (.iload_n 1, 1) := by decide +kernel
theorem dX8_begin_52 : decode cX8_begin 52 = .ok (.bipush 6, 2) := by decide +kernel
theorem dX8_begin_54 : decode cX8_begin 54 = .ok (.if_icmp .ge 25, 3) := by decide +kernel
theorem dX8_begin_57 : decode cX8_begin 57 = .ok (.getstatic 46, 3) := by decide +kernel
theorem dX8_begin_60 : decode cX8_begin 60 = .ok (.iconst 0, 1) := by decide +kernel
theorem dX8_begin_61 : decode cX8_begin 61 = .ok (.aload_n 0, 1) := by decide +kernel
theorem dX8_begin_62 : decode cX8_begin 62 = .ok (.getfield 17, 3) := by decide +kernel
theorem dX8_begin_65 : decode cX8_begin 65 = .ok (.iload_n 1, 1) := by decide +kernel
theorem dX8_begin_66 : decode cX8_begin 66 = .ok (.aaload, 1) := by decide +kernel
theorem dX8_begin_67 : decode cX8_begin 67 = .ok (.iconst 0, 1) := by decide +kernel
theorem dX8_begin_68 : decode cX8_begin 68 = .ok (.bipush 8, 2) := by decide +kernel
theorem dX8_begin_70 : decode cX8_begin 70 = .ok (.invokestatic 37, 3) := by decide +kernel
theorem dX8_begin_73 : decode cX8_begin 73 = .ok (.iinc 1 1, 3) := by decide +kernel
theorem dX8_begin_76 : decode cX8_begin 76 = .ok (.goto (-25), 3) := by decide +kernel
theorem dX8_begin_79 : decode cX8_begin 79 = .ok (.return_, 1) := by decide +kernel
theorem dX8_isWhole_0 : decode cX8_isWhole 0 = .ok (.aload_n 0, 1) := by decide +kernel
theorem dX8_isWhole_1 : decode cX8_isWhole 1 = .ok (.getfield 23, 3) := by decide +kernel
theorem dX8_isWhole_4 : decode cX8_isWhole 4 = .ok (.ifCond .le 7, 3) := by decide +kernel
theorem dX8_isWhole_7 : decode cX8_isWhole 7 = .ok (.iconst 1, 1) := by decide +kernel
theorem dX8_isWhole_8 : decode cX8_isWhole 8 = .ok (.goto 4, 3) := by decide +kernel
theorem dX8_isWhole_11 : decode cX8_isWhole 11 = .ok (.iconst 0, 1) := by decide +kernel
theorem dX8_isWhole_12 : decode cX8_isWhole 12 = .ok (.ireturn, 1) := by decide +kernel
theorem dX8_readClause_0 : decode cX8_readClause 0 = .ok (.aload_n 0, 1) := by decide +kernel
theorem dX8_readClause_1 : decode cX8_readClause 1 = .ok (.invokevirtual 49, 3) := by decide +kernel
theorem dX8_readClause_4 : decode cX8_readClause 4 = .ok (.istore_n 1, 1) := by decide +kernel
theorem dX8_readClause_5 : decode cX8_readClause 5 = .ok (.iload_n 1, 1) := by decide +kernel
theorem dX8_readClause_6 : decode cX8_readClause 6 = .ok (.bipush 112, 2) := by decide +kernel
theorem dX8_readClause_8 : decode cX8_readClause 8 = .ok (.if_icmp .ne 42, 3) := by decide +kernel
theorem dX8_readClause_11 : decode cX8_readClause 11 = .ok (.aload_n 0, 1) := by decide +kernel
theorem dX8_readClause_12 : decode cX8_readClause 12 = .ok (.getfield 27, 3) := by decide +kernel
theorem dX8_readClause_15 : decode cX8_readClause 15 = .ok (.ifCond .ne 35, 3) := by decide +kernel
theorem dX8_readClause_18 : decode cX8_readClause 18 = .ok (.aload_n 0, 1) := by decide +kernel
theorem dX8_readClause_19 : decode cX8_readClause 19 = .ok (.dup, 1) := by decide +kernel
theorem dX8_readClause_20 : decode cX8_readClause 20 = .ok (.getfield 53, 3) := by decide +kernel
theorem dX8_readClause_23 : decode cX8_readClause 23 = .ok (.iconst 1, 1) := by decide +kernel
theorem dX8_readClause_24 : decode cX8_readClause 24 = .ok (.iadd, 1) := by decide +kernel
theorem dX8_readClause_25 : decode cX8_readClause 25 = .ok (.putfield 53, 3) := by decide +kernel
theorem dX8_readClause_28 : decode cX8_readClause 28 = .ok (.aload_n 0, 1) := by decide +kernel
theorem dX8_readClause_29 : decode cX8_readClause 29 = .ok (.iconst 1, 1) := by decide +kernel
theorem dX8_readClause_30 : decode cX8_readClause 30 = .ok (.putfield 27, 3) := by decide +kernel
theorem dX8_readClause_33 : decode cX8_readClause 33 = .ok (.aload_n 0, 1) := by decide +kernel
theorem dX8_readClause_34 : decode cX8_readClause 34 = .ok (.ldc 56, 2) := by decide +kernel
theorem dX8_readClause_36 : decode cX8_readClause 36 = .ok (.aload_n 0, 1) := by decide +kernel
theorem dX8_readClause_37 : decode cX8_readClause 37 = .ok (.getfield 9, 3) := by decide +kernel
theorem dX8_readClause_40 : decode cX8_readClause 40 = .ok (.getstatic 58, 3) := by decide +kernel
theorem dX8_readClause_43 : decode cX8_readClause 43 = .ok (.getstatic 61, 3) := by decide +kernel
theorem dX8_readClause_46 : decode cX8_readClause 46 = .ok (.invokevirtual 64, 3) := by decide +kernel
theorem dX8_readClause_49 : decode cX8_readClause 49 = .ok (.ireturn, 1) := by decide +kernel
theorem dX8_readClause_50 : decode cX8_readClause 50 = .ok (.iload_n 1, 1) := by decide +kernel
theorem dX8_readClause_51 : decode cX8_readClause 51 = .ok (.bipush 104, 2) := by decide +kernel
theorem dX8_readClause_53 : decode cX8_readClause 53 = .ok (.if_icmp .ne 56, 3) := by decide +kernel
theorem dX8_readClause_56 : decode cX8_readClause 56 = .ok (.aload_n 0, 1) := by decide +kernel
theorem dX8_readClause_57 : decode cX8_readClause 57 = .ok (.getfield 23, 3) := by decide +kernel
theorem dX8_readClause_60 : decode cX8_readClause 60 = .ok (.bipush 6, 2) := by decide +kernel
theorem dX8_readClause_62 : decode cX8_readClause 62 = .ok (.if_icmp .ge 47, 3) := by decide +kernel
theorem dX8_readClause_65 : decode cX8_readClause 65 = .ok (.aload_n 0, 1) := by decide +kernel
theorem dX8_readClause_66 : decode cX8_readClause 66 = .ok (.dup, 1) := by decide +kernel
theorem dX8_readClause_67 : decode cX8_readClause 67 = .ok (.getfield 53, 3) := by decide +kernel
theorem dX8_readClause_70 : decode cX8_readClause 70 = .ok (.iconst 1, 1) := by decide +kernel
theorem dX8_readClause_71 : decode cX8_readClause 71 = .ok (.iadd, 1) := by decide +kernel
theorem dX8_readClause_72 : decode cX8_readClause 72 = .ok (.putfield 53, 3) := by decide +kernel
theorem dX8_readClause_75 : decode cX8_readClause 75 = .ok (.aload_n 0, 1) := by decide +kernel
theorem dX8_readClause_76 : decode cX8_readClause 76 = .ok (.dup, 1) := by decide +kernel
theorem dX8_readClause_77 : decode cX8_readClause 77 = .ok (.getfield 23, 3) := by decide +kernel
theorem dX8_readClause_80 : decode cX8_readClause 80 = .ok (.iconst 1, 1) := by decide +kernel
theorem dX8_readClause_81 : decode cX8_readClause 81 = .ok (.iadd, 1) := by decide +kernel
theorem dX8_readClause_82 : decode cX8_readClause 82 = .ok (.putfield 23, 3) := by decide +kernel
theorem dX8_readClause_85 : decode cX8_readClause 85 = .ok (.aload_n 0, 1) := by decide +kernel
theorem dX8_readClause_86 : decode cX8_readClause 86 = .ok (.ldc 68, 2) := by decide +kernel
theorem dX8_readClause_88 : decode cX8_readClause 88 = .ok (.aload_n 0, 1) := by decide +kernel
theorem dX8_readClause_89 : decode cX8_readClause 89 = .ok (.getfield 17, 3) := by decide +kernel
theorem dX8_readClause_92 : decode cX8_readClause 92 = .ok (.aload_n 0, 1) := by decide +kernel
theorem dX8_readClause_93 : decode cX8_readClause 93 = .ok (.getfield 23, 3) := by decide +kernel
theorem dX8_readClause_96 : decode cX8_readClause 96 = .ok (.iconst 1, 1) := by decide +kernel
theorem dX8_readClause_97 : decode cX8_readClause 97 = .ok (.isub, 1) := by decide +kernel
theorem dX8_readClause_98 : decode cX8_readClause 98 = .ok (.aaload, 1) := by decide +kernel
theorem dX8_readClause_99 : decode cX8_readClause 99 = .ok (.getstatic 70, 3) := by decide +kernel
theorem dX8_readClause_102 : decode cX8_readClause 102 = .ok (.getstatic 73, 3) := by decide +kernel
theorem dX8_readClause_105 : decode cX8_readClause 105 = .ok (.invokevirtual 64, 3) := by decide +kernel
theorem dX8_readClause_108 : decode cX8_readClause 108 = .ok (.ireturn, 1) := by decide +kernel
theorem dX8_readClause_109 : decode cX8_readClause 109 = .ok (.iload_n 1, 1) := by decide +kernel
theorem dX8_readClause_110 : decode cX8_readClause 110 = .ok (.bipush 108, 2) := by decide +kernel
theorem dX8_readClause_112 : decode cX8_readClause 112 = .ok (.if_icmp .ne 42, 3) := by decide +kernel
theorem dX8_readClause_115 : decode cX8_readClause 115 = .ok (.aload_n 0, 1) := by decide +kernel
theorem dX8_readClause_116 : decode cX8_readClause 116 = .ok (.getfield 31, 3) := by decide +kernel
theorem dX8_readClause_119 : decode cX8_readClause 119 = .ok (.ifCond .ne 35, 3) := by decide +kernel
theorem dX8_readClause_122 : decode cX8_readClause 122 = .ok (.aload_n 0, 1) := by decide +kernel
theorem dX8_readClause_123 : decode cX8_readClause 123 = .ok (.dup, 1) := by decide +kernel
theorem dX8_readClause_124 : decode cX8_readClause 124 = .ok (.getfield 53, 3) := by decide +kernel
theorem dX8_readClause_127 : decode cX8_readClause 127 = .ok (.iconst 1, 1) := by decide +kernel
theorem dX8_readClause_128 : decode cX8_readClause 128 = .ok (.iadd, 1) := by decide +kernel
theorem dX8_readClause_129 : decode cX8_readClause 129 = .ok (.putfield 53, 3) := by decide +kernel
theorem dX8_readClause_132 : decode cX8_readClause 132 = .ok (.aload_n 0, 1) := by decide +kernel
theorem dX8_readClause_133 : decode cX8_readClause 133 = .ok (.iconst 1, 1) := by decide +kernel
theorem dX8_readClause_134 : decode cX8_readClause 134 = .ok (.putfield 31, 3) := by decide +kernel
theorem dX8_readClause_137 : decode cX8_readClause 137 = .ok (.aload_n 0, 1) := by decide +kernel
theorem dX8_readClause_138 : decode cX8_readClause 138 = .ok (.ldc 76, 2) := by decide +kernel
theorem dX8_readClause_140 : decode cX8_readClause 140 = .ok (.aload_n 0, 1) := by decide +kernel
theorem dX8_readClause_141 : decode cX8_readClause 141 = .ok (.getfield 20, 3) := by decide +kernel
theorem dX8_readClause_144 : decode cX8_readClause 144 = .ok (.getstatic 78, 3) := by decide +kernel
theorem dX8_readClause_147 : decode cX8_readClause 147 = .ok (.getstatic 81, 3) := by decide +kernel
theorem dX8_readClause_150 : decode cX8_readClause 150 = .ok (.invokevirtual 64, 3) := by decide +kernel
theorem dX8_readClause_153 : decode cX8_readClause 153 = .ok (.ireturn, 1) := by decide +kernel
theorem dX8_readClause_154 : decode cX8_readClause 154 = .ok (.iconst 0, 1) := by decide +kernel
theorem dX8_readClause_155 : decode cX8_readClause 155 = .ok (.ireturn, 1) := by decide +kernel
theorem dX8_readItems_0 : decode cX8_readItems 0 = .ok (.iconst 0, 1) := by decide +kernel
theorem dX8_readItems_1 : decode cX8_readItems 1 = .ok (.istore 5, 2) := by decide +kernel
theorem dX8_readItems_3 : decode cX8_readItems 3 = .ok (.iconst 0, 1) := by decide +kernel
theorem dX8_readItems_4 : decode cX8_readItems 4 = .ok (.istore 6, 2) := by decide +kernel
theorem dX8_readItems_6 : decode cX8_readItems 6 = .ok (.iload 6, 2) := by decide +kernel
theorem dX8_readItems_8 : decode cX8_readItems 8 = .ok (.aload_n 1, 1) := by decide +kernel
theorem dX8_readItems_9 : decode cX8_readItems 9 = .ok (.invokevirtual 84, 3) := by decide +kernel
theorem dX8_readItems_12 : decode cX8_readItems 12 = .ok (.if_icmp .gt 136, 3) := by decide +kernel
theorem dX8_readItems_15 : decode cX8_readItems 15 = .ok (.aload_n 1, 1) := by decide +kernel
theorem dX8_readItems_16 : decode cX8_readItems 16 = .ok (.aload_n 0, 1) := by decide +kernel
theorem dX8_readItems_17 : decode cX8_readItems 17 = .ok (.invokevirtual 49, 3) := by decide +kernel
theorem dX8_readItems_20 : decode cX8_readItems 20 = .ok (.i2c, 1) := by decide +kernel
theorem dX8_readItems_21 : decode cX8_readItems 21 = .ok (.invokevirtual 89, 3) := by decide +kernel
theorem dX8_readItems_24 : decode cX8_readItems 24 = .ok (.istore 7, 2) := by decide +kernel
theorem dX8_readItems_26 : decode cX8_readItems 26 = .ok (.iload 7, 2) := by decide +kernel
theorem dX8_readItems_28 : decode cX8_readItems 28 = .ok (.ifCond .lt 25, 3) := by decide +kernel
theorem dX8_readItems_31 : decode cX8_readItems 31 = .ok (.iload 7, 2) := by decide +kernel
theorem dX8_readItems_33 : decode cX8_readItems 33 = .ok (.aload_n 2, 1) := by decide +kernel
theorem dX8_readItems_34 : decode cX8_readItems 34 = .ok (.arraylength, 1) := by decide +kernel
theorem dX8_readItems_35 : decode cX8_readItems 35 = .ok (.if_icmp .ge 18, 3) := by decide +kernel
theorem dX8_readItems_38 : decode cX8_readItems 38 = .ok (.iload 7, 2) := by decide +kernel
theorem dX8_readItems_40 : decode cX8_readItems 40 = .ok (.aload_n 3, 1) := by decide +kernel
theorem dX8_readItems_41 : decode cX8_readItems 41 = .ok (.arraylength, 1) := by decide +kernel
theorem dX8_readItems_42 : decode cX8_readItems 42 = .ok (.if_icmp .ge 11, 3) := by decide +kernel
theorem dX8_readItems_45 : decode cX8_readItems 45 = .ok (.iload 7, 2) := by decide +kernel
theorem dX8_readItems_47 : decode cX8_readItems 47 = .ok (.aload 4, 2) := by decide +kernel
theorem dX8_readItems_49 : decode cX8_readItems 49 = .ok (.arraylength, 1) := by decide +kernel
theorem dX8_readItems_50 : decode cX8_readItems 50 = .ok (.if_icmp .lt 5, 3) := by decide +kernel
theorem dX8_readItems_53 : decode cX8_readItems 53 = .ok (.iconst 1, 1) := by decide +kernel
theorem dX8_readItems_54 : decode cX8_readItems 54 = .ok (.ireturn, 1) := by decide +kernel
theorem dX8_readItems_55 : decode cX8_readItems 55 = .ok (.iload 5, 2) := by decide +kernel
theorem dX8_readItems_57 : decode cX8_readItems 57 = .ok (.iload 7, 2) := by decide +kernel
theorem dX8_readItems_59 : decode cX8_readItems 59 = .ok (.ishr, 1) := by decide +kernel
theorem dX8_readItems_60 : decode cX8_readItems 60 = .ok (.iconst 1, 1) := by decide +kernel
theorem dX8_readItems_61 : decode cX8_readItems 61 = .ok (.iand, 1) := by decide +kernel
theorem dX8_readItems_62 : decode cX8_readItems 62 = .ok (.iconst 1, 1) := by decide +kernel
theorem dX8_readItems_63 : decode cX8_readItems 63 = .ok (.if_icmp .ne 5, 3) := by decide +kernel
theorem dX8_readItems_66 : decode cX8_readItems 66 = .ok (.iconst 0, 1) := by decide +kernel
theorem dX8_readItems_67 : decode cX8_readItems 67 = .ok (.ireturn, 1) := by decide +kernel
theorem dX8_readItems_68 : decode cX8_readItems 68 = .ok (.iload 5, 2) := by decide +kernel
theorem dX8_readItems_70 : decode cX8_readItems 70 = .ok (.iconst 1, 1) := by decide +kernel
theorem dX8_readItems_71 : decode cX8_readItems 71 = .ok (.iload 7, 2) := by decide +kernel
theorem dX8_readItems_73 : decode cX8_readItems 73 = .ok (.ishl, 1) := by decide +kernel
theorem dX8_readItems_74 : decode cX8_readItems 74 = .ok (.ior, 1) := by decide +kernel
theorem dX8_readItems_75 : decode cX8_readItems 75 = .ok (.istore 5, 2) := by decide +kernel
theorem dX8_readItems_77 : decode cX8_readItems 77 = .ok (.aload_n 0, 1) := by decide +kernel
theorem dX8_readItems_78 : decode cX8_readItems 78 = .ok (.dup, 1) := by decide +kernel
theorem dX8_readItems_79 : decode cX8_readItems 79 = .ok (.getfield 53, 3) := by decide +kernel
theorem dX8_readItems_82 : decode cX8_readItems 82 = .ok (.iconst 1, 1) := by decide +kernel
theorem dX8_readItems_83 : decode cX8_readItems 83 = .ok (.iadd, 1) := by decide +kernel
theorem dX8_readItems_84 : decode cX8_readItems 84 = .ok (.putfield 53, 3) := by decide +kernel
theorem dX8_readItems_87 : decode cX8_readItems 87 = .ok (.aload_n 0, 1) := by decide +kernel
theorem dX8_readItems_88 : decode cX8_readItems 88 = .ok (.invokevirtual 49, 3) := by decide +kernel
theorem dX8_readItems_91 : decode cX8_readItems 91 = .ok (.pop, 1) := by decide +kernel
theorem dX8_readItems_92 : decode cX8_readItems 92 = .ok (.aload_n 0, 1) := by decide +kernel
theorem dX8_readItems_93 : decode cX8_readItems 93 = .ok (.iconst 2, 1) := by decide +kernel
theorem dX8_readItems_94 : decode cX8_readItems 94 = .ok (.invokevirtual 93, 3) := by decide +kernel
theorem dX8_readItems_97 : decode cX8_readItems 97 = .ok (.istore 8, 2) := by decide +kernel
theorem dX8_readItems_99 : decode cX8_readItems 99 = .ok (.iload 8, 2) := by decide +kernel
theorem dX8_readItems_101 : decode cX8_readItems 101 = .ok (.iconst (-1), 1) := by decide +kernel
theorem dX8_readItems_102 : decode cX8_readItems 102 = .ok (.if_icmp .ne 5, 3) := by decide +kernel
theorem dX8_readItems_105 : decode cX8_readItems 105 = .ok (.iconst 0, 1) := by decide +kernel
theorem dX8_readItems_106 : decode cX8_readItems 106 = .ok (.ireturn, 1) := by decide +kernel
theorem dX8_readItems_107 : decode cX8_readItems 107 = .ok (.iload 8, 2) := by decide +kernel
theorem dX8_readItems_109 : decode cX8_readItems 109 = .ok (.aload_n 3, 1) := by decide +kernel
theorem dX8_readItems_110 : decode cX8_readItems 110 = .ok (.iload 7, 2) := by decide +kernel
theorem dX8_readItems_112 : decode cX8_readItems 112 = .ok (.iaload, 1) := by decide +kernel
theorem dX8_readItems_113 : decode cX8_readItems 113 = .ok (.aload 4, 2) := by decide +kernel
theorem dX8_readItems_115 : decode cX8_readItems 115 = .ok (.iload 7, 2) := by decide +kernel
theorem dX8_readItems_117 : decode cX8_readItems 117 = .ok (.iaload, 1) := by decide +kernel
theorem dX8_readItems_118 : decode cX8_readItems 118 = .ok (.invokestatic 96, 3) := by decide +kernel
theorem dX8_readItems_121 : decode cX8_readItems 121 = .ok (.ifCond .ne 15, 3) := by decide +kernel
theorem dX8_readItems_124 : decode cX8_readItems 124 = .ok (.aload_n 0, 1) := by decide +kernel
theorem dX8_readItems_125 : decode cX8_readItems 125 = .ok (.dup, 1) := by decide +kernel
theorem dX8_readItems_126 : decode cX8_readItems 126 = .ok (.getfield 53, 3) := by decide +kernel
theorem dX8_readItems_129 : decode cX8_readItems 129 = .ok (.iconst 1, 1) := by decide +kernel
theorem dX8_readItems_130 : decode cX8_readItems 130 = .ok (.isub, 1) := by decide +kernel
theorem dX8_readItems_131 : decode cX8_readItems 131 = .ok (.putfield 53, 3) := by decide +kernel
theorem dX8_readItems_134 : decode cX8_readItems 134 = .ok (.iconst 0, 1) := by decide +kernel
theorem dX8_readItems_135 : decode cX8_readItems 135 = .ok (.ireturn, 1) := by decide +kernel
theorem dX8_readItems_136 : decode cX8_readItems 136 = .ok (.aload_n 2, 1) := by decide +kernel
theorem dX8_readItems_137 : decode cX8_readItems 137 = .ok (.iload 7, 2) := by decide +kernel
theorem dX8_readItems_139 : decode cX8_readItems 139 = .ok (.iload 8, 2) := by decide +kernel
theorem dX8_readItems_141 : decode cX8_readItems 141 = .ok (.iastore, 1) := by decide +kernel
theorem dX8_readItems_142 : decode cX8_readItems 142 = .ok (.iinc 6 1, 3) := by decide +kernel
theorem dX8_readItems_145 : decode cX8_readItems 145 = .ok (.goto (-139), 3) := by decide +kernel
theorem dX8_readItems_148 : decode cX8_readItems 148 = .ok (.iconst 1, 1) := by decide +kernel
theorem dX8_readItems_149 : decode cX8_readItems 149 = .ok (.ireturn, 1) := by decide +kernel
theorem dX9_init_0 : decode cX9_init 0 = .ok (.aload_n 0, 1) := by decide +kernel
theorem dX9_init_1 : decode cX9_init 1 = .ok (.invokespecial 3, 3) := by decide +kernel
theorem dX9_init_4 : decode cX9_init 4 = .ok (.aload_n 0, 1) := by decide +kernel
theorem dX9_init_5 : decode cX9_init 5 = .ok (.sipush 160, 3) := by decide +kernel
theorem dX9_init_8 : decode cX9_init 8 = .ok (.newarray .int, 2) := by decide +kernel
theorem dX9_init_10 : decode cX9_init 10 = .ok (.putfield 9, 3) := by decide +kernel
theorem dX9_init_13 : decode cX9_init 13 = .ok (.return_, 1) := by decide +kernel
theorem dX9_bytesOf_0 : decode cX9_bytesOf 0 = .ok (.iconst 0, 1) := by decide +kernel
theorem dX9_bytesOf_1 : decode cX9_bytesOf 1 = .ok (.istore_n 1, 1) := by decide +kernel
theorem dX9_bytesOf_2 : decode cX9_bytesOf 2 = .ok (.bipush 24, 2) := by decide +kernel
theorem dX9_bytesOf_4 : decode cX9_bytesOf 4 = .ok (.istore_n 2, 1) := by decide +kernel
theorem dX9_bytesOf_5 : decode cX9_bytesOf 5 = .ok (.iload_n 2, 1) := by decide +kernel
theorem dX9_bytesOf_6 : decode cX9_bytesOf 6 = .ok (.ifCond .lt 22, 3) := by decide +kernel
theorem dX9_bytesOf_9 : decode cX9_bytesOf 9 = .ok (.iload_n 0, 1) := by decide +kernel
theorem dX9_bytesOf_10 : decode cX9_bytesOf 10 = .ok (.iload_n 2, 1) := by decide +kernel
theorem dX9_bytesOf_11 : decode cX9_bytesOf 11 = .ok (.iushr, 1) := by decide +kernel
theorem dX9_bytesOf_12 : decode cX9_bytesOf 12 = .ok (.sipush 255, 3) := by decide +kernel
theorem dX9_bytesOf_15 : decode cX9_bytesOf 15 = .ok (.iand, 1) := by decide +kernel
theorem dX9_bytesOf_16 : decode cX9_bytesOf 16 = .ok (.ifCond .eq 6, 3) := by decide +kernel
theorem dX9_bytesOf_19 : decode cX9_bytesOf 19 = .ok (.iinc 1 1, 3) := by decide +kernel
theorem dX9_bytesOf_22 : decode cX9_bytesOf 22 = .ok (.iinc 2 (-8), 3) := by decide +kernel
theorem dX9_bytesOf_25 : decode cX9_bytesOf 25 = .ok (.goto (-20), 3) := by decide +kernel
theorem dX9_bytesOf_28 : decode cX9_bytesOf 28 = .ok (.iload_n 1, 1) := by decide +kernel
theorem dX9_bytesOf_29 : decode cX9_bytesOf 29 = .ok (.ireturn, 1) := by decide +kernel
theorem dX9_add_0 : decode cX9_add 0 = .ok (.bipush 24, 2) := by decide +kernel
theorem dX9_add_2 : decode cX9_add 2 = .ok (.istore_n 2, 1) := by decide +kernel
theorem dX9_add_3 : decode cX9_add 3 = .ok (.iload_n 2, 1) := by decide +kernel
theorem dX9_add_4 : decode cX9_add 4 = .ok (.ifCond .lt 51, 3) := by decide +kernel
theorem dX9_add_7 : decode cX9_add 7 = .ok (.iload_n 1, 1) := by decide +kernel
theorem dX9_add_8 : decode cX9_add 8 = .ok (.iload_n 2, 1) := by decide +kernel
theorem dX9_add_9 : decode cX9_add 9 = .ok (.iushr, 1) := by decide +kernel
theorem dX9_add_10 : decode cX9_add 10 = .ok (.sipush 255, 3) := by decide +kernel
theorem dX9_add_13 : decode cX9_add 13 = .ok (.iand, 1) := by decide +kernel
theorem dX9_add_14 : decode cX9_add 14 = .ok (.istore_n 3, 1) := by decide +kernel
theorem dX9_add_15 : decode cX9_add 15 = .ok (.iload_n 3, 1) := by decide +kernel
theorem dX9_add_16 : decode cX9_add 16 = .ok (.ifCond .eq 33, 3) := by decide +kernel
theorem dX9_add_19 : decode cX9_add 19 = .ok (.aload_n 0, 1) := by decide +kernel
theorem dX9_add_20 : decode cX9_add 20 = .ok (.getfield 15, 3) := by decide +kernel
theorem dX9_add_23 : decode cX9_add 23 = .ok (.sipush 160, 3) := by decide +kernel
theorem dX9_add_26 : decode cX9_add 26 = .ok (.if_icmp .ge 23, 3) := by decide +kernel
theorem dX9_add_29 : decode cX9_add 29 = .ok (.aload_n 0, 1) := by decide +kernel
theorem dX9_add_30 : decode cX9_add 30 = .ok (.getfield 9, 3) := by decide +kernel
theorem dX9_add_33 : decode cX9_add 33 = .ok (.aload_n 0, 1) := by decide +kernel
theorem dX9_add_34 : decode cX9_add 34 = .ok (.getfield 15, 3) := by decide +kernel
theorem dX9_add_37 : decode cX9_add 37 = .ok (.iload_n 3, 1) := by decide +kernel
theorem dX9_add_38 : decode cX9_add 38 = .ok (.iastore, 1) := by decide +kernel
theorem dX9_add_39 : decode cX9_add 39 = .ok (.aload_n 0, 1) := by decide +kernel
theorem dX9_add_40 : decode cX9_add 40 = .ok (.dup, 1) := by decide +kernel
theorem dX9_add_41 : decode cX9_add 41 = .ok (.getfield 15, 3) := by decide +kernel
theorem dX9_add_44 : decode cX9_add 44 = .ok (.iconst 1, 1) := by decide +kernel
theorem dX9_add_45 : decode cX9_add 45 = .ok (.iadd, 1) := by decide +kernel
theorem dX9_add_46 : decode cX9_add 46 = .ok (.putfield 15, 3) := by decide +kernel
theorem dX9_add_49 : decode cX9_add 49 = .ok (.iinc 2 (-8), 3) := by decide +kernel
theorem dX9_add_52 : decode cX9_add 52 = .ok (.goto (-49), 3) := by decide +kernel
theorem dX9_add_55 : decode cX9_add 55 = .ok (.return_, 1) := by decide +kernel
