theorem dX10_init_0 : decode cX10_init 0 = .ok (.aload_n 0, 1) := by decide +kernel
theorem dX10_init_1 : decode cX10_init 1 = .ok (.invokespecial 1, 3) := by decide +kernel
theorem dX10_init_4 : decode cX10_init 4 = .ok (.aload_n 0, 1) := by decide +kernel
theorem dX10_init_5 : decode cX10_init 5 = .ok (.new 7, 3) := by decide +kernel
theorem dX10_init_8 : decode cX10_init 8 = .ok (.dup, 1) := by decide +kernel
theorem dX10_init_9 : decode cX10_init 9 = .ok (.invokespecial 9, 3) := by decide +kernel
theorem dX10_init_12 : decode cX10_init 12 = .ok (.putfield 10, 3) := by decide +kernel
theorem dX10_init_15 : decode cX10_init 15 = .ok (.aload_n 0, 1) := by decide +kernel
theorem dX10_init_16 : decode cX10_init 16 = .ok (.new 16, 3) := by decide +kernel
theorem dX10_init_19 : decode cX10_init 19 = .ok (.dup, 1) := by decide +kernel
theorem dX10_init_20 : decode cX10_init 20 = .ok (.aload_n 0, 1) := by decide +kernel
theorem dX10_init_21 : decode cX10_init 21 = .ok (.getfield 10, 3) := by decide +kernel
theorem dX10_init_24 : decode cX10_init 24 = .ok (.invokespecial 18, 3) := by decide +kernel
theorem dX10_init_27 : decode cX10_init 27 = .ok (.putfield 21, 3) := by decide +kernel
theorem dX10_init_30 : decode cX10_init 30 = .ok (.aload_n 0, 1) := by decide +kernel
theorem dX10_init_31 : decode cX10_init 31 = .ok (.new 25, 3) := by decide +kernel
theorem dX10_init_34 : decode cX10_init 34 = .ok (.dup, 1) := by decide +kernel
theorem dX10_init_35 : decode cX10_init 35 = .ok (.aload_n 0, 1) := by decide +kernel
theorem dX10_init_36 : decode cX10_init 36 = .ok (.getfield 10, 3) := by decide +kernel
theorem dX10_init_39 : decode cX10_init 39 = .ok (.invokespecial 27, 3) := by decide +kernel
theorem dX10_init_42 : decode cX10_init 42 = .ok (.putfield 28, 3) := by decide +kernel
theorem dX10_init_45 : decode cX10_init 45 = .ok (.aload_n 0, 1) := by decide +kernel
theorem dX10_init_46 : decode cX10_init 46 = .ok (.iconst 4, 1) := by decide +kernel
theorem dX10_init_47 : decode cX10_init 47 = .ok (.anewarray 32, 3) := by decide +kernel
theorem dX10_init_50 : decode cX10_init 50 = .ok (.putfield 34, 3) := by decide +kernel
theorem dX10_init_53 : decode cX10_init 53 = .ok (.iconst 0, 1) := by decide +kernel
theorem dX10_init_54 : decode cX10_init 54 = .ok (.istore_n 1, 1) := by decide +kernel
theorem dX10_init_55 : decode cX10_init 55 = .ok (.iload_n 1, 1) := by decide +kernel
theorem dX10_init_56 : decode cX10_init 56 = .ok (.iconst 4, 1) := by decide +kernel
theorem dX10_init_57 : decode cX10_init 57 = .ok (.if_icmp .ge 22, 3) := by decide +kernel
theorem dX10_init_60 : decode cX10_init 60 = .ok (.aload_n 0, 1) := by decide +kernel
theorem dX10_init_61 : decode cX10_init 61 = .ok (.getfield 34, 3) := by decide +kernel
theorem dX10_init_64 : decode cX10_init 64 = .ok (.iload_n 1, 1) := by decide +kernel
theorem dX10_init_65 : decode cX10_init 65 = .ok (.new 32, 3) := by decide +kernel
theorem dX10_init_68 : decode cX10_init 68 = .ok (.dup, 1) := by decide +kernel
theorem dX10_init_69 : decode cX10_init 69 = .ok (.invokespecial 38, 3) := by decide +kernel
theorem dX10_init_72 : decode cX10_init 72 = .ok (.aastore, 1) := by decide +kernel
theorem dX10_init_73 : decode cX10_init 73 = .ok (.iinc 1 1, 3) := by decide +kernel
theorem dX10_init_76 : decode cX10_init 76 = .ok (.goto (-21), 3) := by decide +kernel
theorem dX10_init_79 : decode cX10_init 79 = .ok (.aload_n 0, 1) := by decide +kernel
theorem dX10_init_80 : decode cX10_init 80 = .ok (.iconst 0, 1) := by decide +kernel
theorem dX10_init_81 : decode cX10_init 81 = .ok (.putfield 39, 3) := by decide +kernel
theorem dX10_init_84 : decode cX10_init 84 = .ok (.aload_n 0, 1) := by decide +kernel
theorem dX10_init_85 : decode cX10_init 85 = .ok (.iconst (-1), 1) := by decide +kernel
theorem dX10_init_86 : decode cX10_init 86 = .ok (.putfield 43, 3) := by decide +kernel
theorem dX10_init_89 : decode cX10_init 89 = .ok (.aload_n 0, 1) := by decide +kernel
theorem dX10_init_90 : decode cX10_init 90 = .ok (.new 46, 3) := by decide +kernel
theorem dX10_init_93 : decode cX10_init 93 = .ok (.dup, 1) := by decide +kernel
theorem dX10_init_94 : decode cX10_init 94 = .ok (.invokespecial 48, 3) := by decide +kernel
theorem dX10_init_97 : decode cX10_init 97 = .ok (.putfield 49, 3) := by decide +kernel
theorem dX10_init_100 : decode cX10_init 100 = .ok (.aload_n 0, 1) := by decide +kernel
theorem dX10_init_101 : decode cX10_init 101 = .ok (.new 53, 3) := by decide +kernel
theorem dX10_init_104 : decode cX10_init 104 = .ok (.dup, 1) := by decide +kernel
theorem dX10_init_105 : decode cX10_init 105 = .ok (.invokespecial 55, 3) := by decide +kernel
theorem dX10_init_108 : decode cX10_init 108 = .ok (.putfield 56, 3) := by decide +kernel
theorem dX10_init_111 : decode cX10_init 111 = .ok (.aload_n 0, 1) := by decide +kernel
theorem dX10_init_112 : decode cX10_init 112 = .ok (.new 53, 3) := by decide +kernel
theorem dX10_init_115 : decode cX10_init 115 = .ok (.dup, 1) := by decide +kernel
theorem dX10_init_116 : decode cX10_init 116 = .ok (.invokespecial 55, 3) := by decide +kernel
theorem dX10_init_119 : decode cX10_init 119 = .ok (.putfield 60, 3) := by decide +kernel
theorem dX10_init_122 : decode cX10_init 122 = .ok (.aload_n 0, 1) := by decide +kernel
theorem dX10_init_123 : decode cX10_init 123 = .ok (.new 53, 3) := by decide +kernel
theorem dX10_init_126 : decode cX10_init 126 = .ok (.dup, 1) := by decide +kernel
theorem dX10_init_127 : decode cX10_init 127 = .ok (.invokespecial 55, 3) := by decide +kernel
theorem dX10_init_130 : decode cX10_init 130 = .ok (.putfield 63, 3) := by decide +kernel
theorem dX10_init_133 : decode cX10_init 133 = .ok (.aload_n 0, 1) := by decide +kernel
theorem dX10_init_134 : decode cX10_init 134 = .ok (.iconst 0, 1) := by decide +kernel
theorem dX10_init_135 : decode cX10_init 135 = .ok (.putfield 66, 3) := by decide +kernel
theorem dX10_init_138 : decode cX10_init 138 = .ok (.aload_n 0, 1) := by decide +kernel
theorem dX10_init_139 : decode cX10_init 139 = .ok (.new 70, 3) := by decide +kernel
theorem dX10_init_142 : decode cX10_init 142 = .ok (.dup, 1) := by decide +kernel
theorem dX10_init_143 : decode cX10_init 143 = .ok (.invokespecial 72, 3) := by decide +kernel
theorem dX10_init_146 : decode cX10_init 146 = .ok (.putfield 73, 3) := by decide +kernel
theorem dX10_init_149 : decode cX10_init 149 = .ok (.aload_n 0, 1) := by decide +kernel
theorem dX10_init_150 : decode cX10_init 150 = .ok (.new 77, 3) := by decide +kernel
theorem dX10_init_153 : decode cX10_init 153 = .ok (.dup, 1) := by decide +kernel
theorem dX10_init_154 : decode cX10_init 154 = .ok (.aload_n 0, 1) := by decide +kernel
theorem dX10_init_155 : decode cX10_init 155 = .ok (.getfield 49, 3) := by decide +kernel
theorem dX10_init_158 : decode cX10_init 158 = .ok (.invokespecial 79, 3) := by decide +kernel
theorem dX10_init_161 : decode cX10_init 161 = .ok (.putfield 82, 3) := by decide +kernel
theorem dX10_init_164 : decode cX10_init 164 = .ok (.aload_n 0, 1) := by decide +kernel
theorem dX10_init_165 : decode cX10_init 165 = .ok (.new 86, 3) := by decide +kernel
theorem dX10_init_168 : decode cX10_init 168 = .ok (.dup, 1) := by decide +kernel
theorem dX10_init_169 : decode cX10_init 169 = .ok (.aload_n 0, 1) := by decide +kernel
theorem dX10_init_170 : decode cX10_init 170 = .ok (.getfield 49, 3) := by decide +kernel
theorem dX10_init_173 : decode cX10_init 173 = .ok (.aload_n 0, 1) := by decide +kernel
theorem dX10_init_174 : decode cX10_init 174 = .ok (.getfield 56, 3) := by decide +kernel
theorem dX10_init_177 : decode cX10_init 177 = .ok (.aload_n 0, 1) := by decide +kernel
theorem dX10_init_178 : decode cX10_init 178 = .ok (.getfield 82, 3) := by decide +kernel
theorem dX10_init_181 : decode cX10_init 181 = .ok (.invokespecial 88, 3) := by decide +kernel
theorem dX10_init_184 : decode cX10_init 184 = .ok (.putfield 91, 3) := by decide +kernel
theorem dX10_init_187 : decode cX10_init 187 = .ok (.aload_n 0, 1) := by decide +kernel
theorem dX10_init_188 : decode cX10_init 188 = .ok (.bipush 6, 2) := by decide +kernel
theorem dX10_init_190 : decode cX10_init 190 = .ok (.newarray .int, 2) := by decide +kernel
theorem dX10_init_192 : decode cX10_init 192 = .ok (.putfield 95, 3) := by decide +kernel
theorem dX10_init_195 : decode cX10_init 195 = .ok (.return_, 1) := by decide +kernel
theorem dX10_feed_0 : decode cX10_feed 0 = .ok (.iload_n 1, 1) := by decide +kernel
theorem dX10_feed_1 : decode cX10_feed 1 = .ok (.invokestatic 99, 3) := by decide +kernel
theorem dX10_feed_4 : decode cX10_feed 4 = .ok (.iload_n 2, 1) := by decide +kernel
theorem dX10_feed_5 : decode cX10_feed 5 = .ok (.invokestatic 99, 3) := by decide +kernel
theorem dX10_feed_8 : decode cX10_feed 8 = .ok (.iadd, 1) := by decide +kernel
theorem dX10_feed_9 : decode cX10_feed 9 = .ok (.iload_n 3, 1) := by decide +kernel
theorem dX10_feed_10 : decode cX10_feed 10 = .ok (.invokestatic 99, 3) := by decide +kernel
theorem dX10_feed_13 : decode cX10_feed 13 = .ok (.iadd, 1) := by decide +kernel
theorem dX10_feed_14 : decode cX10_feed 14 = .ok (.iload 4, 2) := by decide +kernel
theorem dX10_feed_16 : decode cX10_feed 16 = .ok (.invokestatic 99, 3) := by decide +kernel
theorem dX10_feed_19 : decode cX10_feed 19 = .ok (.iadd, 1) := by decide +kernel
theorem dX10_feed_20 : decode cX10_feed 20 = .ok (.iload 5, 2) := by decide +kernel
theorem dX10_feed_22 : decode cX10_feed 22 = .ok (.invokestatic 99, 3) := by decide +kernel
theorem dX10_feed_25 : decode cX10_feed 25 = .ok (.iadd, 1) := by decide +kernel
theorem dX10_feed_26 : decode cX10_feed 26 = .ok (.istore 6, 2) := by decide +kernel
theorem dX10_feed_28 : decode cX10_feed 28 = .ok (.aload_n 0, 1) := by decide +kernel
theorem dX10_feed_29 : decode cX10_feed 29 = .ok (.getfield 10, 3) := by decide +kernel
theorem dX10_feed_32 : decode cX10_feed 32 = .ok (.getfield 103, 3) := by decide +kernel
theorem dX10_feed_35 : decode cX10_feed 35 = .ok (.iload 6, 2) := by decide +kernel
theorem dX10_feed_37 : decode cX10_feed 37 = .ok (.iadd, 1) := by decide +kernel
theorem dX10_feed_38 : decode cX10_feed 38 = .ok (.sipush 160, 3) := by decide +kernel
theorem dX10_feed_41 : decode cX10_feed 41 = .ok (.if_icmp .le 5, 3) := by decide +kernel
theorem dX10_feed_44 : decode cX10_feed 44 = .ok (.iconst (-1), 1) := by decide +kernel
theorem dX10_feed_45 : decode cX10_feed 45 = .ok (.ireturn, 1) := by decide +kernel
theorem dX10_feed_46 : decode cX10_feed 46 = .ok (.aload_n 0, 1) := by decide +kernel
theorem dX10_feed_47 : decode cX10_feed 47 = .ok (.getfield 10, 3) := by decide +kernel
theorem dX10_feed_50 : decode cX10_feed 50 = .ok (.iload_n 1, 1) := by decide +kernel
theorem dX10_feed_51 : decode cX10_feed 51 = .ok (.invokevirtual 106, 3) := by decide +kernel
theorem dX10_feed_54 : decode cX10_feed 54 = .ok (.aload_n 0, 1) := by decide +kernel
theorem dX10_feed_55 : decode cX10_feed 55 = .ok (.getfield 10, 3) := by decide +kernel
theorem dX10_feed_58 : decode cX10_feed 58 = .ok (.iload_n 2, 1) := by decide +kernel
theorem dX10_feed_59 : decode cX10_feed 59 = .ok (.invokevirtual 106, 3) := by decide +kernel
theorem dX10_feed_62 : decode cX10_feed 62 = .ok (.aload_n 0, 1) := by decide +kernel
theorem dX10_feed_63 : decode cX10_feed 63 = .ok (.getfield 10, 3) := by decide +kernel
theorem dX10_feed_66 : decode cX10_feed 66 = .ok (.iload_n 3, 1) := by decide +kernel
theorem dX10_feed_67 : decode cX10_feed 67 = .ok (.invokevirtual 106, 3) := by decide +kernel
theorem dX10_feed_70 : decode cX10_feed 70 = .ok (.aload_n 0, 1) := by decide +kernel
theorem dX10_feed_71 : decode cX10_feed 71 = .ok (.getfield 10, 3) := by decide +kernel
theorem dX10_feed_74 : decode cX10_feed 74 = .ok (.iload 4, 2) := by decide +kernel
theorem dX10_feed_76 : decode cX10_feed 76 = .ok (.invokevirtual 106, 3) := by decide +kernel
theorem dX10_feed_79 : decode cX10_feed 79 = .ok (.aload_n 0, 1) := by decide +kernel
theorem dX10_feed_80 : decode cX10_feed 80 = .ok (.getfield 10, 3) := by decide +kernel
theorem dX10_feed_83 : decode cX10_feed 83 = .ok (.iload 5, 2) := by decide +kernel
theorem dX10_feed_85 : decode cX10_feed 85 = .ok (.invokevirtual 106, 3) := by decide +kernel
theorem dX10_feed_88 : decode cX10_feed 88 = .ok (.aload_n 0, 1) := by decide +kernel
theorem dX10_feed_89 : decode cX10_feed 89 = .ok (.getfield 10, 3) := by decide +kernel
theorem dX10_feed_92 : decode cX10_feed 92 = .ok (.getfield 103, 3) := by decide +kernel
theorem dX10_feed_95 : decode cX10_feed 95 = .ok (.ireturn, 1) := by decide +kernel
theorem dX10_end_0 : decode cX10_end 0 = .ok (.iload_n 1, 1) := by decide +kernel
theorem dX10_end_1 : decode cX10_end 1 = .ok (.ifCond .lt 14, 3) := by decide +kernel
theorem dX10_end_4 : decode cX10_end 4 = .ok (.iload_n 1, 1) := by decide +kernel
theorem dX10_end_5 : decode cX10_end 5 = .ok (.aload_n 0, 1) := by decide +kernel
theorem dX10_end_6 : decode cX10_end 6 = .ok (.getfield 10, 3) := by decide +kernel
theorem dX10_end_9 : decode cX10_end 9 = .ok (.getfield 103, 3) := by decide +kernel
theorem dX10_end_12 : decode cX10_end 12 = .ok (.if_icmp .le 5, 3) := by decide +kernel
theorem dX10_end_15 : decode cX10_end 15 = .ok (.iconst 0, 1) := by decide +kernel
theorem dX10_end_16 : decode cX10_end 16 = .ok (.ireturn, 1) := by decide +kernel
theorem dX10_end_17 : decode cX10_end 17 = .ok (.aload_n 0, 1) := by decide +kernel
theorem dX10_end_18 : decode cX10_end 18 = .ok (.getfield 10, 3) := by decide +kernel
theorem dX10_end_21 : decode cX10_end 21 = .ok (.iload_n 1, 1) := by decide +kernel
theorem dX10_end_22 : decode cX10_end 22 = .ok (.putfield 103, 3) := by decide +kernel
theorem dX10_end_25 : decode cX10_end 25 = .ok (.iconst 1, 1) := by decide +kernel
theorem dX10_end_26 : decode cX10_end 26 = .ok (.ireturn, 1) := by decide +kernel
theorem dX10_fault_0 : decode cX10_fault 0 = .ok (.iload_n 1, 1) := by decide +kernel
theorem dX10_fault_1 : decode cX10_fault 1 = .ok (.ifCond .ne 11, 3) := by decide +kernel
theorem dX10_fault_4 : decode cX10_fault 4 = .ok (.aload_n 0, 1) := by decide +kernel
theorem dX10_fault_5 : decode cX10_fault 5 = .ok (.getfield 21, 3) := by decide +kernel
theorem dX10_fault_8 : decode cX10_fault 8 = .ok (.invokevirtual 110, 3) := by decide +kernel
theorem dX10_fault_11 : decode cX10_fault 11 = .ok (.ireturn, 1) := by decide +kernel
theorem dX10_fault_12 : decode cX10_fault 12 = .ok (.iload_n 1, 1) := by decide +kernel
theorem dX10_fault_13 : decode cX10_fault 13 = .ok (.iconst 1, 1) := by decide +kernel
theorem dX10_fault_14 : decode cX10_fault 14 = .ok (.if_icmp .ne 11, 3) := by decide +kernel
theorem dX10_fault_17 : decode cX10_fault 17 = .ok (.aload_n 0, 1) := by decide +kernel
theorem dX10_fault_18 : decode cX10_fault 18 = .ok (.getfield 28, 3) := by decide +kernel
theorem dX10_fault_21 : decode cX10_fault 21 = .ok (.invokevirtual 114, 3) := by decide +kernel
theorem dX10_fault_24 : decode cX10_fault 24 = .ok (.ireturn, 1) := by decide +kernel
theorem dX10_fault_25 : decode cX10_fault 25 = .ok (.bipush (-2), 2) := by decide +kernel
theorem dX10_fault_27 : decode cX10_fault 27 = .ok (.ireturn, 1) := by decide +kernel
theorem dX10_text_0 : decode cX10_text 0 = .ok (.iload_n 1, 1) := by decide +kernel
theorem dX10_text_1 : decode cX10_text 1 = .ok (.ifCond .ne 34, 3) := by decide +kernel
theorem dX10_text_4 : decode cX10_text 4 = .ok (.aload_n 0, 1) := by decide +kernel
theorem dX10_text_5 : decode cX10_text 5 = .ok (.getfield 21, 3) := by decide +kernel
theorem dX10_text_8 : decode cX10_text 8 = .ok (.invokevirtual 110, 3) := by decide +kernel
theorem dX10_text_11 : decode cX10_text 11 = .ok (.iconst (-1), 1) := by decide +kernel
theorem dX10_text_12 : decode cX10_text 12 = .ok (.if_icmp .ne 23, 3) := by decide +kernel
theorem dX10_text_15 : decode cX10_text 15 = .ok (.aload_n 0, 1) := by decide +kernel
theorem dX10_text_16 : decode cX10_text 16 = .ok (.getfield 10, 3) := by decide +kernel
theorem dX10_text_19 : decode cX10_text 19 = .ok (.iconst 0, 1) := by decide +kernel
theorem dX10_text_20 : decode cX10_text 20 = .ok (.putfield 103, 3) := by decide +kernel
theorem dX10_text_23 : decode cX10_text 23 = .ok (.aload_n 0, 1) := by decide +kernel
theorem dX10_text_24 : decode cX10_text 24 = .ok (.invokevirtual 115, 3) := by decide +kernel
theorem dX10_text_27 : decode cX10_text 27 = .ok (.aload_n 0, 1) := by decide +kernel
theorem dX10_text_28 : decode cX10_text 28 = .ok (.getfield 49, 3) := by decide +kernel
theorem dX10_text_31 : decode cX10_text 31 = .ok (.getfield 118, 3) := by decide +kernel
theorem dX10_text_34 : decode cX10_text 34 = .ok (.ireturn, 1) := by decide +kernel
theorem dX10_text_35 : decode cX10_text 35 = .ok (.iload_n 1, 1) := by decide +kernel
theorem dX10_text_36 : decode cX10_text 36 = .ok (.iconst 1, 1) := by decide +kernel
theorem dX10_text_37 : decode cX10_text 37 = .ok (.if_icmp .ne 63, 3) := by decide +kernel
theorem dX10_text_40 : decode cX10_text 40 = .ok (.aload_n 0, 1) := by decide +kernel
theorem dX10_text_41 : decode cX10_text 41 = .ok (.getfield 39, 3) := by decide +kernel
theorem dX10_text_44 : decode cX10_text 44 = .ok (.iconst 4, 1) := by decide +kernel
theorem dX10_text_45 : decode cX10_text 45 = .ok (.if_icmp .ge 55, 3) := by decide +kernel
theorem dX10_text_48 : decode cX10_text 48 = .ok (.aload_n 0, 1) := by decide +kernel
theorem dX10_text_49 : decode cX10_text 49 = .ok (.getfield 28, 3) := by decide +kernel
theorem dX10_text_52 : decode cX10_text 52 = .ok (.invokevirtual 114, 3) := by decide +kernel
theorem dX10_text_55 : decode cX10_text 55 = .ok (.iconst (-1), 1) := by decide +kernel
theorem dX10_text_56 : decode cX10_text 56 = .ok (.if_icmp .ne 44, 3) := by decide +kernel
theorem dX10_text_59 : decode cX10_text 59 = .ok (.aload_n 0, 1) := by decide +kernel
theorem dX10_text_60 : decode cX10_text 60 = .ok (.getfield 10, 3) := by decide +kernel
theorem dX10_text_63 : decode cX10_text 63 = .ok (.iconst 0, 1) := by decide +kernel
theorem dX10_text_64 : decode cX10_text 64 = .ok (.putfield 103, 3) := by decide +kernel
theorem dX10_text_67 : decode cX10_text 67 = .ok (.aload_n 0, 1) := by decide +kernel
theorem dX10_text_68 : decode cX10_text 68 = .ok (.getfield 34, 3) := by decide +kernel
theorem dX10_text_71 : decode cX10_text 71 = .ok (.aload_n 0, 1) := by decide +kernel
theorem dX10_text_72 : decode cX10_text 72 = .ok (.getfield 39, 3) := by decide +kernel
theorem dX10_text_75 : decode cX10_text 75 = .ok (.aaload, 1) := by decide +kernel
theorem dX10_text_76 : decode cX10_text 76 = .ok (.aload_n 0, 1) := by decide +kernel
theorem dX10_text_77 : decode cX10_text 77 = .ok (.getfield 28, 3) := by decide +kernel
theorem dX10_text_80 : decode cX10_text 80 = .ok (.invokevirtual 121, 3) := by decide +kernel
theorem dX10_text_83 : decode cX10_text 83 = .ok (.aload_n 0, 1) := by decide +kernel
theorem dX10_text_84 : decode cX10_text 84 = .ok (.dup, 1) := by decide +kernel
theorem dX10_text_85 : decode cX10_text 85 = .ok (.getfield 39, 3) := by decide +kernel
theorem dX10_text_88 : decode cX10_text 88 = .ok (.iconst 1, 1) := by decide +kernel
theorem dX10_text_89 : decode cX10_text 89 = .ok (.iadd, 1) := by decide +kernel
theorem dX10_text_90 : decode cX10_text 90 = .ok (.putfield 39, 3) := by decide +kernel
theorem dX10_text_93 : decode cX10_text 93 = .ok (.aload_n 0, 1) := by decide +kernel
theorem dX10_text_94 : decode cX10_text 94 = .ok (.getfield 39, 3) := by decide +kernel
theorem dX10_text_97 : decode cX10_text 97 = .ok (.iconst 1, 1) := by decide +kernel
theorem dX10_text_98 : decode cX10_text 98 = .ok (.isub, 1) := by decide +kernel
theorem dX10_text_99 : decode cX10_text 99 = .ok (.ireturn, 1) := by decide +kernel
theorem dX10_text_100 : decode cX10_text 100 = .ok (.iconst (-1), 1) := by decide +kernel
theorem dX10_text_101 : decode cX10_text 101 = .ok (.ireturn, 1) := by decide +kernel
theorem dX10_moveToStreet_0 : decode cX10_moveToStreet 0 = .ok (.aload_n 0, 1) := by decide +kernel
theorem dX10_moveToStreet_1 : decode cX10_moveToStreet 1 = .ok (.getfield 49, 3) := by decide +kernel
theorem dX10_moveToStreet_4 : decode cX10_moveToStreet 4 = .ok (.aload_n 0, 1) := by decide +kernel
theorem dX10_moveToStreet_5 : decode cX10_moveToStreet 5 = .ok (.getfield 21, 3) := by decide +kernel
theorem dX10_moveToStreet_8 : decode cX10_moveToStreet 8 = .ok (.invokevirtual 125, 3) := by decide +kernel
theorem dX10_moveToStreet_11 : decode cX10_moveToStreet 11 = .ok (.aload_n 0, 1) := by decide +kernel
theorem dX10_moveToStreet_12 : decode cX10_moveToStreet 12 = .ok (.getfield 56, 3) := by decide +kernel
theorem dX10_moveToStreet_15 : decode cX10_moveToStreet 15 = .ok (.aload_n 0, 1) := by decide +kernel
theorem dX10_moveToStreet_16 : decode cX10_moveToStreet 16 = .ok (.getfield 21, 3) := by decide +kernel
theorem dX10_moveToStreet_19 : decode cX10_moveToStreet 19 = .ok (.invokevirtual 128, 3) := by decide +kernel
theorem dX10_moveToStreet_22 : decode cX10_moveToStreet 22 = .ok (.aload_n 0, 1) := by decide +kernel
theorem dX10_moveToStreet_23 : decode cX10_moveToStreet 23 = .ok (.getfield 73, 3) := by decide +kernel
theorem dX10_moveToStreet_26 : decode cX10_moveToStreet 26 = .ok (.invokevirtual 131, 3) := by decide +kernel
theorem dX10_moveToStreet_29 : decode cX10_moveToStreet 29 = .ok (.aload_n 0, 1) := by decide +kernel
theorem dX10_moveToStreet_30 : decode cX10_moveToStreet 30 = .ok (.iconst 0, 1) := by decide +kernel
theorem dX10_moveToStreet_31 : decode cX10_moveToStreet 31 = .ok (.putfield 66, 3) := by decide +kernel
theorem dX10_moveToStreet_34 : decode cX10_moveToStreet 34 = .ok (.aload_n 0, 1) := by decide +kernel
theorem dX10_moveToStreet_35 : decode cX10_moveToStreet 35 = .ok (.iconst (-1), 1) := by decide +kernel
theorem dX10_moveToStreet_36 : decode cX10_moveToStreet 36 = .ok (.invokevirtual 134, 3) := by decide +kernel
theorem dX10_moveToStreet_39 : decode cX10_moveToStreet 39 = .ok (.return_, 1) := by decide +kernel
theorem dX10_house_0 : decode cX10_house 0 = .ok (.aload_n 0, 1) := by decide +kernel
theorem dX10_house_1 : decode cX10_house 1 = .ok (.iload_n 1, 1) := by decide +kernel
theorem dX10_house_2 : decode cX10_house 2 = .ok (.invokevirtual 137, 3) := by decide +kernel
theorem dX10_house_5 : decode cX10_house 5 = .ok (.ifCond .ne 13, 3) := by decide +kernel
theorem dX10_house_8 : decode cX10_house 8 = .ok (.new 141, 3) := by decide +kernel
theorem dX10_house_11 : decode cX10_house 11 = .ok (.dup, 1) := by decide +kernel
theorem dX10_house_12 : decode cX10_house 12 = .ok (.ldc 143, 2) := by decide +kernel
theorem dX10_house_14 : decode cX10_house 14 = .ok (.invokespecial 145, 3) := by decide +kernel
theorem dX10_house_17 : decode cX10_house 17 = .ok (.athrow, 1) := by decide +kernel
theorem dX10_house_18 : decode cX10_house 18 = .ok (.iload_n 2, 1) := by decide +kernel
theorem dX10_house_19 : decode cX10_house 19 = .ok (.invokestatic 148, 3) := by decide +kernel
theorem dX10_house_22 : decode cX10_house 22 = .ok (.ifCond .eq 13, 3) := by decide +kernel
theorem dX10_house_25 : decode cX10_house 25 = .ok (.aload_n 0, 1) := by decide +kernel
theorem dX10_house_26 : decode cX10_house 26 = .ok (.getfield 56, 3) := by decide +kernel
theorem dX10_house_29 : decode cX10_house 29 = .ok (.iload_n 1, 1) := by decide +kernel
theorem dX10_house_30 : decode cX10_house 30 = .ok (.iload_n 2, 1) := by decide +kernel
theorem dX10_house_31 : decode cX10_house 31 = .ok (.invokevirtual 151, 3) := by decide +kernel
theorem dX10_house_34 : decode cX10_house 34 = .ok (.ireturn, 1) := by decide +kernel
theorem dX10_house_35 : decode cX10_house 35 = .ok (.iload_n 2, 1) := by decide +kernel
theorem dX10_house_36 : decode cX10_house 36 = .ok (.tableswitch 85 5 9 #[36, 46, 56, 66, 76], 36) := by decide +kernel
theorem dX10_house_72 : decode cX10_house 72 = .ok (.aload_n 0, 1) := by decide +kernel
theorem dX10_house_73 : decode cX10_house 73 = .ok (.getfield 49, 3) := by decide +kernel
theorem dX10_house_76 : decode cX10_house 76 = .ok (.getfield 155, 3) := by decide +kernel
theorem dX10_house_79 : decode cX10_house 79 = .ok (.iload_n 1, 1) := by decide +kernel
theorem dX10_house_80 : decode cX10_house 80 = .ok (.iaload, 1) := by decide +kernel
theorem dX10_house_81 : decode cX10_house 81 = .ok (.ireturn, 1) := by decide +kernel
theorem dX10_house_82 : decode cX10_house 82 = .ok (.aload_n 0, 1) := by decide +kernel
theorem dX10_house_83 : decode cX10_house 83 = .ok (.getfield 49, 3) := by decide +kernel
theorem dX10_house_86 : decode cX10_house 86 = .ok (.getfield 158, 3) := by decide +kernel
theorem dX10_house_89 : decode cX10_house 89 = .ok (.iload_n 1, 1) := by decide +kernel
theorem dX10_house_90 : decode cX10_house 90 = .ok (.iaload, 1) := by decide +kernel
theorem dX10_house_91 : decode cX10_house 91 = .ok (.ireturn, 1) := by decide +kernel
theorem dX10_house_92 : decode cX10_house 92 = .ok (.aload_n 0, 1) := by decide +kernel
theorem dX10_house_93 : decode cX10_house 93 = .ok (.getfield 49, 3) := by decide +kernel
theorem dX10_house_96 : decode cX10_house 96 = .ok (.getfield 161, 3) := by decide +kernel
theorem dX10_house_99 : decode cX10_house 99 = .ok (.iload_n 1, 1) := by decide +kernel
theorem dX10_house_100 : decode cX10_house 100 = .ok (.iaload, 1) := by decide +kernel
theorem dX10_house_101 : decode cX10_house 101 = .ok (.ireturn, 1) := by decide +kernel
theorem dX10_house_102 : decode cX10_house 102 = .ok (.aload_n 0, 1) := by decide +kernel
theorem dX10_house_103 : decode cX10_house 103 = .ok (.getfield 56, 3) := by decide +kernel
theorem dX10_house_106 : decode cX10_house 106 = .ok (.getfield 164, 3) := by decide +kernel
theorem dX10_house_109 : decode cX10_house 109 = .ok (.iload_n 1, 1) := by decide +kernel
theorem dX10_house_110 : decode cX10_house 110 = .ok (.iaload, 1) := by decide +kernel
theorem dX10_house_111 : decode cX10_house 111 = .ok (.ireturn, 1) := by decide +kernel
theorem dX10_house_112 : decode cX10_house 112 = .ok (.aload_n 0, 1) := by decide +kernel
theorem dX10_house_113 : decode cX10_house 113 = .ok (.getfield 56, 3) := by decide +kernel
theorem dX10_house_116 : decode cX10_house 116 = .ok (.iload_n 1, 1) := by decide +kernel
theorem dX10_house_117 : decode cX10_house 117 = .ok (.invokevirtual 167, 3) := by decide +kernel
theorem dX10_house_120 : decode cX10_house 120 = .ok (.ireturn, 1) := by decide +kernel
theorem dX10_house_121 : decode cX10_house 121 = .ok (.new 141, 3) := by decide +kernel
theorem dX10_house_124 : decode cX10_house 124 = .ok (.dup, 1) := by decide +kernel
theorem dX10_house_125 : decode cX10_house 125 = .ok (.ldc 170, 2) := by decide +kernel
theorem dX10_house_127 : decode cX10_house 127 = .ok (.invokespecial 145, 3) := by decide +kernel
theorem dX10_house_130 : decode cX10_house 130 = .ok (.athrow, 1) := by decide +kernel
theorem dX10_liking_0 : decode cX10_liking 0 = .ok (.aload_n 0, 1) := by decide +kernel
theorem dX10_liking_1 : decode cX10_liking 1 = .ok (.invokevirtual 172, 3) := by decide +kernel
theorem dX10_liking_4 : decode cX10_liking 4 = .ok (.ifCond .eq 16, 3) := by decide +kernel
theorem dX10_liking_7 : decode cX10_liking 7 = .ok (.iload_n 1, 1) := by decide +kernel
theorem dX10_liking_8 : decode cX10_liking 8 = .ok (.iconst (-1), 1) := by decide +kernel
theorem dX10_liking_9 : decode cX10_liking 9 = .ok (.if_icmp .lt 11, 3) := by decide +kernel
theorem dX10_liking_12 : decode cX10_liking 12 = .ok (.iload_n 1, 1) := by decide +kernel
theorem dX10_liking_13 : decode cX10_liking 13 = .ok (.aload_n 0, 1) := by decide +kernel
theorem dX10_liking_14 : decode cX10_liking 14 = .ok (.getfield 39, 3) := by decide +kernel
theorem dX10_liking_17 : decode cX10_liking 17 = .ok (.if_icmp .lt 5, 3) := by decide +kernel
theorem dX10_liking_20 : decode cX10_liking 20 = .ok (.iconst 0, 1) := by decide +kernel
theorem dX10_liking_21 : decode cX10_liking 21 = .ok (.ireturn, 1) := by decide +kernel
theorem dX10_liking_22 : decode cX10_liking 22 = .ok (.aload_n 0, 1) := by decide +kernel
theorem dX10_liking_23 : decode cX10_liking 23 = .ok (.iload_n 1, 1) := by decide +kernel
theorem dX10_liking_24 : decode cX10_liking 24 = .ok (.invokevirtual 134, 3) := by decide +kernel
theorem dX10_liking_27 : decode cX10_liking 27 = .ok (.iconst 1, 1) := by decide +kernel
theorem dX10_liking_28 : decode cX10_liking 28 = .ok (.ireturn, 1) := by decide +kernel
theorem dX10_hold_0 : decode cX10_hold 0 = .ok (.aload_n 0, 1) := by decide +kernel
theorem dX10_hold_1 : decode cX10_hold 1 = .ok (.iload_n 1, 1) := by decide +kernel
theorem dX10_hold_2 : decode cX10_hold 2 = .ok (.putfield 43, 3) := by decide +kernel
theorem dX10_hold_5 : decode cX10_hold 5 = .ok (.aload_n 0, 1) := by decide +kernel
theorem dX10_hold_6 : decode cX10_hold 6 = .ok (.getfield 82, 3) := by decide +kernel
theorem dX10_hold_9 : decode cX10_hold 9 = .ok (.iload_n 1, 1) := by decide +kernel
theorem dX10_hold_10 : decode cX10_hold 10 = .ok (.ifCond .lt 17, 3) := by decide +kernel
theorem dX10_hold_13 : decode cX10_hold 13 = .ok (.iload_n 1, 1) := by decide +kernel
theorem dX10_hold_14 : decode cX10_hold 14 = .ok (.iconst 4, 1) := by decide +kernel
theorem dX10_hold_15 : decode cX10_hold 15 = .ok (.if_icmp .ge 12, 3) := by decide +kernel
theorem dX10_hold_18 : decode cX10_hold 18 = .ok (.aload_n 0, 1) := by decide +kernel
theorem dX10_hold_19 : decode cX10_hold 19 = .ok (.getfield 34, 3) := by decide +kernel
theorem dX10_hold_22 : decode cX10_hold 22 = .ok (.iload_n 1, 1) := by decide +kernel
theorem dX10_hold_23 : decode cX10_hold 23 = .ok (.aaload, 1) := by decide +kernel
theorem dX10_hold_24 : decode cX10_hold 24 = .ok (.goto 4, 3) := by decide +kernel
theorem dX10_hold_27 : decode cX10_hold 27 = .ok (.aconst_null, 1) := by decide +kernel
theorem dX10_hold_28 : decode cX10_hold 28 = .ok (.putfield 176, 3) := by decide +kernel
theorem dX10_hold_31 : decode cX10_hold 31 = .ok (.return_, 1) := by decide +kernel
theorem dX10_order_0 : decode cX10_order 0 = .ok (.aload_n 0, 1) := by decide +kernel
theorem dX10_order_1 : decode cX10_order 1 = .ok (.invokevirtual 172, 3) := by decide +kernel
theorem dX10_order_4 : decode cX10_order 4 = .ok (.ifCond .eq 11, 3) := by decide +kernel
theorem dX10_order_7 : decode cX10_order 7 = .ok (.aload_n 0, 1) := by decide +kernel
theorem dX10_order_8 : decode cX10_order 8 = .ok (.iload_n 1, 1) := by decide +kernel
theorem dX10_order_9 : decode cX10_order 9 = .ok (.invokevirtual 180, 3) := by decide +kernel
theorem dX10_order_12 : decode cX10_order 12 = .ok (.ifCond .ne 5, 3) := by decide +kernel
theorem dX10_order_15 : decode cX10_order 15 = .ok (.iconst 0, 1) := by decide +kernel
theorem dX10_order_16 : decode cX10_order 16 = .ok (.ireturn, 1) := by decide +kernel
theorem dX10_order_17 : decode cX10_order 17 = .ok (.iload_n 1, 1) := by decide +kernel
theorem dX10_order_18 : decode cX10_order 18 = .ok (.istore_n 2, 1) := by decide +kernel
theorem dX10_order_19 : decode cX10_order 19 = .ok (.aload_n 0, 1) := by decide +kernel
theorem dX10_order_20 : decode cX10_order 20 = .ok (.getfield 49, 3) := by decide +kernel
theorem dX10_order_23 : decode cX10_order 23 = .ok (.getfield 118, 3) := by decide +kernel
theorem dX10_order_26 : decode cX10_order 26 = .ok (.iconst 1, 1) := by decide +kernel
theorem dX10_order_27 : decode cX10_order 27 = .ok (.isub, 1) := by decide +kernel
theorem dX10_order_28 : decode cX10_order 28 = .ok (.istore_n 3, 1) := by decide +kernel
theorem dX10_order_29 : decode cX10_order 29 = .ok (.iload_n 3, 1) := by decide +kernel
theorem dX10_order_30 : decode cX10_order 30 = .ok (.ifCond .lt 27, 3) := by decide +kernel
theorem dX10_order_33 : decode cX10_order 33 = .ok (.aload_n 0, 1) := by decide +kernel
theorem dX10_order_34 : decode cX10_order 34 = .ok (.getfield 56, 3) := by decide +kernel
theorem dX10_order_37 : decode cX10_order 37 = .ok (.getfield 183, 3) := by decide +kernel
theorem dX10_order_40 : decode cX10_order 40 = .ok (.iload_n 3, 1) := by decide +kernel
theorem dX10_order_41 : decode cX10_order 41 = .ok (.iload_n 2, 1) := by decide +kernel
theorem dX10_order_42 : decode cX10_order 42 = .ok (.bipush 10, 2) := by decide +kernel
theorem dX10_order_44 : decode cX10_order 44 = .ok (.irem, 1) := by decide +kernel
theorem dX10_order_45 : decode cX10_order 45 = .ok (.iastore, 1) := by decide +kernel
theorem dX10_order_46 : decode cX10_order 46 = .ok (.iload_n 2, 1) := by decide +kernel
theorem dX10_order_47 : decode cX10_order 47 = .ok (.bipush 10, 2) := by decide +kernel
theorem dX10_order_49 : decode cX10_order 49 = .ok (.idiv, 1) := by decide +kernel
theorem dX10_order_50 : decode cX10_order 50 = .ok (.istore_n 2, 1) := by decide +kernel
theorem dX10_order_51 : decode cX10_order 51 = .ok (.iinc 3 (-1), 3) := by decide +kernel
theorem dX10_order_54 : decode cX10_order 54 = .ok (.goto (-25), 3) := by decide +kernel
theorem dX10_order_57 : decode cX10_order 57 = .ok (.iconst 1, 1) := by decide +kernel
theorem dX10_order_58 : decode cX10_order 58 = .ok (.ireturn, 1) := by decide +kernel
theorem dX10_isOrder_0 : decode cX10_isOrder 0 = .ok (.iload_n 1, 1) := by decide +kernel
theorem dX10_isOrder_1 : decode cX10_isOrder 1 = .ok (.ifCond .ge 5, 3) := by decide +kernel
theorem dX10_isOrder_4 : decode cX10_isOrder 4 = .ok (.iconst 0, 1) := by decide +kernel
theorem dX10_isOrder_5 : decode cX10_isOrder 5 = .ok (.ireturn, 1) := by decide +kernel
theorem dX10_isOrder_6 : decode cX10_isOrder 6 = .ok (.iload_n 1, 1) := by decide +kernel
theorem dX10_isOrder_7 : decode cX10_isOrder 7 = .ok (.istore_n 2, 1) := by decide +kernel
theorem dX10_isOrder_8 : decode cX10_isOrder 8 = .ok (.iconst 0, 1) := by decide +kernel
theorem dX10_isOrder_9 : decode cX10_isOrder 9 = .ok (.istore_n 3, 1) := by decide +kernel
theorem dX10_isOrder_10 : decode cX10_isOrder 10 = .ok (.iconst 0, 1) := by decide +kernel
theorem dX10_isOrder_11 : decode cX10_isOrder 11 = .ok (.istore 4, 2) := by decide +kernel
theorem dX10_isOrder_13 : decode cX10_isOrder 13 = .ok (.iload 4, 2) := by decide +kernel
theorem dX10_isOrder_15 : decode cX10_isOrder 15 = .ok (.aload_n 0, 1) := by decide +kernel
theorem dX10_isOrder_16 : decode cX10_isOrder 16 = .ok (.getfield 49, 3) := by decide +kernel
theorem dX10_isOrder_19 : decode cX10_isOrder 19 = .ok (.getfield 118, 3) := by decide +kernel
theorem dX10_isOrder_22 : decode cX10_isOrder 22 = .ok (.if_icmp .ge 51, 3) := by decide +kernel
theorem dX10_isOrder_25 : decode cX10_isOrder 25 = .ok (.iload_n 2, 1) := by decide +kernel
theorem dX10_isOrder_26 : decode cX10_isOrder 26 = .ok (.bipush 10, 2) := by decide +kernel
theorem dX10_isOrder_28 : decode cX10_isOrder 28 = .ok (.irem, 1) := by decide +kernel
theorem dX10_isOrder_29 : decode cX10_isOrder 29 = .ok (.istore 5, 2) := by decide +kernel
theorem dX10_isOrder_31 : decode cX10_isOrder 31 = .ok (.iload 5, 2) := by decide +kernel
theorem dX10_isOrder_33 : decode cX10_isOrder 33 = .ok (.aload_n 0, 1) := by decide +kernel
theorem dX10_isOrder_34 : decode cX10_isOrder 34 = .ok (.getfield 49, 3) := by decide +kernel
theorem dX10_isOrder_37 : decode cX10_isOrder 37 = .ok (.getfield 118, 3) := by decide +kernel
theorem dX10_isOrder_40 : decode cX10_isOrder 40 = .ok (.if_icmp .ge 13, 3) := by decide +kernel
theorem dX10_isOrder_43 : decode cX10_isOrder 43 = .ok (.iload_n 3, 1) := by decide +kernel
theorem dX10_isOrder_44 : decode cX10_isOrder 44 = .ok (.iload 5, 2) := by decide +kernel
theorem dX10_isOrder_46 : decode cX10_isOrder 46 = .ok (.ishr, 1) := by decide +kernel
theorem dX10_isOrder_47 : decode cX10_isOrder 47 = .ok (.iconst 1, 1) := by decide +kernel
theorem dX10_isOrder_48 : decode cX10_isOrder 48 = .ok (.iand, 1) := by decide +kernel
theorem dX10_isOrder_49 : decode cX10_isOrder 49 = .ok (.iconst 1, 1) := by decide +kernel
theorem dX10_isOrder_50 : decode cX10_isOrder 50 = .ok (.if_icmp .ne 5, 3) := by decide +kernel
theorem dX10_isOrder_53 : decode cX10_isOrder 53 = .ok (.iconst 0, 1) := by decide +kernel
theorem dX10_isOrder_54 : decode cX10_isOrder 54 = .ok (.ireturn, 1) := by decide +kernel
theorem dX10_isOrder_55 : decode cX10_isOrder 55 = .ok (.iload_n 3, 1) := by decide +kernel
theorem dX10_isOrder_56 : decode cX10_isOrder 56 = .ok (.iconst 1, 1) := by decide +kernel
theorem dX10_isOrder_57 : decode cX10_isOrder 57 = .ok (.iload 5, 2) := by decide +kernel
theorem dX10_isOrder_59 : decode cX10_isOrder 59 = .ok (.ishl, 1) := by decide +kernel
theorem dX10_isOrder_60 : decode cX10_isOrder 60 = .ok (.ior, 1) := by decide +kernel
theorem dX10_isOrder_61 : decode cX10_isOrder 61 = .ok (.istore_n 3, 1) := by decide +kernel
theorem dX10_isOrder_62 : decode cX10_isOrder 62 = .ok (.iload_n 2, 1) := by decide +kernel
theorem dX10_isOrder_63 : decode cX10_isOrder 63 = .ok (.bipush 10, 2) := by decide +kernel
theorem dX10_isOrder_65 : decode cX10_isOrder 65 = .ok (.idiv, 1) := by decide +kernel
theorem dX10_isOrder_66 : decode cX10_isOrder 66 = .ok (.istore_n 2, 1) := by decide +kernel
theorem dX10_isOrder_67 : decode cX10_isOrder 67 = .ok (.iinc 4 1, 3) := by decide +kernel
theorem dX10_isOrder_70 : decode cX10_isOrder 70 = .ok (.goto (-57), 3) := by decide +kernel
theorem dX10_isOrder_73 : decode cX10_isOrder 73 = .ok (.iload_n 2, 1) := by decide +kernel
theorem dX10_isOrder_74 : decode cX10_isOrder 74 = .ok (.ifCond .ne 7, 3) := by decide +kernel
theorem dX10_isOrder_77 : decode cX10_isOrder 77 = .ok (.iconst 1, 1) := by decide +kernel
theorem dX10_isOrder_78 : decode cX10_isOrder 78 = .ok (.goto 4, 3) := by decide +kernel
theorem dX10_isOrder_81 : decode cX10_isOrder 81 = .ok (.iconst 0, 1) := by decide +kernel
theorem dX10_isOrder_82 : decode cX10_isOrder 82 = .ok (.ireturn, 1) := by decide +kernel
theorem dX10_put_0 : decode cX10_put 0 = .ok (.aload_n 0, 1) := by decide +kernel
theorem dX10_put_1 : decode cX10_put 1 = .ok (.iload_n 1, 1) := by decide +kernel
theorem dX10_put_2 : decode cX10_put 2 = .ok (.invokevirtual 137, 3) := by decide +kernel
theorem dX10_put_5 : decode cX10_put 5 = .ok (.ifCond .eq 16, 3) := by decide +kernel
theorem dX10_put_8 : decode cX10_put 8 = .ok (.iload_n 2, 1) := by decide +kernel
theorem dX10_put_9 : decode cX10_put 9 = .ok (.invokestatic 148, 3) := by decide +kernel
theorem dX10_put_12 : decode cX10_put 12 = .ok (.ifCond .ne 11, 3) := by decide +kernel
theorem dX10_put_15 : decode cX10_put 15 = .ok (.iload_n 2, 1) := by decide +kernel
theorem dX10_put_16 : decode cX10_put 16 = .ok (.bipush 9, 2) := by decide +kernel
theorem dX10_put_18 : decode cX10_put 18 = .ok (.if_icmp .eq 5, 3) := by decide +kernel
theorem dX10_put_21 : decode cX10_put 21 = .ok (.iconst 0, 1) := by decide +kernel
theorem dX10_put_22 : decode cX10_put 22 = .ok (.ireturn, 1) := by decide +kernel
theorem dX10_put_23 : decode cX10_put 23 = .ok (.aload_n 0, 1) := by decide +kernel
theorem dX10_put_24 : decode cX10_put 24 = .ok (.getfield 56, 3) := by decide +kernel
theorem dX10_put_27 : decode cX10_put 27 = .ok (.getfield 164, 3) := by decide +kernel
theorem dX10_put_30 : decode cX10_put 30 = .ok (.iload_n 1, 1) := by decide +kernel
theorem dX10_put_31 : decode cX10_put 31 = .ok (.iload_n 2, 1) := by decide +kernel
theorem dX10_put_32 : decode cX10_put 32 = .ok (.iastore, 1) := by decide +kernel
theorem dX10_put_33 : decode cX10_put 33 = .ok (.iconst 1, 1) := by decide +kernel
theorem dX10_put_34 : decode cX10_put 34 = .ok (.ireturn, 1) := by decide +kernel
theorem dX10_fill_0 : decode cX10_fill 0 = .ok (.aload_n 0, 1) := by decide +kernel
theorem dX10_fill_1 : decode cX10_fill 1 = .ok (.iload_n 1, 1) := by decide +kernel
theorem dX10_fill_2 : decode cX10_fill 2 = .ok (.invokevirtual 137, 3) := by decide +kernel
theorem dX10_fill_5 : decode cX10_fill 5 = .ok (.ifCond .eq 20, 3) := by decide +kernel
theorem dX10_fill_8 : decode cX10_fill 8 = .ok (.iload_n 2, 1) := by decide +kernel
theorem dX10_fill_9 : decode cX10_fill 9 = .ok (.invokestatic 148, 3) := by decide +kernel
theorem dX10_fill_12 : decode cX10_fill 12 = .ok (.ifCond .eq 13, 3) := by decide +kernel
theorem dX10_fill_15 : decode cX10_fill 15 = .ok (.iload_n 3, 1) := by decide +kernel
theorem dX10_fill_16 : decode cX10_fill 16 = .ok (.iconst 0, 1) := by decide +kernel
theorem dX10_fill_17 : decode cX10_fill 17 = .ok (.bipush 99, 2) := by decide +kernel
theorem dX10_fill_19 : decode cX10_fill 19 = .ok (.invokestatic 186, 3) := by decide +kernel
theorem dX10_fill_22 : decode cX10_fill 22 = .ok (.ifCond .ne 5, 3) := by decide +kernel
theorem dX10_fill_25 : decode cX10_fill 25 = .ok (.iconst 0, 1) := by decide +kernel
theorem dX10_fill_26 : decode cX10_fill 26 = .ok (.ireturn, 1) := by decide +kernel
theorem dX10_fill_27 : decode cX10_fill 27 = .ok (.aload_n 0, 1) := by decide +kernel
theorem dX10_fill_28 : decode cX10_fill 28 = .ok (.getfield 56, 3) := by decide +kernel
theorem dX10_fill_31 : decode cX10_fill 31 = .ok (.iload_n 1, 1) := by decide +kernel
theorem dX10_fill_32 : decode cX10_fill 32 = .ok (.iload_n 2, 1) := by decide +kernel
theorem dX10_fill_33 : decode cX10_fill 33 = .ok (.iload_n 3, 1) := by decide +kernel
theorem dX10_fill_34 : decode cX10_fill 34 = .ok (.invokevirtual 190, 3) := by decide +kernel
theorem dX10_fill_37 : decode cX10_fill 37 = .ok (.iconst 1, 1) := by decide +kernel
theorem dX10_fill_38 : decode cX10_fill 38 = .ok (.ireturn, 1) := by decide +kernel
theorem dX10_meal_0 : decode cX10_meal 0 = .ok (.aload_n 0, 1) := by decide +kernel
theorem dX10_meal_1 : decode cX10_meal 1 = .ok (.iload_n 1, 1) := by decide +kernel
theorem dX10_meal_2 : decode cX10_meal 2 = .ok (.invokevirtual 137, 3) := by decide +kernel
theorem dX10_meal_5 : decode cX10_meal 5 = .ok (.ifCond .ne 6, 3) := by decide +kernel
theorem dX10_meal_8 : decode cX10_meal 8 = .ok (.ldc 194, 2) := by decide +kernel
theorem dX10_meal_10 : decode cX10_meal 10 = .ok (.ireturn, 1) := by decide +kernel
theorem dX10_meal_11 : decode cX10_meal 11 = .ok (.aload_n 0, 1) := by decide +kernel
theorem dX10_meal_12 : decode cX10_meal 12 = .ok (.getfield 82, 3) := by decide +kernel
theorem dX10_meal_15 : decode cX10_meal 15 = .ok (.aload_n 0, 1) := by decide +kernel
theorem dX10_meal_16 : decode cX10_meal 16 = .ok (.getfield 56, 3) := by decide +kernel
theorem dX10_meal_19 : decode cX10_meal 19 = .ok (.invokevirtual 195, 3) := by decide +kernel
theorem dX10_meal_22 : decode cX10_meal 22 = .ok (.aload_n 0, 1) := by decide +kernel
theorem dX10_meal_23 : decode cX10_meal 23 = .ok (.getfield 82, 3) := by decide +kernel
theorem dX10_meal_26 : decode cX10_meal 26 = .ok (.iload_n 1, 1) := by decide +kernel
theorem dX10_meal_27 : decode cX10_meal 27 = .ok (.invokevirtual 199, 3) := by decide +kernel
theorem dX10_meal_30 : decode cX10_meal 30 = .ok (.ireturn, 1) := by decide +kernel
theorem dX10_share_0 : decode cX10_share 0 = .ok (.aload_n 0, 1) := by decide +kernel
theorem dX10_share_1 : decode cX10_share 1 = .ok (.iload_n 1, 1) := by decide +kernel
theorem dX10_share_2 : decode cX10_share 2 = .ok (.invokevirtual 137, 3) := by decide +kernel
theorem dX10_share_5 : decode cX10_share 5 = .ok (.ifCond .eq 10, 3) := by decide +kernel
theorem dX10_share_8 : decode cX10_share 8 = .ok (.iload_n 2, 1) := by decide +kernel
theorem dX10_share_9 : decode cX10_share 9 = .ok (.invokestatic 148, 3) := by decide +kernel
theorem dX10_share_12 : decode cX10_share 12 = .ok (.ifCond .ne 5, 3) := by decide +kernel
theorem dX10_share_15 : decode cX10_share 15 = .ok (.iconst (-1), 1) := by decide +kernel
theorem dX10_share_16 : decode cX10_share 16 = .ok (.ireturn, 1) := by decide +kernel
theorem dX10_share_17 : decode cX10_share 17 = .ok (.aload_n 0, 1) := by decide +kernel
theorem dX10_share_18 : decode cX10_share 18 = .ok (.getfield 82, 3) := by decide +kernel
theorem dX10_share_21 : decode cX10_share 21 = .ok (.aload_n 0, 1) := by decide +kernel
theorem dX10_share_22 : decode cX10_share 22 = .ok (.getfield 56, 3) := by decide +kernel
theorem dX10_share_25 : decode cX10_share 25 = .ok (.invokevirtual 195, 3) := by decide +kernel
theorem dX10_share_28 : decode cX10_share 28 = .ok (.aload_n 0, 1) := by decide +kernel
theorem dX10_share_29 : decode cX10_share 29 = .ok (.getfield 82, 3) := by decide +kernel
theorem dX10_share_32 : decode cX10_share 32 = .ok (.iload_n 1, 1) := by decide +kernel
theorem dX10_share_33 : decode cX10_share 33 = .ok (.iload_n 2, 1) := by decide +kernel
theorem dX10_share_34 : decode cX10_share 34 = .ok (.invokevirtual 202, 3) := by decide +kernel
theorem dX10_share_37 : decode cX10_share 37 = .ok (.ireturn, 1) := by decide +kernel
theorem dX10_heat_0 : decode cX10_heat 0 = .ok (.aload_n 0, 1) := by decide +kernel
theorem dX10_heat_1 : decode cX10_heat 1 = .ok (.iload_n 1, 1) := by decide +kernel
theorem dX10_heat_2 : decode cX10_heat 2 = .ok (.invokevirtual 137, 3) := by decide +kernel
theorem dX10_heat_5 : decode cX10_heat 5 = .ok (.ifCond .ne 5, 3) := by decide +kernel
theorem dX10_heat_8 : decode cX10_heat 8 = .ok (.iconst (-1), 1) := by decide +kernel
theorem dX10_heat_9 : decode cX10_heat 9 = .ok (.ireturn, 1) := by decide +kernel
theorem dX10_heat_10 : decode cX10_heat 10 = .ok (.aload_n 0, 1) := by decide +kernel
theorem dX10_heat_11 : decode cX10_heat 11 = .ok (.getfield 82, 3) := by decide +kernel
theorem dX10_heat_14 : decode cX10_heat 14 = .ok (.aload_n 0, 1) := by decide +kernel
theorem dX10_heat_15 : decode cX10_heat 15 = .ok (.getfield 56, 3) := by decide +kernel
theorem dX10_heat_18 : decode cX10_heat 18 = .ok (.invokevirtual 195, 3) := by decide +kernel
theorem dX10_heat_21 : decode cX10_heat 21 = .ok (.aload_n 0, 1) := by decide +kernel
theorem dX10_heat_22 : decode cX10_heat 22 = .ok (.getfield 82, 3) := by decide +kernel
theorem dX10_heat_25 : decode cX10_heat 25 = .ok (.iload_n 1, 1) := by decide +kernel
theorem dX10_heat_26 : decode cX10_heat 26 = .ok (.invokevirtual 205, 3) := by decide +kernel
theorem dX10_heat_29 : decode cX10_heat 29 = .ok (.ireturn, 1) := by decide +kernel
theorem dX10_first_0 : decode cX10_first 0 = .ok (.aload_n 0, 1) := by decide +kernel
theorem dX10_first_1 : decode cX10_first 1 = .ok (.invokevirtual 172, 3) := by decide +kernel
theorem dX10_first_4 : decode cX10_first 4 = .ok (.ifCond .ne 5, 3) := by decide +kernel
theorem dX10_first_7 : decode cX10_first 7 = .ok (.iconst (-1), 1) := by decide +kernel
theorem dX10_first_8 : decode cX10_first 8 = .ok (.ireturn, 1) := by decide +kernel
theorem dX10_first_9 : decode cX10_first 9 = .ok (.aload_n 0, 1) := by decide +kernel
theorem dX10_first_10 : decode cX10_first 10 = .ok (.getfield 82, 3) := by decide +kernel
theorem dX10_first_13 : decode cX10_first 13 = .ok (.aload_n 0, 1) := by decide +kernel
theorem dX10_first_14 : decode cX10_first 14 = .ok (.getfield 56, 3) := by decide +kernel
theorem dX10_first_17 : decode cX10_first 17 = .ok (.invokevirtual 195, 3) := by decide +kernel
theorem dX10_first_20 : decode cX10_first 20 = .ok (.aload_n 0, 1) := by decide +kernel
theorem dX10_first_21 : decode cX10_first 21 = .ok (.getfield 82, 3) := by decide +kernel
theorem dX10_first_24 : decode cX10_first 24 = .ok (.getfield 208, 3) := by decide +kernel
theorem dX10_first_27 : decode cX10_first 27 = .ok (.ireturn, 1) := by decide +kernel
theorem dX10_days_0 : decode cX10_days 0 = .ok (.aload_n 0, 1) := by decide +kernel
theorem dX10_days_1 : decode cX10_days 1 = .ok (.iload_n 1, 1) := by decide +kernel
theorem dX10_days_2 : decode cX10_days 2 = .ok (.invokevirtual 211, 3) := by decide +kernel
theorem dX10_days_5 : decode cX10_days 5 = .ok (.ifCond .ne 5, 3) := by decide +kernel
theorem dX10_days_8 : decode cX10_days 8 = .ok (.iconst (-1), 1) := by decide +kernel
theorem dX10_days_9 : decode cX10_days 9 = .ok (.ireturn, 1) := by decide +kernel
theorem dX10_days_10 : decode cX10_days 10 = .ok (.iconst 0, 1) := by decide +kernel
theorem dX10_days_11 : decode cX10_days 11 = .ok (.istore_n 2, 1) := by decide +kernel
theorem dX10_days_12 : decode cX10_days 12 = .ok (.iload_n 2, 1) := by decide +kernel
theorem dX10_days_13 : decode cX10_days 13 = .ok (.iload_n 1, 1) := by decide +kernel
theorem dX10_days_14 : decode cX10_days 14 = .ok (.if_icmp .ge 13, 3) := by decide +kernel
theorem dX10_days_17 : decode cX10_days 17 = .ok (.aload_n 0, 1) := by decide +kernel
theorem dX10_days_18 : decode cX10_days 18 = .ok (.invokevirtual 214, 3) := by decide +kernel
theorem dX10_days_21 : decode cX10_days 21 = .ok (.iinc 2 1, 3) := by decide +kernel
theorem dX10_days_24 : decode cX10_days 24 = .ok (.goto (-12), 3) := by decide +kernel
theorem dX10_days_27 : decode cX10_days 27 = .ok (.aload_n 0, 1) := by decide +kernel
theorem dX10_days_28 : decode cX10_days 28 = .ok (.getfield 56, 3) := by decide +kernel
theorem dX10_days_31 : decode cX10_days 31 = .ok (.getfield 217, 3) := by decide +kernel
theorem dX10_days_34 : decode cX10_days 34 = .ok (.ireturn, 1) := by decide +kernel
theorem dX10_canGoOn_0 : decode cX10_canGoOn 0 = .ok (.aload_n 0, 1) := by decide +kernel
theorem dX10_canGoOn_1 : decode cX10_canGoOn 1 = .ok (.invokevirtual 172, 3) := by decide +kernel
theorem dX10_canGoOn_4 : decode cX10_canGoOn 4 = .ok (.ifCond .eq 32, 3) := by decide +kernel
theorem dX10_canGoOn_7 : decode cX10_canGoOn 7 = .ok (.iload_n 1, 1) := by decide +kernel
theorem dX10_canGoOn_8 : decode cX10_canGoOn 8 = .ok (.iconst 1, 1) := by decide +kernel
theorem dX10_canGoOn_9 : decode cX10_canGoOn 9 = .ok (.bipush 30, 2) := by decide +kernel
theorem dX10_canGoOn_11 : decode cX10_canGoOn 11 = .ok (.invokestatic 186, 3) := by decide +kernel
theorem dX10_canGoOn_14 : decode cX10_canGoOn 14 = .ok (.ifCond .eq 22, 3) := by decide +kernel
theorem dX10_canGoOn_17 : decode cX10_canGoOn 17 = .ok (.aload_n 0, 1) := by decide +kernel
theorem dX10_canGoOn_18 : decode cX10_canGoOn 18 = .ok (.getfield 56, 3) := by decide +kernel
theorem dX10_canGoOn_21 : decode cX10_canGoOn 21 = .ok (.getfield 217, 3) := by decide +kernel
theorem dX10_canGoOn_24 : decode cX10_canGoOn 24 = .ok (.iload_n 1, 1) := by decide +kernel
theorem dX10_canGoOn_25 : decode cX10_canGoOn 25 = .ok (.iadd, 1) := by decide +kernel
theorem dX10_canGoOn_26 : decode cX10_canGoOn 26 = .ok (.sipush 999, 3) := by decide +kernel
theorem dX10_canGoOn_29 : decode cX10_canGoOn 29 = .ok (.if_icmp .gt 7, 3) := by decide +kernel
theorem dX10_canGoOn_32 : decode cX10_canGoOn 32 = .ok (.iconst 1, 1) := by decide +kernel
theorem dX10_canGoOn_33 : decode cX10_canGoOn 33 = .ok (.goto 4, 3) := by decide +kernel
theorem dX10_canGoOn_36 : decode cX10_canGoOn 36 = .ok (.iconst 0, 1) := by decide +kernel
theorem dX10_canGoOn_37 : decode cX10_canGoOn 37 = .ok (.ireturn, 1) := by decide +kernel
theorem dX10_goOn_0 : decode cX10_goOn 0 = .ok (.aload_n 0, 1) := by decide +kernel
theorem dX10_goOn_1 : decode cX10_goOn 1 = .ok (.getfield 73, 3) := by decide +kernel
theorem dX10_goOn_4 : decode cX10_goOn 4 = .ok (.aload_n 0, 1) := by decide +kernel
theorem dX10_goOn_5 : decode cX10_goOn 5 = .ok (.getfield 56, 3) := by decide +kernel
theorem dX10_goOn_8 : decode cX10_goOn 8 = .ok (.invokevirtual 220, 3) := by decide +kernel
theorem dX10_goOn_11 : decode cX10_goOn 11 = .ok (.aload_n 0, 1) := by decide +kernel
theorem dX10_goOn_12 : decode cX10_goOn 12 = .ok (.getfield 82, 3) := by decide +kernel
theorem dX10_goOn_15 : decode cX10_goOn 15 = .ok (.aload_n 0, 1) := by decide +kernel
theorem dX10_goOn_16 : decode cX10_goOn 16 = .ok (.getfield 56, 3) := by decide +kernel
theorem dX10_goOn_19 : decode cX10_goOn 19 = .ok (.invokevirtual 195, 3) := by decide +kernel
theorem dX10_goOn_22 : decode cX10_goOn 22 = .ok (.iconst 0, 1) := by decide +kernel
theorem dX10_goOn_23 : decode cX10_goOn 23 = .ok (.istore_n 1, 1) := by decide +kernel
theorem dX10_goOn_24 : decode cX10_goOn 24 = .ok (.iload_n 1, 1) := by decide +kernel
theorem dX10_goOn_25 : decode cX10_goOn 25 = .ok (.aload_n 0, 1) := by decide +kernel
theorem dX10_goOn_26 : decode cX10_goOn 26 = .ok (.getfield 49, 3) := by decide +kernel
theorem dX10_goOn_29 : decode cX10_goOn 29 = .ok (.getfield 118, 3) := by decide +kernel
theorem dX10_goOn_32 : decode cX10_goOn 32 = .ok (.if_icmp .ge 29, 3) := by decide +kernel
theorem dX10_goOn_35 : decode cX10_goOn 35 = .ok (.aload_n 0, 1) := by decide +kernel
theorem dX10_goOn_36 : decode cX10_goOn 36 = .ok (.getfield 56, 3) := by decide +kernel
theorem dX10_goOn_39 : decode cX10_goOn 39 = .ok (.getfield 223, 3) := by decide +kernel
theorem dX10_goOn_42 : decode cX10_goOn 42 = .ok (.iload_n 1, 1) := by decide +kernel
theorem dX10_goOn_43 : decode cX10_goOn 43 = .ok (.dup2, 1) := by decide +kernel
theorem dX10_goOn_44 : decode cX10_goOn 44 = .ok (.iaload, 1) := by decide +kernel
theorem dX10_goOn_45 : decode cX10_goOn 45 = .ok (.aload_n 0, 1) := by decide +kernel
theorem dX10_goOn_46 : decode cX10_goOn 46 = .ok (.getfield 82, 3) := by decide +kernel
theorem dX10_goOn_49 : decode cX10_goOn 49 = .ok (.iload_n 1, 1) := by decide +kernel
theorem dX10_goOn_50 : decode cX10_goOn 50 = .ok (.invokevirtual 199, 3) := by decide +kernel
theorem dX10_goOn_53 : decode cX10_goOn 53 = .ok (.iadd, 1) := by decide +kernel
theorem dX10_goOn_54 : decode cX10_goOn 54 = .ok (.iastore, 1) := by decide +kernel
theorem dX10_goOn_55 : decode cX10_goOn 55 = .ok (.iinc 1 1, 3) := by decide +kernel
theorem dX10_goOn_58 : decode cX10_goOn 58 = .ok (.goto (-34), 3) := by decide +kernel
theorem dX10_goOn_61 : decode cX10_goOn 61 = .ok (.iconst 0, 1) := by decide +kernel
theorem dX10_goOn_62 : decode cX10_goOn 62 = .ok (.istore_n 1, 1) := by decide +kernel
theorem dX10_goOn_63 : decode cX10_goOn 63 = .ok (.iload_n 1, 1) := by decide +kernel
theorem dX10_goOn_64 : decode cX10_goOn 64 = .ok (.aload_n 0, 1) := by decide +kernel
theorem dX10_goOn_65 : decode cX10_goOn 65 = .ok (.getfield 49, 3) := by decide +kernel
theorem dX10_goOn_68 : decode cX10_goOn 68 = .ok (.getfield 118, 3) := by decide +kernel
theorem dX10_goOn_71 : decode cX10_goOn 71 = .ok (.iconst 1, 1) := by decide +kernel
theorem dX10_goOn_72 : decode cX10_goOn 72 = .ok (.isub, 1) := by decide +kernel
theorem dX10_goOn_73 : decode cX10_goOn 73 = .ok (.if_icmp .ge 32, 3) := by decide +kernel
theorem dX10_goOn_76 : decode cX10_goOn 76 = .ok (.aload_n 0, 1) := by decide +kernel
theorem dX10_goOn_77 : decode cX10_goOn 77 = .ok (.getfield 56, 3) := by decide +kernel
theorem dX10_goOn_80 : decode cX10_goOn 80 = .ok (.aload_n 0, 1) := by decide +kernel
theorem dX10_goOn_81 : decode cX10_goOn 81 = .ok (.getfield 56, 3) := by decide +kernel
theorem dX10_goOn_84 : decode cX10_goOn 84 = .ok (.getfield 183, 3) := by decide +kernel
theorem dX10_goOn_87 : decode cX10_goOn 87 = .ok (.iload_n 1, 1) := by decide +kernel
theorem dX10_goOn_88 : decode cX10_goOn 88 = .ok (.iaload, 1) := by decide +kernel
theorem dX10_goOn_89 : decode cX10_goOn 89 = .ok (.aload_n 0, 1) := by decide +kernel
theorem dX10_goOn_90 : decode cX10_goOn 90 = .ok (.getfield 49, 3) := by decide +kernel
theorem dX10_goOn_93 : decode cX10_goOn 93 = .ok (.getfield 226, 3) := by decide +kernel
theorem dX10_goOn_96 : decode cX10_goOn 96 = .ok (.invokevirtual 229, 3) := by decide +kernel
theorem dX10_goOn_99 : decode cX10_goOn 99 = .ok (.iinc 1 1, 3) := by decide +kernel
theorem dX10_goOn_102 : decode cX10_goOn 102 = .ok (.goto (-39), 3) := by decide +kernel
theorem dX10_goOn_105 : decode cX10_goOn 105 = .ok (.aload_n 0, 1) := by decide +kernel
theorem dX10_goOn_106 : decode cX10_goOn 106 = .ok (.getfield 56, 3) := by decide +kernel
theorem dX10_goOn_109 : decode cX10_goOn 109 = .ok (.dup, 1) := by decide +kernel
theorem dX10_goOn_110 : decode cX10_goOn 110 = .ok (.getfield 217, 3) := by decide +kernel
theorem dX10_goOn_113 : decode cX10_goOn 113 = .ok (.iconst 1, 1) := by decide +kernel
theorem dX10_goOn_114 : decode cX10_goOn 114 = .ok (.iadd, 1) := by decide +kernel
theorem dX10_goOn_115 : decode cX10_goOn 115 = .ok (.putfield 217, 3) := by decide +kernel
theorem dX10_goOn_118 : decode cX10_goOn 118 = .ok (.return_, 1) := by decide +kernel
theorem dX10_undo_0 : decode cX10_undo 0 = .ok (.aload_n 0, 1) := by decide +kernel
theorem dX10_undo_1 : decode cX10_undo 1 = .ok (.getfield 73, 3) := by decide +kernel
theorem dX10_undo_4 : decode cX10_undo 4 = .ok (.aload_n 0, 1) := by decide +kernel
theorem dX10_undo_5 : decode cX10_undo 5 = .ok (.getfield 56, 3) := by decide +kernel
theorem dX10_undo_8 : decode cX10_undo 8 = .ok (.invokevirtual 233, 3) := by decide +kernel
theorem dX10_undo_11 : decode cX10_undo 11 = .ok (.ifCond .ne 5, 3) := by decide +kernel
theorem dX10_undo_14 : decode cX10_undo 14 = .ok (.iconst (-1), 1) := by decide +kernel
theorem dX10_undo_15 : decode cX10_undo 15 = .ok (.ireturn, 1) := by decide +kernel
theorem dX10_undo_16 : decode cX10_undo 16 = .ok (.aload_n 0, 1) := by decide +kernel
theorem dX10_undo_17 : decode cX10_undo 17 = .ok (.getfield 56, 3) := by decide +kernel
theorem dX10_undo_20 : decode cX10_undo 20 = .ok (.getfield 217, 3) := by decide +kernel
theorem dX10_undo_23 : decode cX10_undo 23 = .ok (.ireturn, 1) := by decide +kernel
theorem dX10_eaten_0 : decode cX10_eaten 0 = .ok (.aload_n 0, 1) := by decide +kernel
theorem dX10_eaten_1 : decode cX10_eaten 1 = .ok (.iload_n 1, 1) := by decide +kernel
theorem dX10_eaten_2 : decode cX10_eaten 2 = .ok (.invokevirtual 137, 3) := by decide +kernel
theorem dX10_eaten_5 : decode cX10_eaten 5 = .ok (.ifCond .eq 15, 3) := by decide +kernel
theorem dX10_eaten_8 : decode cX10_eaten 8 = .ok (.aload_n 0, 1) := by decide +kernel
theorem dX10_eaten_9 : decode cX10_eaten 9 = .ok (.getfield 56, 3) := by decide +kernel
theorem dX10_eaten_12 : decode cX10_eaten 12 = .ok (.getfield 223, 3) := by decide +kernel
theorem dX10_eaten_15 : decode cX10_eaten 15 = .ok (.iload_n 1, 1) := by decide +kernel
theorem dX10_eaten_16 : decode cX10_eaten 16 = .ok (.iaload, 1) := by decide +kernel
theorem dX10_eaten_17 : decode cX10_eaten 17 = .ok (.goto 5, 3) := by decide +kernel
theorem dX10_eaten_20 : decode cX10_eaten 20 = .ok (.ldc 194, 2) := by decide +kernel
theorem dX10_eaten_22 : decode cX10_eaten 22 = .ok (.ireturn, 1) := by decide +kernel
theorem dX10_puts_0 : decode cX10_puts 0 = .ok (.aload_n 0, 1) := by decide +kernel
theorem dX10_puts_1 : decode cX10_puts 1 = .ok (.invokevirtual 172, 3) := by decide +kernel
theorem dX10_puts_4 : decode cX10_puts 4 = .ok (.ifCond .eq 28, 3) := by decide +kernel
theorem dX10_puts_7 : decode cX10_puts 7 = .ok (.aload_n 0, 1) := by decide +kernel
theorem dX10_puts_8 : decode cX10_puts 8 = .ok (.getfield 49, 3) := by decide +kernel
theorem dX10_puts_11 : decode cX10_puts 11 = .ok (.getfield 118, 3) := by decide +kernel
theorem dX10_puts_14 : decode cX10_puts 14 = .ok (.iconst 5, 1) := by decide +kernel
theorem dX10_puts_15 : decode cX10_puts 15 = .ok (.if_icmp .gt 17, 3) := by decide +kernel
theorem dX10_puts_18 : decode cX10_puts 18 = .ok (.iload_n 1, 1) := by decide +kernel
theorem dX10_puts_19 : decode cX10_puts 19 = .ok (.invokestatic 237, 3) := by decide +kernel
theorem dX10_puts_22 : decode cX10_puts 22 = .ok (.ifCond .eq 10, 3) := by decide +kernel
theorem dX10_puts_25 : decode cX10_puts 25 = .ok (.iload_n 2, 1) := by decide +kernel
theorem dX10_puts_26 : decode cX10_puts 26 = .ok (.invokestatic 237, 3) := by decide +kernel
theorem dX10_puts_29 : decode cX10_puts 29 = .ok (.ifCond .ne 6, 3) := by decide +kernel
theorem dX10_puts_32 : decode cX10_puts 32 = .ok (.ldc 194, 2) := by decide +kernel
theorem dX10_puts_34 : decode cX10_puts 34 = .ok (.ireturn, 1) := by decide +kernel
theorem dX10_puts_35 : decode cX10_puts 35 = .ok (.aload_n 0, 1) := by decide +kernel
theorem dX10_puts_36 : decode cX10_puts 36 = .ok (.getfield 91, 3) := by decide +kernel
theorem dX10_puts_39 : decode cX10_puts 39 = .ok (.iload_n 1, 1) := by decide +kernel
theorem dX10_puts_40 : decode cX10_puts 40 = .ok (.invokevirtual 240, 3) := by decide +kernel
theorem dX10_puts_43 : decode cX10_puts 43 = .ok (.iload_n 2, 1) := by decide +kernel
theorem dX10_puts_44 : decode cX10_puts 44 = .ok (.ifCond .ne 13, 3) := by decide +kernel
theorem dX10_puts_47 : decode cX10_puts 47 = .ok (.aload_n 0, 1) := by decide +kernel
theorem dX10_puts_48 : decode cX10_puts 48 = .ok (.getfield 91, 3) := by decide +kernel
theorem dX10_puts_51 : decode cX10_puts 51 = .ok (.getfield 243, 3) := by decide +kernel
theorem dX10_puts_54 : decode cX10_puts 54 = .ok (.goto 10, 3) := by decide +kernel
theorem dX10_puts_57 : decode cX10_puts 57 = .ok (.aload_n 0, 1) := by decide +kernel
theorem dX10_puts_58 : decode cX10_puts 58 = .ok (.getfield 91, 3) := by decide +kernel
theorem dX10_puts_61 : decode cX10_puts 61 = .ok (.getfield 246, 3) := by decide +kernel
theorem dX10_puts_64 : decode cX10_puts 64 = .ok (.ireturn, 1) := by decide +kernel
theorem dX10_orders_0 : decode cX10_orders 0 = .ok (.aload_n 0, 1) := by decide +kernel
theorem dX10_orders_1 : decode cX10_orders 1 = .ok (.invokevirtual 172, 3) := by decide +kernel
theorem dX10_orders_4 : decode cX10_orders 4 = .ok (.ifCond .eq 17, 3) := by decide +kernel
theorem dX10_orders_7 : decode cX10_orders 7 = .ok (.iload_n 1, 1) := by decide +kernel
theorem dX10_orders_8 : decode cX10_orders 8 = .ok (.invokestatic 237, 3) := by decide +kernel
theorem dX10_orders_11 : decode cX10_orders 11 = .ok (.ifCond .eq 10, 3) := by decide +kernel
theorem dX10_orders_14 : decode cX10_orders 14 = .ok (.iload_n 2, 1) := by decide +kernel
theorem dX10_orders_15 : decode cX10_orders 15 = .ok (.invokestatic 237, 3) := by decide +kernel
theorem dX10_orders_18 : decode cX10_orders 18 = .ok (.ifCond .ne 6, 3) := by decide +kernel
theorem dX10_orders_21 : decode cX10_orders 21 = .ok (.ldc 194, 2) := by decide +kernel
theorem dX10_orders_23 : decode cX10_orders 23 = .ok (.ireturn, 1) := by decide +kernel
theorem dX10_orders_24 : decode cX10_orders 24 = .ok (.aload_n 0, 1) := by decide +kernel
theorem dX10_orders_25 : decode cX10_orders 25 = .ok (.getfield 91, 3) := by decide +kernel
theorem dX10_orders_28 : decode cX10_orders 28 = .ok (.iload_n 1, 1) := by decide +kernel
theorem dX10_orders_29 : decode cX10_orders 29 = .ok (.invokevirtual 249, 3) := by decide +kernel
theorem dX10_orders_32 : decode cX10_orders 32 = .ok (.iload_n 2, 1) := by decide +kernel
theorem dX10_orders_33 : decode cX10_orders 33 = .ok (.ifCond .ne 13, 3) := by decide +kernel
theorem dX10_orders_36 : decode cX10_orders 36 = .ok (.aload_n 0, 1) := by decide +kernel
theorem dX10_orders_37 : decode cX10_orders 37 = .ok (.getfield 91, 3) := by decide +kernel
theorem dX10_orders_40 : decode cX10_orders 40 = .ok (.getfield 243, 3) := by decide +kernel
theorem dX10_orders_43 : decode cX10_orders 43 = .ok (.goto 10, 3) := by decide +kernel
theorem dX10_orders_46 : decode cX10_orders 46 = .ok (.aload_n 0, 1) := by decide +kernel
theorem dX10_orders_47 : decode cX10_orders 47 = .ok (.getfield 91, 3) := by decide +kernel
theorem dX10_orders_50 : decode cX10_orders 50 = .ok (.getfield 246, 3) := by decide +kernel
theorem dX10_orders_53 : decode cX10_orders 53 = .ok (.ireturn, 1) := by decide +kernel
theorem dX10_bestFor_0 : decode cX10_bestFor 0 = .ok (.aload_n 0, 1) := by decide +kernel
theorem dX10_bestFor_1 : decode cX10_bestFor 1 = .ok (.iload_n 1, 1) := by decide +kernel
theorem dX10_bestFor_2 : decode cX10_bestFor 2 = .ok (.invokevirtual 137, 3) := by decide +kernel
theorem dX10_bestFor_5 : decode cX10_bestFor 5 = .ok (.ifCond .eq 23, 3) := by decide +kernel
theorem dX10_bestFor_8 : decode cX10_bestFor 8 = .ok (.aload_n 0, 1) := by decide +kernel
theorem dX10_bestFor_9 : decode cX10_bestFor 9 = .ok (.iload_n 2, 1) := by decide +kernel
theorem dX10_bestFor_10 : decode cX10_bestFor 10 = .ok (.invokevirtual 137, 3) := by decide +kernel
theorem dX10_bestFor_13 : decode cX10_bestFor 13 = .ok (.ifCond .eq 15, 3) := by decide +kernel
theorem dX10_bestFor_16 : decode cX10_bestFor 16 = .ok (.iload_n 1, 1) := by decide +kernel
theorem dX10_bestFor_17 : decode cX10_bestFor 17 = .ok (.iload_n 2, 1) := by decide +kernel
theorem dX10_bestFor_18 : decode cX10_bestFor 18 = .ok (.if_icmp .eq 10, 3) := by decide +kernel
theorem dX10_bestFor_21 : decode cX10_bestFor 21 = .ok (.iload_n 3, 1) := by decide +kernel
theorem dX10_bestFor_22 : decode cX10_bestFor 22 = .ok (.invokestatic 237, 3) := by decide +kernel
theorem dX10_bestFor_25 : decode cX10_bestFor 25 = .ok (.ifCond .ne 6, 3) := by decide +kernel
theorem dX10_bestFor_28 : decode cX10_bestFor 28 = .ok (.ldc 194, 2) := by decide +kernel
theorem dX10_bestFor_30 : decode cX10_bestFor 30 = .ok (.ireturn, 1) := by decide +kernel
theorem dX10_bestFor_31 : decode cX10_bestFor 31 = .ok (.aload_n 0, 1) := by decide +kernel
theorem dX10_bestFor_32 : decode cX10_bestFor 32 = .ok (.getfield 60, 3) := by decide +kernel
theorem dX10_bestFor_35 : decode cX10_bestFor 35 = .ok (.aload_n 0, 1) := by decide +kernel
theorem dX10_bestFor_36 : decode cX10_bestFor 36 = .ok (.getfield 56, 3) := by decide +kernel
theorem dX10_bestFor_39 : decode cX10_bestFor 39 = .ok (.invokevirtual 252, 3) := by decide +kernel
theorem dX10_bestFor_42 : decode cX10_bestFor 42 = .ok (.bipush 9, 2) := by decide +kernel
theorem dX10_bestFor_44 : decode cX10_bestFor 44 = .ok (.istore 4, 2) := by decide +kernel
theorem dX10_bestFor_46 : decode cX10_bestFor 46 = .ok (.ldc 194, 2) := by decide +kernel
theorem dX10_bestFor_48 : decode cX10_bestFor 48 = .ok (.istore 5, 2) := by decide +kernel
theorem dX10_bestFor_50 : decode cX10_bestFor 50 = .ok (.iconst 0, 1) := by decide +kernel
theorem dX10_bestFor_51 : decode cX10_bestFor 51 = .ok (.istore 6, 2) := by decide +kernel
theorem dX10_bestFor_53 : decode cX10_bestFor 53 = .ok (.iload 6, 2) := by decide +kernel
theorem dX10_bestFor_55 : decode cX10_bestFor 55 = .ok (.iconst 5, 1) := by decide +kernel
theorem dX10_bestFor_56 : decode cX10_bestFor 56 = .ok (.if_icmp .gt 63, 3) := by decide +kernel
theorem dX10_bestFor_59 : decode cX10_bestFor 59 = .ok (.iload 6, 2) := by decide +kernel
theorem dX10_bestFor_61 : decode cX10_bestFor 61 = .ok (.invokestatic 255, 3) := by decide +kernel
theorem dX10_bestFor_64 : decode cX10_bestFor 64 = .ok (.istore 7, 2) := by decide +kernel
theorem dX10_bestFor_66 : decode cX10_bestFor 66 = .ok (.aload_n 0, 1) := by decide +kernel
theorem dX10_bestFor_67 : decode cX10_bestFor 67 = .ok (.getfield 60, 3) := by decide +kernel
theorem dX10_bestFor_70 : decode cX10_bestFor 70 = .ok (.getfield 164, 3) := by decide +kernel
theorem dX10_bestFor_73 : decode cX10_bestFor 73 = .ok (.iload_n 1, 1) := by decide +kernel
theorem dX10_bestFor_74 : decode cX10_bestFor 74 = .ok (.iload 7, 2) := by decide +kernel
theorem dX10_bestFor_76 : decode cX10_bestFor 76 = .ok (.iastore, 1) := by decide +kernel
theorem dX10_bestFor_77 : decode cX10_bestFor 77 = .ok (.aload_n 0, 1) := by decide +kernel
theorem dX10_bestFor_78 : decode cX10_bestFor 78 = .ok (.getfield 82, 3) := by decide +kernel
theorem dX10_bestFor_81 : decode cX10_bestFor 81 = .ok (.aload_n 0, 1) := by decide +kernel
theorem dX10_bestFor_82 : decode cX10_bestFor 82 = .ok (.getfield 60, 3) := by decide +kernel
theorem dX10_bestFor_85 : decode cX10_bestFor 85 = .ok (.invokevirtual 195, 3) := by decide +kernel
theorem dX10_bestFor_88 : decode cX10_bestFor 88 = .ok (.aload_n 0, 1) := by decide +kernel
theorem dX10_bestFor_89 : decode cX10_bestFor 89 = .ok (.getfield 82, 3) := by decide +kernel
theorem dX10_bestFor_92 : decode cX10_bestFor 92 = .ok (.iload_n 2, 1) := by decide +kernel
theorem dX10_bestFor_93 : decode cX10_bestFor 93 = .ok (.invokevirtual 199, 3) := by decide +kernel
theorem dX10_bestFor_96 : decode cX10_bestFor 96 = .ok (.istore 8, 2) := by decide +kernel
theorem dX10_bestFor_98 : decode cX10_bestFor 98 = .ok (.iload 8, 2) := by decide +kernel
theorem dX10_bestFor_100 : decode cX10_bestFor 100 = .ok (.iload 5, 2) := by decide +kernel
theorem dX10_bestFor_102 : decode cX10_bestFor 102 = .ok (.if_icmp .le 11, 3) := by decide +kernel
theorem dX10_bestFor_105 : decode cX10_bestFor 105 = .ok (.iload 8, 2) := by decide +kernel
theorem dX10_bestFor_107 : decode cX10_bestFor 107 = .ok (.istore 5, 2) := by decide +kernel
theorem dX10_bestFor_109 : decode cX10_bestFor 109 = .ok (.iload 7, 2) := by decide +kernel
theorem dX10_bestFor_111 : decode cX10_bestFor 111 = .ok (.istore 4, 2) := by decide +kernel
theorem dX10_bestFor_113 : decode cX10_bestFor 113 = .ok (.iinc 6 1, 3) := by decide +kernel
theorem dX10_bestFor_116 : decode cX10_bestFor 116 = .ok (.goto (-63), 3) := by decide +kernel
theorem dX10_bestFor_119 : decode cX10_bestFor 119 = .ok (.iload_n 3, 1) := by decide +kernel
theorem dX10_bestFor_120 : decode cX10_bestFor 120 = .ok (.ifCond .ne 8, 3) := by decide +kernel
theorem dX10_bestFor_123 : decode cX10_bestFor 123 = .ok (.iload 4, 2) := by decide +kernel
theorem dX10_bestFor_125 : decode cX10_bestFor 125 = .ok (.goto 5, 3) := by decide +kernel
theorem dX10_bestFor_128 : decode cX10_bestFor 128 = .ok (.iload 5, 2) := by decide +kernel
theorem dX10_bestFor_130 : decode cX10_bestFor 130 = .ok (.ireturn, 1) := by decide +kernel
theorem dX10_putByNumber_0 : decode cX10_putByNumber 0 = .ok (.iload_n 0, 1) := by decide +kernel
theorem dX10_putByNumber_1 : decode cX10_putByNumber 1 = .ok (.iconst 5, 1) := by decide +kernel
theorem dX10_putByNumber_2 : decode cX10_putByNumber 2 = .ok (.if_icmp .ge 7, 3) := by decide +kernel
theorem dX10_putByNumber_5 : decode cX10_putByNumber 5 = .ok (.iload_n 0, 1) := by decide +kernel
theorem dX10_putByNumber_6 : decode cX10_putByNumber 6 = .ok (.goto 5, 3) := by decide +kernel
theorem dX10_putByNumber_9 : decode cX10_putByNumber 9 = .ok (.bipush 9, 2) := by decide +kernel
theorem dX10_putByNumber_11 : decode cX10_putByNumber 11 = .ok (.ireturn, 1) := by decide +kernel
theorem dX10_about_0 : decode cX10_about 0 = .ok (.aload_n 0, 1) := by decide +kernel
theorem dX10_about_1 : decode cX10_about 1 = .ok (.invokevirtual 172, 3) := by decide +kernel
theorem dX10_about_4 : decode cX10_about 4 = .ok (.ifCond .eq 26, 3) := by decide +kernel
theorem dX10_about_7 : decode cX10_about 7 = .ok (.iload_n 1, 1) := by decide +kernel
theorem dX10_about_8 : decode cX10_about 8 = .ok (.iconst (-1), 1) := by decide +kernel
theorem dX10_about_9 : decode cX10_about 9 = .ok (.if_icmp .eq 11, 3) := by decide +kernel
theorem dX10_about_12 : decode cX10_about 12 = .ok (.aload_n 0, 1) := by decide +kernel
theorem dX10_about_13 : decode cX10_about 13 = .ok (.iload_n 1, 1) := by decide +kernel
theorem dX10_about_14 : decode cX10_about 14 = .ok (.invokevirtual 137, 3) := by decide +kernel
theorem dX10_about_17 : decode cX10_about 17 = .ok (.ifCond .eq 13, 3) := by decide +kernel
theorem dX10_about_20 : decode cX10_about 20 = .ok (.iload_n 2, 1) := by decide +kernel
theorem dX10_about_21 : decode cX10_about 21 = .ok (.iconst 1, 1) := by decide +kernel
theorem dX10_about_22 : decode cX10_about 22 = .ok (.bipush 30, 2) := by decide +kernel
theorem dX10_about_24 : decode cX10_about 24 = .ok (.invokestatic 186, 3) := by decide +kernel
theorem dX10_about_27 : decode cX10_about 27 = .ok (.ifCond .ne 6, 3) := by decide +kernel
theorem dX10_about_30 : decode cX10_about 30 = .ok (.ldc 194, 2) := by decide +kernel
theorem dX10_about_32 : decode cX10_about 32 = .ok (.ireturn, 1) := by decide +kernel
theorem dX10_about_33 : decode cX10_about 33 = .ok (.aload_n 0, 1) := by decide +kernel
theorem dX10_about_34 : decode cX10_about 34 = .ok (.getfield 95, 3) := by decide +kernel
theorem dX10_about_37 : decode cX10_about 37 = .ok (.iconst 0, 1) := by decide +kernel
theorem dX10_about_38 : decode cX10_about 38 = .ok (.invokestatic 258, 3) := by decide +kernel
theorem dX10_about_41 : decode cX10_about 41 = .ok (.aload_n 0, 1) := by decide +kernel
theorem dX10_about_42 : decode cX10_about 42 = .ok (.getfield 60, 3) := by decide +kernel
theorem dX10_about_45 : decode cX10_about 45 = .ok (.aload_n 0, 1) := by decide +kernel
theorem dX10_about_46 : decode cX10_about 46 = .ok (.getfield 56, 3) := by decide +kernel
theorem dX10_about_49 : decode cX10_about 49 = .ok (.invokevirtual 252, 3) := by decide +kernel
theorem dX10_about_52 : decode cX10_about 52 = .ok (.iconst 0, 1) := by decide +kernel
theorem dX10_about_53 : decode cX10_about 53 = .ok (.istore_n 3, 1) := by decide +kernel
theorem dX10_about_54 : decode cX10_about 54 = .ok (.iload_n 3, 1) := by decide +kernel
theorem dX10_about_55 : decode cX10_about 55 = .ok (.iload_n 2, 1) := by decide +kernel
theorem dX10_about_56 : decode cX10_about 56 = .ok (.if_icmp .ge 87, 3) := by decide +kernel
theorem dX10_about_59 : decode cX10_about 59 = .ok (.aload_n 0, 1) := by decide +kernel
theorem dX10_about_60 : decode cX10_about 60 = .ok (.getfield 82, 3) := by decide +kernel
theorem dX10_about_63 : decode cX10_about 63 = .ok (.aload_n 0, 1) := by decide +kernel
theorem dX10_about_64 : decode cX10_about 64 = .ok (.getfield 60, 3) := by decide +kernel
theorem dX10_about_67 : decode cX10_about 67 = .ok (.invokevirtual 195, 3) := by decide +kernel
theorem dX10_about_70 : decode cX10_about 70 = .ok (.iconst 0, 1) := by decide +kernel
theorem dX10_about_71 : decode cX10_about 71 = .ok (.istore 4, 2) := by decide +kernel
theorem dX10_about_73 : decode cX10_about 73 = .ok (.iload 4, 2) := by decide +kernel
theorem dX10_about_75 : decode cX10_about 75 = .ok (.aload_n 0, 1) := by decide +kernel
theorem dX10_about_76 : decode cX10_about 76 = .ok (.getfield 49, 3) := by decide +kernel
theorem dX10_about_79 : decode cX10_about 79 = .ok (.getfield 118, 3) := by decide +kernel
theorem dX10_about_82 : decode cX10_about 82 = .ok (.if_icmp .ge 28, 3) := by decide +kernel
theorem dX10_about_85 : decode cX10_about 85 = .ok (.aload_n 0, 1) := by decide +kernel
theorem dX10_about_86 : decode cX10_about 86 = .ok (.getfield 95, 3) := by decide +kernel
theorem dX10_about_89 : decode cX10_about 89 = .ok (.iload 4, 2) := by decide +kernel
theorem dX10_about_91 : decode cX10_about 91 = .ok (.dup2, 1) := by decide +kernel
theorem dX10_about_92 : decode cX10_about 92 = .ok (.iaload, 1) := by decide +kernel
theorem dX10_about_93 : decode cX10_about 93 = .ok (.aload_n 0, 1) := by decide +kernel
theorem dX10_about_94 : decode cX10_about 94 = .ok (.getfield 82, 3) := by decide +kernel
theorem dX10_about_97 : decode cX10_about 97 = .ok (.iload 4, 2) := by decide +kernel
theorem dX10_about_99 : decode cX10_about 99 = .ok (.invokevirtual 199, 3) := by decide +kernel
theorem dX10_about_102 : decode cX10_about 102 = .ok (.iadd, 1) := by decide +kernel
theorem dX10_about_103 : decode cX10_about 103 = .ok (.iastore, 1) := by decide +kernel
theorem dX10_about_104 : decode cX10_about 104 = .ok (.iinc 4 1, 3) := by decide +kernel
theorem dX10_about_107 : decode cX10_about 107 = .ok (.goto (-34), 3) := by decide +kernel
theorem dX10_about_110 : decode cX10_about 110 = .ok (.aload_n 0, 1) := by decide +kernel
theorem dX10_about_111 : decode cX10_about 111 = .ok (.getfield 60, 3) := by decide +kernel
theorem dX10_about_114 : decode cX10_about 114 = .ok (.aload_n 0, 1) := by decide +kernel
theorem dX10_about_115 : decode cX10_about 115 = .ok (.getfield 49, 3) := by decide +kernel
theorem dX10_about_118 : decode cX10_about 118 = .ok (.getfield 118, 3) := by decide +kernel
theorem dX10_about_121 : decode cX10_about 121 = .ok (.invokevirtual 264, 3) := by decide +kernel
theorem dX10_about_124 : decode cX10_about 124 = .ok (.aload_n 0, 1) := by decide +kernel
theorem dX10_about_125 : decode cX10_about 125 = .ok (.getfield 60, 3) := by decide +kernel
theorem dX10_about_128 : decode cX10_about 128 = .ok (.dup, 1) := by decide +kernel
theorem dX10_about_129 : decode cX10_about 129 = .ok (.getfield 217, 3) := by decide +kernel
theorem dX10_about_132 : decode cX10_about 132 = .ok (.iconst 1, 1) := by decide +kernel
theorem dX10_about_133 : decode cX10_about 133 = .ok (.iadd, 1) := by decide +kernel
theorem dX10_about_134 : decode cX10_about 134 = .ok (.putfield 217, 3) := by decide +kernel
theorem dX10_about_137 : decode cX10_about 137 = .ok (.iinc 3 1, 3) := by decide +kernel
theorem dX10_about_140 : decode cX10_about 140 = .ok (.goto (-86), 3) := by decide +kernel
theorem dX10_about_143 : decode cX10_about 143 = .ok (.iload_n 1, 1) := by decide +kernel
theorem dX10_about_144 : decode cX10_about 144 = .ok (.iconst (-1), 1) := by decide +kernel
theorem dX10_about_145 : decode cX10_about 145 = .ok (.if_icmp .ne 10, 3) := by decide +kernel
theorem dX10_about_148 : decode cX10_about 148 = .ok (.aload_n 0, 1) := by decide +kernel
theorem dX10_about_149 : decode cX10_about 149 = .ok (.invokevirtual 267, 3) := by decide +kernel
theorem dX10_about_152 : decode cX10_about 152 = .ok (.goto 9, 3) := by decide +kernel
theorem dX10_about_155 : decode cX10_about 155 = .ok (.aload_n 0, 1) := by decide +kernel
theorem dX10_about_156 : decode cX10_about 156 = .ok (.getfield 95, 3) := by decide +kernel
theorem dX10_about_159 : decode cX10_about 159 = .ok (.iload_n 1, 1) := by decide +kernel
theorem dX10_about_160 : decode cX10_about 160 = .ok (.iaload, 1) := by decide +kernel
theorem dX10_about_161 : decode cX10_about 161 = .ok (.ireturn, 1) := by decide +kernel
theorem dX10_lowestOfTotals_0 : decode cX10_lowestOfTotals 0 = .ok (.iconst 0, 1) := by decide +kernel
theorem dX10_lowestOfTotals_1 : decode cX10_lowestOfTotals 1 = .ok (.istore_n 1, 1) := by decide +kernel
theorem dX10_lowestOfTotals_2 : decode cX10_lowestOfTotals 2 = .ok (.iconst 1, 1) := by decide +kernel
theorem dX10_lowestOfTotals_3 : decode cX10_lowestOfTotals 3 = .ok (.istore_n 2, 1) := by decide +kernel
theorem dX10_lowestOfTotals_4 : decode cX10_lowestOfTotals 4 = .ok (.iload_n 2, 1) := by decide +kernel
theorem dX10_lowestOfTotals_5 : decode cX10_lowestOfTotals 5 = .ok (.aload_n 0, 1) := by decide +kernel
theorem dX10_lowestOfTotals_6 : decode cX10_lowestOfTotals 6 = .ok (.getfield 49, 3) := by decide +kernel
theorem dX10_lowestOfTotals_9 : decode cX10_lowestOfTotals 9 = .ok (.getfield 118, 3) := by decide +kernel
theorem dX10_lowestOfTotals_12 : decode cX10_lowestOfTotals 12 = .ok (.if_icmp .ge 26, 3) := by decide +kernel
theorem dX10_lowestOfTotals_15 : decode cX10_lowestOfTotals 15 = .ok (.aload_n 0, 1) := by decide +kernel
theorem dX10_lowestOfTotals_16 : decode cX10_lowestOfTotals 16 = .ok (.getfield 95, 3) := by decide +kernel
theorem dX10_lowestOfTotals_19 : decode cX10_lowestOfTotals 19 = .ok (.iload_n 2, 1) := by decide +kernel
theorem dX10_lowestOfTotals_20 : decode cX10_lowestOfTotals 20 = .ok (.iaload, 1) := by decide +kernel
theorem dX10_lowestOfTotals_21 : decode cX10_lowestOfTotals 21 = .ok (.aload_n 0, 1) := by decide +kernel
theorem dX10_lowestOfTotals_22 : decode cX10_lowestOfTotals 22 = .ok (.getfield 95, 3) := by decide +kernel
theorem dX10_lowestOfTotals_25 : decode cX10_lowestOfTotals 25 = .ok (.iload_n 1, 1) := by decide +kernel
theorem dX10_lowestOfTotals_26 : decode cX10_lowestOfTotals 26 = .ok (.iaload, 1) := by decide +kernel
theorem dX10_lowestOfTotals_27 : decode cX10_lowestOfTotals 27 = .ok (.if_icmp .ge 5, 3) := by decide +kernel
theorem dX10_lowestOfTotals_30 : decode cX10_lowestOfTotals 30 = .ok (.iload_n 2, 1) := by decide +kernel
theorem dX10_lowestOfTotals_31 : decode cX10_lowestOfTotals 31 = .ok (.istore_n 1, 1) := by decide +kernel
theorem dX10_lowestOfTotals_32 : decode cX10_lowestOfTotals 32 = .ok (.iinc 2 1, 3) := by decide +kernel
theorem dX10_lowestOfTotals_35 : decode cX10_lowestOfTotals 35 = .ok (.goto (-31), 3) := by decide +kernel
theorem dX10_lowestOfTotals_38 : decode cX10_lowestOfTotals 38 = .ok (.iload_n 1, 1) := by decide +kernel
theorem dX10_lowestOfTotals_39 : decode cX10_lowestOfTotals 39 = .ok (.ireturn, 1) := by decide +kernel
theorem dX10_poison_0 : decode cX10_poison 0 = .ok (.aload_n 0, 1) := by decide +kernel
theorem dX10_poison_1 : decode cX10_poison 1 = .ok (.iload_n 1, 1) := by decide +kernel
theorem dX10_poison_2 : decode cX10_poison 2 = .ok (.invokevirtual 137, 3) := by decide +kernel
theorem dX10_poison_5 : decode cX10_poison 5 = .ok (.ifCond .eq 21, 3) := by decide +kernel
theorem dX10_poison_8 : decode cX10_poison 8 = .ok (.iload_n 2, 1) := by decide +kernel
theorem dX10_poison_9 : decode cX10_poison 9 = .ok (.iconst 1, 1) := by decide +kernel
theorem dX10_poison_10 : decode cX10_poison 10 = .ok (.bipush 99, 2) := by decide +kernel
theorem dX10_poison_12 : decode cX10_poison 12 = .ok (.invokestatic 186, 3) := by decide +kernel
theorem dX10_poison_15 : decode cX10_poison 15 = .ok (.ifCond .eq 11, 3) := by decide +kernel
theorem dX10_poison_18 : decode cX10_poison 18 = .ok (.aload_n 0, 1) := by decide +kernel
theorem dX10_poison_19 : decode cX10_poison 19 = .ok (.iload_n 3, 1) := by decide +kernel
theorem dX10_poison_20 : decode cX10_poison 20 = .ok (.invokevirtual 137, 3) := by decide +kernel
theorem dX10_poison_23 : decode cX10_poison 23 = .ok (.ifCond .ne 5, 3) := by decide +kernel
theorem dX10_poison_26 : decode cX10_poison 26 = .ok (.iconst (-1), 1) := by decide +kernel
theorem dX10_poison_27 : decode cX10_poison 27 = .ok (.ireturn, 1) := by decide +kernel
theorem dX10_poison_28 : decode cX10_poison 28 = .ok (.aload_n 0, 1) := by decide +kernel
theorem dX10_poison_29 : decode cX10_poison 29 = .ok (.getfield 82, 3) := by decide +kernel
theorem dX10_poison_32 : decode cX10_poison 32 = .ok (.aload_n 0, 1) := by decide +kernel
theorem dX10_poison_33 : decode cX10_poison 33 = .ok (.getfield 56, 3) := by decide +kernel
theorem dX10_poison_36 : decode cX10_poison 36 = .ok (.iload_n 1, 1) := by decide +kernel
theorem dX10_poison_37 : decode cX10_poison 37 = .ok (.iload_n 2, 1) := by decide +kernel
theorem dX10_poison_38 : decode cX10_poison 38 = .ok (.invokevirtual 270, 3) := by decide +kernel
theorem dX10_poison_41 : decode cX10_poison 41 = .ok (.aload_n 0, 1) := by decide +kernel
theorem dX10_poison_42 : decode cX10_poison 42 = .ok (.getfield 82, 3) := by decide +kernel
theorem dX10_poison_45 : decode cX10_poison 45 = .ok (.iload_n 3, 1) := by decide +kernel
theorem dX10_poison_46 : decode cX10_poison 46 = .ok (.iconst 5, 1) := by decide +kernel
theorem dX10_poison_47 : decode cX10_poison 47 = .ok (.invokevirtual 202, 3) := by decide +kernel
theorem dX10_poison_50 : decode cX10_poison 50 = .ok (.ireturn, 1) := by decide +kernel
theorem dX10_guilty_0 : decode cX10_guilty 0 = .ok (.aload_n 0, 1) := by decide +kernel
theorem dX10_guilty_1 : decode cX10_guilty 1 = .ok (.invokevirtual 172, 3) := by decide +kernel
theorem dX10_guilty_4 : decode cX10_guilty 4 = .ok (.ifCond .eq 40, 3) := by decide +kernel
theorem dX10_guilty_7 : decode cX10_guilty 7 = .ok (.iload_n 1, 1) := by decide +kernel
theorem dX10_guilty_8 : decode cX10_guilty 8 = .ok (.iconst 1, 1) := by decide +kernel
theorem dX10_guilty_9 : decode cX10_guilty 9 = .ok (.bipush 99, 2) := by decide +kernel
theorem dX10_guilty_11 : decode cX10_guilty 11 = .ok (.invokestatic 186, 3) := by decide +kernel
theorem dX10_guilty_14 : decode cX10_guilty 14 = .ok (.ifCond .eq 30, 3) := by decide +kernel
theorem dX10_guilty_17 : decode cX10_guilty 17 = .ok (.iload_n 2, 1) := by decide +kernel
theorem dX10_guilty_18 : decode cX10_guilty 18 = .ok (.iconst 1, 1) := by decide +kernel
theorem dX10_guilty_19 : decode cX10_guilty 19 = .ok (.bipush 99, 2) := by decide +kernel
theorem dX10_guilty_21 : decode cX10_guilty 21 = .ok (.invokestatic 186, 3) := by decide +kernel
theorem dX10_guilty_24 : decode cX10_guilty 24 = .ok (.ifCond .eq 20, 3) := by decide +kernel
theorem dX10_guilty_27 : decode cX10_guilty 27 = .ok (.iload_n 3, 1) := by decide +kernel
theorem dX10_guilty_28 : decode cX10_guilty 28 = .ok (.ifCond .lt 16, 3) := by decide +kernel
theorem dX10_guilty_31 : decode cX10_guilty 31 = .ok (.iload_n 3, 1) := by decide +kernel
theorem dX10_guilty_32 : decode cX10_guilty 32 = .ok (.iconst 1, 1) := by decide +kernel
theorem dX10_guilty_33 : decode cX10_guilty 33 = .ok (.aload_n 0, 1) := by decide +kernel
theorem dX10_guilty_34 : decode cX10_guilty 34 = .ok (.getfield 49, 3) := by decide +kernel
theorem dX10_guilty_37 : decode cX10_guilty 37 = .ok (.getfield 118, 3) := by decide +kernel
theorem dX10_guilty_40 : decode cX10_guilty 40 = .ok (.ishl, 1) := by decide +kernel
theorem dX10_guilty_41 : decode cX10_guilty 41 = .ok (.if_icmp .lt 5, 3) := by decide +kernel
theorem dX10_guilty_44 : decode cX10_guilty 44 = .ok (.iconst (-1), 1) := by decide +kernel
theorem dX10_guilty_45 : decode cX10_guilty 45 = .ok (.ireturn, 1) := by decide +kernel
theorem dX10_guilty_46 : decode cX10_guilty 46 = .ok (.iconst 0, 1) := by decide +kernel
theorem dX10_guilty_47 : decode cX10_guilty 47 = .ok (.istore 4, 2) := by decide +kernel
theorem dX10_guilty_49 : decode cX10_guilty 49 = .ok (.iconst 0, 1) := by decide +kernel
theorem dX10_guilty_50 : decode cX10_guilty 50 = .ok (.istore 5, 2) := by decide +kernel
theorem dX10_guilty_52 : decode cX10_guilty 52 = .ok (.iload 5, 2) := by decide +kernel
theorem dX10_guilty_54 : decode cX10_guilty 54 = .ok (.aload_n 0, 1) := by decide +kernel
theorem dX10_guilty_55 : decode cX10_guilty 55 = .ok (.getfield 49, 3) := by decide +kernel
theorem dX10_guilty_58 : decode cX10_guilty 58 = .ok (.getfield 118, 3) := by decide +kernel
theorem dX10_guilty_61 : decode cX10_guilty 61 = .ok (.if_icmp .ge 44, 3) := by decide +kernel
theorem dX10_guilty_64 : decode cX10_guilty 64 = .ok (.aload_n 0, 1) := by decide +kernel
theorem dX10_guilty_65 : decode cX10_guilty 65 = .ok (.getfield 82, 3) := by decide +kernel
theorem dX10_guilty_68 : decode cX10_guilty 68 = .ok (.aload_n 0, 1) := by decide +kernel
theorem dX10_guilty_69 : decode cX10_guilty 69 = .ok (.getfield 56, 3) := by decide +kernel
theorem dX10_guilty_72 : decode cX10_guilty 72 = .ok (.iload 5, 2) := by decide +kernel
theorem dX10_guilty_74 : decode cX10_guilty 74 = .ok (.iload_n 1, 1) := by decide +kernel
theorem dX10_guilty_75 : decode cX10_guilty 75 = .ok (.invokevirtual 270, 3) := by decide +kernel
theorem dX10_guilty_78 : decode cX10_guilty 78 = .ok (.aload_n 0, 1) := by decide +kernel
theorem dX10_guilty_79 : decode cX10_guilty 79 = .ok (.getfield 82, 3) := by decide +kernel
theorem dX10_guilty_82 : decode cX10_guilty 82 = .ok (.iload_n 2, 1) := by decide +kernel
theorem dX10_guilty_83 : decode cX10_guilty 83 = .ok (.invokevirtual 274, 3) := by decide +kernel
theorem dX10_guilty_86 : decode cX10_guilty 86 = .ok (.iload_n 3, 1) := by decide +kernel
theorem dX10_guilty_87 : decode cX10_guilty 87 = .ok (.if_icmp .ne 12, 3) := by decide +kernel
theorem dX10_guilty_90 : decode cX10_guilty 90 = .ok (.iload 4, 2) := by decide +kernel
theorem dX10_guilty_92 : decode cX10_guilty 92 = .ok (.iconst 1, 1) := by decide +kernel
theorem dX10_guilty_93 : decode cX10_guilty 93 = .ok (.iload 5, 2) := by decide +kernel
theorem dX10_guilty_95 : decode cX10_guilty 95 = .ok (.ishl, 1) := by decide +kernel
theorem dX10_guilty_96 : decode cX10_guilty 96 = .ok (.ior, 1) := by decide +kernel
theorem dX10_guilty_97 : decode cX10_guilty 97 = .ok (.istore 4, 2) := by decide +kernel
theorem dX10_guilty_99 : decode cX10_guilty 99 = .ok (.iinc 5 1, 3) := by decide +kernel
theorem dX10_guilty_102 : decode cX10_guilty 102 = .ok (.goto (-50), 3) := by decide +kernel
theorem dX10_guilty_105 : decode cX10_guilty 105 = .ok (.iload 4, 2) := by decide +kernel
theorem dX10_guilty_107 : decode cX10_guilty 107 = .ok (.ireturn, 1) := by decide +kernel
theorem dX10_harm_0 : decode cX10_harm 0 = .ok (.aload_n 0, 1) := by decide +kernel
theorem dX10_harm_1 : decode cX10_harm 1 = .ok (.iload_n 1, 1) := by decide +kernel
theorem dX10_harm_2 : decode cX10_harm 2 = .ok (.invokevirtual 137, 3) := by decide +kernel
theorem dX10_harm_5 : decode cX10_harm 5 = .ok (.ifCond .eq 20, 3) := by decide +kernel
theorem dX10_harm_8 : decode cX10_harm 8 = .ok (.iload_n 2, 1) := by decide +kernel
theorem dX10_harm_9 : decode cX10_harm 9 = .ok (.iconst 1, 1) := by decide +kernel
theorem dX10_harm_10 : decode cX10_harm 10 = .ok (.bipush 99, 2) := by decide +kernel
theorem dX10_harm_12 : decode cX10_harm 12 = .ok (.invokestatic 186, 3) := by decide +kernel
theorem dX10_harm_15 : decode cX10_harm 15 = .ok (.ifCond .eq 10, 3) := by decide +kernel
theorem dX10_harm_18 : decode cX10_harm 18 = .ok (.iload_n 3, 1) := by decide +kernel
theorem dX10_harm_19 : decode cX10_harm 19 = .ok (.invokestatic 237, 3) := by decide +kernel
theorem dX10_harm_22 : decode cX10_harm 22 = .ok (.ifCond .ne 5, 3) := by decide +kernel
theorem dX10_harm_25 : decode cX10_harm 25 = .ok (.iconst (-1), 1) := by decide +kernel
theorem dX10_harm_26 : decode cX10_harm 26 = .ok (.ireturn, 1) := by decide +kernel
theorem dX10_harm_27 : decode cX10_harm 27 = .ok (.iconst (-1), 1) := by decide +kernel
theorem dX10_harm_28 : decode cX10_harm 28 = .ok (.istore 4, 2) := by decide +kernel
theorem dX10_harm_30 : decode cX10_harm 30 = .ok (.iconst (-1), 1) := by decide +kernel
theorem dX10_harm_31 : decode cX10_harm 31 = .ok (.istore 5, 2) := by decide +kernel
theorem dX10_harm_33 : decode cX10_harm 33 = .ok (.iload_n 2, 1) := by decide +kernel
theorem dX10_harm_34 : decode cX10_harm 34 = .ok (.istore 6, 2) := by decide +kernel
theorem dX10_harm_36 : decode cX10_harm 36 = .ok (.iload 6, 2) := by decide +kernel
theorem dX10_harm_38 : decode cX10_harm 38 = .ok (.bipush 99, 2) := by decide +kernel
theorem dX10_harm_40 : decode cX10_harm 40 = .ok (.if_icmp .gt 101, 3) := by decide +kernel
theorem dX10_harm_43 : decode cX10_harm 43 = .ok (.iconst 0, 1) := by decide +kernel
theorem dX10_harm_44 : decode cX10_harm 44 = .ok (.istore 7, 2) := by decide +kernel
theorem dX10_harm_46 : decode cX10_harm 46 = .ok (.iload 7, 2) := by decide +kernel
theorem dX10_harm_48 : decode cX10_harm 48 = .ok (.aload_n 0, 1) := by decide +kernel
theorem dX10_harm_49 : decode cX10_harm 49 = .ok (.getfield 49, 3) := by decide +kernel
theorem dX10_harm_52 : decode cX10_harm 52 = .ok (.getfield 118, 3) := by decide +kernel
theorem dX10_harm_55 : decode cX10_harm 55 = .ok (.if_icmp .ge 80, 3) := by decide +kernel
theorem dX10_harm_58 : decode cX10_harm 58 = .ok (.aload_n 0, 1) := by decide +kernel
theorem dX10_harm_59 : decode cX10_harm 59 = .ok (.getfield 82, 3) := by decide +kernel
theorem dX10_harm_62 : decode cX10_harm 62 = .ok (.aload_n 0, 1) := by decide +kernel
theorem dX10_harm_63 : decode cX10_harm 63 = .ok (.getfield 56, 3) := by decide +kernel
theorem dX10_harm_66 : decode cX10_harm 66 = .ok (.iload 7, 2) := by decide +kernel
theorem dX10_harm_68 : decode cX10_harm 68 = .ok (.iload 6, 2) := by decide +kernel
theorem dX10_harm_70 : decode cX10_harm 70 = .ok (.invokevirtual 270, 3) := by decide +kernel
theorem dX10_harm_73 : decode cX10_harm 73 = .ok (.aload_n 0, 1) := by decide +kernel
theorem dX10_harm_74 : decode cX10_harm 74 = .ok (.getfield 82, 3) := by decide +kernel
theorem dX10_harm_77 : decode cX10_harm 77 = .ok (.iload_n 1, 1) := by decide +kernel
theorem dX10_harm_78 : decode cX10_harm 78 = .ok (.iconst 5, 1) := by decide +kernel
theorem dX10_harm_79 : decode cX10_harm 79 = .ok (.invokevirtual 202, 3) := by decide +kernel
theorem dX10_harm_82 : decode cX10_harm 82 = .ok (.istore 8, 2) := by decide +kernel
theorem dX10_harm_84 : decode cX10_harm 84 = .ok (.aload_n 0, 1) := by decide +kernel
theorem dX10_harm_85 : decode cX10_harm 85 = .ok (.getfield 82, 3) := by decide +kernel
theorem dX10_harm_88 : decode cX10_harm 88 = .ok (.invokevirtual 277, 3) := by decide +kernel
theorem dX10_harm_91 : decode cX10_harm 91 = .ok (.iload 8, 2) := by decide +kernel
theorem dX10_harm_93 : decode cX10_harm 93 = .ok (.isub, 1) := by decide +kernel
theorem dX10_harm_94 : decode cX10_harm 94 = .ok (.istore 9, 2) := by decide +kernel
theorem dX10_harm_96 : decode cX10_harm 96 = .ok (.iload 8, 2) := by decide +kernel
theorem dX10_harm_98 : decode cX10_harm 98 = .ok (.iload_n 2, 1) := by decide +kernel
theorem dX10_harm_99 : decode cX10_harm 99 = .ok (.if_icmp .lt 30, 3) := by decide +kernel
theorem dX10_harm_102 : decode cX10_harm 102 = .ok (.iload 4, 2) := by decide +kernel
theorem dX10_harm_104 : decode cX10_harm 104 = .ok (.iconst (-1), 1) := by decide +kernel
theorem dX10_harm_105 : decode cX10_harm 105 = .ok (.if_icmp .eq 10, 3) := by decide +kernel
theorem dX10_harm_108 : decode cX10_harm 108 = .ok (.iload 9, 2) := by decide +kernel
theorem dX10_harm_110 : decode cX10_harm 110 = .ok (.iload 5, 2) := by decide +kernel
theorem dX10_harm_112 : decode cX10_harm 112 = .ok (.if_icmp .ge 17, 3) := by decide +kernel
theorem dX10_harm_115 : decode cX10_harm 115 = .ok (.bipush 100, 2) := by decide +kernel
theorem dX10_harm_117 : decode cX10_harm 117 = .ok (.iload 7, 2) := by decide +kernel
theorem dX10_harm_119 : decode cX10_harm 119 = .ok (.imul, 1) := by decide +kernel
theorem dX10_harm_120 : decode cX10_harm 120 = .ok (.iload 6, 2) := by decide +kernel
theorem dX10_harm_122 : decode cX10_harm 122 = .ok (.iadd, 1) := by decide +kernel
theorem dX10_harm_123 : decode cX10_harm 123 = .ok (.istore 4, 2) := by decide +kernel
theorem dX10_harm_125 : decode cX10_harm 125 = .ok (.iload 9, 2) := by decide +kernel
theorem dX10_harm_127 : decode cX10_harm 127 = .ok (.istore 5, 2) := by decide +kernel
theorem dX10_harm_129 : decode cX10_harm 129 = .ok (.iinc 7 1, 3) := by decide +kernel
theorem dX10_harm_132 : decode cX10_harm 132 = .ok (.goto (-86), 3) := by decide +kernel
theorem dX10_harm_135 : decode cX10_harm 135 = .ok (.iinc 6 1, 3) := by decide +kernel
theorem dX10_harm_138 : decode cX10_harm 138 = .ok (.goto (-102), 3) := by decide +kernel
theorem dX10_harm_141 : decode cX10_harm 141 = .ok (.iload_n 3, 1) := by decide +kernel
theorem dX10_harm_142 : decode cX10_harm 142 = .ok (.ifCond .ne 8, 3) := by decide +kernel
theorem dX10_harm_145 : decode cX10_harm 145 = .ok (.iload 4, 2) := by decide +kernel
theorem dX10_harm_147 : decode cX10_harm 147 = .ok (.goto 5, 3) := by decide +kernel
theorem dX10_harm_150 : decode cX10_harm 150 = .ok (.iload 5, 2) := by decide +kernel
theorem dX10_harm_152 : decode cX10_harm 152 = .ok (.ireturn, 1) := by decide +kernel
theorem dX10_stranger_0 : decode cX10_stranger 0 = .ok (.aload_n 0, 1) := by decide +kernel
theorem dX10_stranger_1 : decode cX10_stranger 1 = .ok (.iload_n 1, 1) := by decide +kernel
theorem dX10_stranger_2 : decode cX10_stranger 2 = .ok (.invokevirtual 137, 3) := by decide +kernel
theorem dX10_stranger_5 : decode cX10_stranger 5 = .ok (.ifCond .eq 20, 3) := by decide +kernel
theorem dX10_stranger_8 : decode cX10_stranger 8 = .ok (.iload_n 2, 1) := by decide +kernel
theorem dX10_stranger_9 : decode cX10_stranger 9 = .ok (.iconst 0, 1) := by decide +kernel
theorem dX10_stranger_10 : decode cX10_stranger 10 = .ok (.bipush 99, 2) := by decide +kernel
theorem dX10_stranger_12 : decode cX10_stranger 12 = .ok (.invokestatic 186, 3) := by decide +kernel
theorem dX10_stranger_15 : decode cX10_stranger 15 = .ok (.ifCond .eq 10, 3) := by decide +kernel
theorem dX10_stranger_18 : decode cX10_stranger 18 = .ok (.iload_n 3, 1) := by decide +kernel
theorem dX10_stranger_19 : decode cX10_stranger 19 = .ok (.invokestatic 237, 3) := by decide +kernel
theorem dX10_stranger_22 : decode cX10_stranger 22 = .ok (.ifCond .ne 6, 3) := by decide +kernel
theorem dX10_stranger_25 : decode cX10_stranger 25 = .ok (.ldc 194, 2) := by decide +kernel
theorem dX10_stranger_27 : decode cX10_stranger 27 = .ok (.ireturn, 1) := by decide +kernel
theorem dX10_stranger_28 : decode cX10_stranger 28 = .ok (.aload_n 0, 1) := by decide +kernel
theorem dX10_stranger_29 : decode cX10_stranger 29 = .ok (.getfield 82, 3) := by decide +kernel
theorem dX10_stranger_32 : decode cX10_stranger 32 = .ok (.aload_n 0, 1) := by decide +kernel
theorem dX10_stranger_33 : decode cX10_stranger 33 = .ok (.getfield 56, 3) := by decide +kernel
theorem dX10_stranger_36 : decode cX10_stranger 36 = .ok (.invokevirtual 195, 3) := by decide +kernel
theorem dX10_stranger_39 : decode cX10_stranger 39 = .ok (.aload_n 0, 1) := by decide +kernel
theorem dX10_stranger_40 : decode cX10_stranger 40 = .ok (.getfield 82, 3) := by decide +kernel
theorem dX10_stranger_43 : decode cX10_stranger 43 = .ok (.invokevirtual 280, 3) := by decide +kernel
theorem dX10_stranger_46 : decode cX10_stranger 46 = .ok (.istore 4, 2) := by decide +kernel
theorem dX10_stranger_48 : decode cX10_stranger 48 = .ok (.aload_n 0, 1) := by decide +kernel
theorem dX10_stranger_49 : decode cX10_stranger 49 = .ok (.getfield 82, 3) := by decide +kernel
theorem dX10_stranger_52 : decode cX10_stranger 52 = .ok (.aload_n 0, 1) := by decide +kernel
theorem dX10_stranger_53 : decode cX10_stranger 53 = .ok (.getfield 56, 3) := by decide +kernel
theorem dX10_stranger_56 : decode cX10_stranger 56 = .ok (.iload_n 1, 1) := by decide +kernel
theorem dX10_stranger_57 : decode cX10_stranger 57 = .ok (.iload_n 2, 1) := by decide +kernel
theorem dX10_stranger_58 : decode cX10_stranger 58 = .ok (.invokevirtual 283, 3) := by decide +kernel
theorem dX10_stranger_61 : decode cX10_stranger 61 = .ok (.iload_n 3, 1) := by decide +kernel
theorem dX10_stranger_62 : decode cX10_stranger 62 = .ok (.ifCond .ne 13, 3) := by decide +kernel
theorem dX10_stranger_65 : decode cX10_stranger 65 = .ok (.aload_n 0, 1) := by decide +kernel
theorem dX10_stranger_66 : decode cX10_stranger 66 = .ok (.getfield 82, 3) := by decide +kernel
theorem dX10_stranger_69 : decode cX10_stranger 69 = .ok (.invokevirtual 286, 3) := by decide +kernel
theorem dX10_stranger_72 : decode cX10_stranger 72 = .ok (.goto 13, 3) := by decide +kernel
theorem dX10_stranger_75 : decode cX10_stranger 75 = .ok (.iload 4, 2) := by decide +kernel
theorem dX10_stranger_77 : decode cX10_stranger 77 = .ok (.aload_n 0, 1) := by decide +kernel
theorem dX10_stranger_78 : decode cX10_stranger 78 = .ok (.getfield 82, 3) := by decide +kernel
theorem dX10_stranger_81 : decode cX10_stranger 81 = .ok (.invokevirtual 280, 3) := by decide +kernel
theorem dX10_stranger_84 : decode cX10_stranger 84 = .ok (.isub, 1) := by decide +kernel
theorem dX10_stranger_85 : decode cX10_stranger 85 = .ok (.ireturn, 1) := by decide +kernel
theorem dX10_exchange_0 : decode cX10_exchange 0 = .ok (.aload_n 0, 1) := by decide +kernel
theorem dX10_exchange_1 : decode cX10_exchange 1 = .ok (.invokevirtual 172, 3) := by decide +kernel
theorem dX10_exchange_4 : decode cX10_exchange 4 = .ok (.ifCond .eq 10, 3) := by decide +kernel
theorem dX10_exchange_7 : decode cX10_exchange 7 = .ok (.iload_n 1, 1) := by decide +kernel
theorem dX10_exchange_8 : decode cX10_exchange 8 = .ok (.invokestatic 237, 3) := by decide +kernel
theorem dX10_exchange_11 : decode cX10_exchange 11 = .ok (.ifCond .ne 6, 3) := by decide +kernel
theorem dX10_exchange_14 : decode cX10_exchange 14 = .ok (.ldc 194, 2) := by decide +kernel
theorem dX10_exchange_16 : decode cX10_exchange 16 = .ok (.ireturn, 1) := by decide +kernel
theorem dX10_exchange_17 : decode cX10_exchange 17 = .ok (.aload_n 0, 1) := by decide +kernel
theorem dX10_exchange_18 : decode cX10_exchange 18 = .ok (.getfield 82, 3) := by decide +kernel
theorem dX10_exchange_21 : decode cX10_exchange 21 = .ok (.aload_n 0, 1) := by decide +kernel
theorem dX10_exchange_22 : decode cX10_exchange 22 = .ok (.getfield 56, 3) := by decide +kernel
theorem dX10_exchange_25 : decode cX10_exchange 25 = .ok (.invokevirtual 195, 3) := by decide +kernel
theorem dX10_exchange_28 : decode cX10_exchange 28 = .ok (.iconst (-1), 1) := by decide +kernel
theorem dX10_exchange_29 : decode cX10_exchange 29 = .ok (.istore_n 2, 1) := by decide +kernel
theorem dX10_exchange_30 : decode cX10_exchange 30 = .ok (.aload_n 0, 1) := by decide +kernel
theorem dX10_exchange_31 : decode cX10_exchange 31 = .ok (.getfield 82, 3) := by decide +kernel
theorem dX10_exchange_34 : decode cX10_exchange 34 = .ok (.invokevirtual 289, 3) := by decide +kernel
theorem dX10_exchange_37 : decode cX10_exchange 37 = .ok (.istore_n 3, 1) := by decide +kernel
theorem dX10_exchange_38 : decode cX10_exchange 38 = .ok (.iconst 0, 1) := by decide +kernel
theorem dX10_exchange_39 : decode cX10_exchange 39 = .ok (.istore 4, 2) := by decide +kernel
theorem dX10_exchange_41 : decode cX10_exchange 41 = .ok (.iload 4, 2) := by decide +kernel
theorem dX10_exchange_43 : decode cX10_exchange 43 = .ok (.aload_n 0, 1) := by decide +kernel
theorem dX10_exchange_44 : decode cX10_exchange 44 = .ok (.getfield 49, 3) := by decide +kernel
theorem dX10_exchange_47 : decode cX10_exchange 47 = .ok (.getfield 118, 3) := by decide +kernel
theorem dX10_exchange_50 : decode cX10_exchange 50 = .ok (.if_icmp .ge 61, 3) := by decide +kernel
theorem dX10_exchange_53 : decode cX10_exchange 53 = .ok (.iload 4, 2) := by decide +kernel
theorem dX10_exchange_55 : decode cX10_exchange 55 = .ok (.iconst 1, 1) := by decide +kernel
theorem dX10_exchange_56 : decode cX10_exchange 56 = .ok (.iadd, 1) := by decide +kernel
theorem dX10_exchange_57 : decode cX10_exchange 57 = .ok (.istore 5, 2) := by decide +kernel
theorem dX10_exchange_59 : decode cX10_exchange 59 = .ok (.iload 5, 2) := by decide +kernel
theorem dX10_exchange_61 : decode cX10_exchange 61 = .ok (.aload_n 0, 1) := by decide +kernel
theorem dX10_exchange_62 : decode cX10_exchange 62 = .ok (.getfield 49, 3) := by decide +kernel
theorem dX10_exchange_65 : decode cX10_exchange 65 = .ok (.getfield 118, 3) := by decide +kernel
theorem dX10_exchange_68 : decode cX10_exchange 68 = .ok (.if_icmp .ge 37, 3) := by decide +kernel
theorem dX10_exchange_71 : decode cX10_exchange 71 = .ok (.aload_n 0, 1) := by decide +kernel
theorem dX10_exchange_72 : decode cX10_exchange 72 = .ok (.iload 4, 2) := by decide +kernel
theorem dX10_exchange_74 : decode cX10_exchange 74 = .ok (.iload 5, 2) := by decide +kernel
theorem dX10_exchange_76 : decode cX10_exchange 76 = .ok (.invokevirtual 292, 3) := by decide +kernel
theorem dX10_exchange_79 : decode cX10_exchange 79 = .ok (.istore 6, 2) := by decide +kernel
theorem dX10_exchange_81 : decode cX10_exchange 81 = .ok (.iload 6, 2) := by decide +kernel
theorem dX10_exchange_83 : decode cX10_exchange 83 = .ok (.iload_n 3, 1) := by decide +kernel
theorem dX10_exchange_84 : decode cX10_exchange 84 = .ok (.if_icmp .le 15, 3) := by decide +kernel
theorem dX10_exchange_87 : decode cX10_exchange 87 = .ok (.iload 6, 2) := by decide +kernel
theorem dX10_exchange_89 : decode cX10_exchange 89 = .ok (.istore_n 3, 1) := by decide +kernel
theorem dX10_exchange_90 : decode cX10_exchange 90 = .ok (.bipush 10, 2) := by decide +kernel
theorem dX10_exchange_92 : decode cX10_exchange 92 = .ok (.iload 4, 2) := by decide +kernel
theorem dX10_exchange_94 : decode cX10_exchange 94 = .ok (.imul, 1) := by decide +kernel
theorem dX10_exchange_95 : decode cX10_exchange 95 = .ok (.iload 5, 2) := by decide +kernel
theorem dX10_exchange_97 : decode cX10_exchange 97 = .ok (.iadd, 1) := by decide +kernel
theorem dX10_exchange_98 : decode cX10_exchange 98 = .ok (.istore_n 2, 1) := by decide +kernel
theorem dX10_exchange_99 : decode cX10_exchange 99 = .ok (.iinc 5 1, 3) := by decide +kernel
theorem dX10_exchange_102 : decode cX10_exchange 102 = .ok (.goto (-43), 3) := by decide +kernel
theorem dX10_exchange_105 : decode cX10_exchange 105 = .ok (.iinc 4 1, 3) := by decide +kernel
theorem dX10_exchange_108 : decode cX10_exchange 108 = .ok (.goto (-67), 3) := by decide +kernel
theorem dX10_exchange_111 : decode cX10_exchange 111 = .ok (.iload_n 1, 1) := by decide +kernel
theorem dX10_exchange_112 : decode cX10_exchange 112 = .ok (.ifCond .ne 7, 3) := by decide +kernel
theorem dX10_exchange_115 : decode cX10_exchange 115 = .ok (.iload_n 2, 1) := by decide +kernel
theorem dX10_exchange_116 : decode cX10_exchange 116 = .ok (.goto 4, 3) := by decide +kernel
theorem dX10_exchange_119 : decode cX10_exchange 119 = .ok (.iload_n 3, 1) := by decide +kernel
theorem dX10_exchange_120 : decode cX10_exchange 120 = .ok (.ireturn, 1) := by decide +kernel
theorem dX10_leastMealExchanged_0 : decode cX10_leastMealExchanged 0 = .ok (.aload_n 0, 1) := by decide +kernel
theorem dX10_leastMealExchanged_1 : decode cX10_leastMealExchanged 1 = .ok (.getfield 49, 3) := by decide +kernel
theorem dX10_leastMealExchanged_4 : decode cX10_leastMealExchanged 4 = .ok (.iload_n 1, 1) := by decide +kernel
theorem dX10_leastMealExchanged_5 : decode cX10_leastMealExchanged 5 = .ok (.iload_n 2, 1) := by decide +kernel
theorem dX10_leastMealExchanged_6 : decode cX10_leastMealExchanged 6 = .ok (.invokevirtual 295, 3) := by decide +kernel
theorem dX10_leastMealExchanged_9 : decode cX10_leastMealExchanged 9 = .ok (.aload_n 0, 1) := by decide +kernel
theorem dX10_leastMealExchanged_10 : decode cX10_leastMealExchanged 10 = .ok (.getfield 82, 3) := by decide +kernel
theorem dX10_leastMealExchanged_13 : decode cX10_leastMealExchanged 13 = .ok (.aload_n 0, 1) := by decide +kernel
theorem dX10_leastMealExchanged_14 : decode cX10_leastMealExchanged 14 = .ok (.getfield 56, 3) := by decide +kernel
theorem dX10_leastMealExchanged_17 : decode cX10_leastMealExchanged 17 = .ok (.invokevirtual 195, 3) := by decide +kernel
theorem dX10_leastMealExchanged_20 : decode cX10_leastMealExchanged 20 = .ok (.aload_n 0, 1) := by decide +kernel
theorem dX10_leastMealExchanged_21 : decode cX10_leastMealExchanged 21 = .ok (.getfield 82, 3) := by decide +kernel
theorem dX10_leastMealExchanged_24 : decode cX10_leastMealExchanged 24 = .ok (.invokevirtual 289, 3) := by decide +kernel
theorem dX10_leastMealExchanged_27 : decode cX10_leastMealExchanged 27 = .ok (.istore_n 3, 1) := by decide +kernel
theorem dX10_leastMealExchanged_28 : decode cX10_leastMealExchanged 28 = .ok (.aload_n 0, 1) := by decide +kernel
theorem dX10_leastMealExchanged_29 : decode cX10_leastMealExchanged 29 = .ok (.getfield 49, 3) := by decide +kernel
theorem dX10_leastMealExchanged_32 : decode cX10_leastMealExchanged 32 = .ok (.iload_n 1, 1) := by decide +kernel
theorem dX10_leastMealExchanged_33 : decode cX10_leastMealExchanged 33 = .ok (.iload_n 2, 1) := by decide +kernel
theorem dX10_leastMealExchanged_34 : decode cX10_leastMealExchanged 34 = .ok (.invokevirtual 295, 3) := by decide +kernel
theorem dX10_leastMealExchanged_37 : decode cX10_leastMealExchanged 37 = .ok (.iload_n 3, 1) := by decide +kernel
theorem dX10_leastMealExchanged_38 : decode cX10_leastMealExchanged 38 = .ok (.ireturn, 1) := by decide +kernel
theorem dX10_lasts_0 : decode cX10_lasts 0 = .ok (.aload_n 0, 1) := by decide +kernel
theorem dX10_lasts_1 : decode cX10_lasts 1 = .ok (.iload_n 1, 1) := by decide +kernel
theorem dX10_lasts_2 : decode cX10_lasts 2 = .ok (.invokevirtual 137, 3) := by decide +kernel
theorem dX10_lasts_5 : decode cX10_lasts 5 = .ok (.ifCond .eq 29, 3) := by decide +kernel
theorem dX10_lasts_8 : decode cX10_lasts 8 = .ok (.aload_n 0, 1) := by decide +kernel
theorem dX10_lasts_9 : decode cX10_lasts 9 = .ok (.getfield 56, 3) := by decide +kernel
theorem dX10_lasts_12 : decode cX10_lasts 12 = .ok (.getfield 164, 3) := by decide +kernel
theorem dX10_lasts_15 : decode cX10_lasts 15 = .ok (.iload_n 1, 1) := by decide +kernel
theorem dX10_lasts_16 : decode cX10_lasts 16 = .ok (.iaload, 1) := by decide +kernel
theorem dX10_lasts_17 : decode cX10_lasts 17 = .ok (.invokestatic 148, 3) := by decide +kernel
theorem dX10_lasts_20 : decode cX10_lasts 20 = .ok (.ifCond .eq 14, 3) := by decide +kernel
theorem dX10_lasts_23 : decode cX10_lasts 23 = .ok (.aload_n 0, 1) := by decide +kernel
theorem dX10_lasts_24 : decode cX10_lasts 24 = .ok (.getfield 49, 3) := by decide +kernel
theorem dX10_lasts_27 : decode cX10_lasts 27 = .ok (.getfield 226, 3) := by decide +kernel
theorem dX10_lasts_30 : decode cX10_lasts 30 = .ok (.iconst 1, 1) := by decide +kernel
theorem dX10_lasts_31 : decode cX10_lasts 31 = .ok (.if_icmp .ge 5, 3) := by decide +kernel
theorem dX10_lasts_34 : decode cX10_lasts 34 = .ok (.iconst (-1), 1) := by decide +kernel
theorem dX10_lasts_35 : decode cX10_lasts 35 = .ok (.ireturn, 1) := by decide +kernel
theorem dX10_lasts_36 : decode cX10_lasts 36 = .ok (.aload_n 0, 1) := by decide +kernel
theorem dX10_lasts_37 : decode cX10_lasts 37 = .ok (.getfield 56, 3) := by decide +kernel
theorem dX10_lasts_40 : decode cX10_lasts 40 = .ok (.iload_n 1, 1) := by decide +kernel
theorem dX10_lasts_41 : decode cX10_lasts 41 = .ok (.aload_n 0, 1) := by decide +kernel
theorem dX10_lasts_42 : decode cX10_lasts 42 = .ok (.getfield 56, 3) := by decide +kernel
theorem dX10_lasts_45 : decode cX10_lasts 45 = .ok (.getfield 164, 3) := by decide +kernel
theorem dX10_lasts_48 : decode cX10_lasts 48 = .ok (.iload_n 1, 1) := by decide +kernel
theorem dX10_lasts_49 : decode cX10_lasts 49 = .ok (.iaload, 1) := by decide +kernel
theorem dX10_lasts_50 : decode cX10_lasts 50 = .ok (.invokevirtual 151, 3) := by decide +kernel
theorem dX10_lasts_53 : decode cX10_lasts 53 = .ok (.aload_n 0, 1) := by decide +kernel
theorem dX10_lasts_54 : decode cX10_lasts 54 = .ok (.getfield 49, 3) := by decide +kernel
theorem dX10_lasts_57 : decode cX10_lasts 57 = .ok (.getfield 226, 3) := by decide +kernel
theorem dX10_lasts_60 : decode cX10_lasts 60 = .ok (.idiv, 1) := by decide +kernel
theorem dX10_lasts_61 : decode cX10_lasts 61 = .ok (.istore_n 2, 1) := by decide +kernel
theorem dX10_lasts_62 : decode cX10_lasts 62 = .ok (.aload_n 0, 1) := by decide +kernel
theorem dX10_lasts_63 : decode cX10_lasts 63 = .ok (.getfield 56, 3) := by decide +kernel
theorem dX10_lasts_66 : decode cX10_lasts 66 = .ok (.iload_n 1, 1) := by decide +kernel
theorem dX10_lasts_67 : decode cX10_lasts 67 = .ok (.invokevirtual 167, 3) := by decide +kernel
theorem dX10_lasts_70 : decode cX10_lasts 70 = .ok (.aload_n 0, 1) := by decide +kernel
theorem dX10_lasts_71 : decode cX10_lasts 71 = .ok (.getfield 49, 3) := by decide +kernel
theorem dX10_lasts_74 : decode cX10_lasts 74 = .ok (.getfield 118, 3) := by decide +kernel
theorem dX10_lasts_77 : decode cX10_lasts 77 = .ok (.iconst 1, 1) := by decide +kernel
theorem dX10_lasts_78 : decode cX10_lasts 78 = .ok (.isub, 1) := by decide +kernel
theorem dX10_lasts_79 : decode cX10_lasts 79 = .ok (.if_icmp .ne 7, 3) := by decide +kernel
theorem dX10_lasts_82 : decode cX10_lasts 82 = .ok (.iconst 1, 1) := by decide +kernel
theorem dX10_lasts_83 : decode cX10_lasts 83 = .ok (.goto 4, 3) := by decide +kernel
theorem dX10_lasts_86 : decode cX10_lasts 86 = .ok (.iconst 0, 1) := by decide +kernel
theorem dX10_lasts_87 : decode cX10_lasts 87 = .ok (.istore_n 3, 1) := by decide +kernel
theorem dX10_lasts_88 : decode cX10_lasts 88 = .ok (.iload_n 3, 1) := by decide +kernel
theorem dX10_lasts_89 : decode cX10_lasts 89 = .ok (.ifCond .eq 10, 3) := by decide +kernel
theorem dX10_lasts_92 : decode cX10_lasts 92 = .ok (.iload_n 2, 1) := by decide +kernel
theorem dX10_lasts_93 : decode cX10_lasts 93 = .ok (.ifCond .le 6, 3) := by decide +kernel
theorem dX10_lasts_96 : decode cX10_lasts 96 = .ok (.bipush 99, 2) := by decide +kernel
theorem dX10_lasts_98 : decode cX10_lasts 98 = .ok (.ireturn, 1) := by decide +kernel
theorem dX10_lasts_99 : decode cX10_lasts 99 = .ok (.iload_n 2, 1) := by decide +kernel
theorem dX10_lasts_100 : decode cX10_lasts 100 = .ok (.bipush 99, 2) := by decide +kernel
theorem dX10_lasts_102 : decode cX10_lasts 102 = .ok (.invokestatic 298, 3) := by decide +kernel
theorem dX10_lasts_105 : decode cX10_lasts 105 = .ok (.ireturn, 1) := by decide +kernel
theorem dX10_left_0 : decode cX10_left 0 = .ok (.aload_n 0, 1) := by decide +kernel
theorem dX10_left_1 : decode cX10_left 1 = .ok (.invokevirtual 172, 3) := by decide +kernel
theorem dX10_left_4 : decode cX10_left 4 = .ok (.ifCond .ne 5, 3) := by decide +kernel
theorem dX10_left_7 : decode cX10_left 7 = .ok (.iconst (-1), 1) := by decide +kernel
theorem dX10_left_8 : decode cX10_left 8 = .ok (.ireturn, 1) := by decide +kernel
theorem dX10_left_9 : decode cX10_left 9 = .ok (.aload_n 0, 1) := by decide +kernel
theorem dX10_left_10 : decode cX10_left 10 = .ok (.getfield 82, 3) := by decide +kernel
theorem dX10_left_13 : decode cX10_left 13 = .ok (.aload_n 0, 1) := by decide +kernel
theorem dX10_left_14 : decode cX10_left 14 = .ok (.getfield 56, 3) := by decide +kernel
theorem dX10_left_17 : decode cX10_left 17 = .ok (.invokevirtual 195, 3) := by decide +kernel
theorem dX10_left_20 : decode cX10_left 20 = .ok (.aload_n 0, 1) := by decide +kernel
theorem dX10_left_21 : decode cX10_left 21 = .ok (.getfield 82, 3) := by decide +kernel
theorem dX10_left_24 : decode cX10_left 24 = .ok (.aload_n 0, 1) := by decide +kernel
theorem dX10_left_25 : decode cX10_left 25 = .ok (.getfield 56, 3) := by decide +kernel
theorem dX10_left_28 : decode cX10_left 28 = .ok (.getfield 183, 3) := by decide +kernel
theorem dX10_left_31 : decode cX10_left 31 = .ok (.aload_n 0, 1) := by decide +kernel
theorem dX10_left_32 : decode cX10_left 32 = .ok (.getfield 49, 3) := by decide +kernel
theorem dX10_left_35 : decode cX10_left 35 = .ok (.getfield 118, 3) := by decide +kernel
theorem dX10_left_38 : decode cX10_left 38 = .ok (.iconst 1, 1) := by decide +kernel
theorem dX10_left_39 : decode cX10_left 39 = .ok (.isub, 1) := by decide +kernel
theorem dX10_left_40 : decode cX10_left 40 = .ok (.iaload, 1) := by decide +kernel
theorem dX10_left_41 : decode cX10_left 41 = .ok (.invokevirtual 303, 3) := by decide +kernel
theorem dX10_left_44 : decode cX10_left 44 = .ok (.ireturn, 1) := by decide +kernel
theorem dX10_drawn_0 : decode cX10_drawn 0 = .ok (.aload_n 0, 1) := by decide +kernel
theorem dX10_drawn_1 : decode cX10_drawn 1 = .ok (.iload_n 1, 1) := by decide +kernel
theorem dX10_drawn_2 : decode cX10_drawn 2 = .ok (.invokevirtual 211, 3) := by decide +kernel
theorem dX10_drawn_5 : decode cX10_drawn 5 = .ok (.ifCond .ne 5, 3) := by decide +kernel
theorem dX10_drawn_8 : decode cX10_drawn 8 = .ok (.iconst (-1), 1) := by decide +kernel
theorem dX10_drawn_9 : decode cX10_drawn 9 = .ok (.ireturn, 1) := by decide +kernel
theorem dX10_drawn_10 : decode cX10_drawn 10 = .ok (.lload_n 2, 1) := by decide +kernel
theorem dX10_drawn_11 : decode cX10_drawn 11 = .ok (.lstore 4, 2) := by decide +kernel
theorem dX10_drawn_13 : decode cX10_drawn 13 = .ok (.iconst 0, 1) := by decide +kernel
theorem dX10_drawn_14 : decode cX10_drawn 14 = .ok (.istore 6, 2) := by decide +kernel
theorem dX10_drawn_16 : decode cX10_drawn 16 = .ok (.iload 6, 2) := by decide +kernel
theorem dX10_drawn_18 : decode cX10_drawn 18 = .ok (.iload_n 1, 1) := by decide +kernel
theorem dX10_drawn_19 : decode cX10_drawn 19 = .ok (.if_icmp .ge 69, 3) := by decide +kernel
theorem dX10_drawn_22 : decode cX10_drawn 22 = .ok (.iconst 0, 1) := by decide +kernel
theorem dX10_drawn_23 : decode cX10_drawn 23 = .ok (.istore 7, 2) := by decide +kernel
theorem dX10_drawn_25 : decode cX10_drawn 25 = .ok (.iload 7, 2) := by decide +kernel
theorem dX10_drawn_27 : decode cX10_drawn 27 = .ok (.aload_n 0, 1) := by decide +kernel
theorem dX10_drawn_28 : decode cX10_drawn 28 = .ok (.getfield 49, 3) := by decide +kernel
theorem dX10_drawn_31 : decode cX10_drawn 31 = .ok (.getfield 118, 3) := by decide +kernel
theorem dX10_drawn_34 : decode cX10_drawn 34 = .ok (.if_icmp .ge 44, 3) := by decide +kernel
theorem dX10_drawn_37 : decode cX10_drawn 37 = .ok (.lload 4, 2) := by decide +kernel
theorem dX10_drawn_39 : decode cX10_drawn 39 = .ok (.ldc2_w 306, 3) := by decide +kernel
theorem dX10_drawn_42 : decode cX10_drawn 42 = .ok (.lmul, 1) := by decide +kernel
theorem dX10_drawn_43 : decode cX10_drawn 43 = .ok (.ldc2_w 308, 3) := by decide +kernel
theorem dX10_drawn_46 : decode cX10_drawn 46 = .ok (.ladd, 1) := by decide +kernel
theorem dX10_drawn_47 : decode cX10_drawn 47 = .ok (.lstore 4, 2) := by decide +kernel
theorem dX10_drawn_49 : decode cX10_drawn 49 = .ok (.aload_n 0, 1) := by decide +kernel
theorem dX10_drawn_50 : decode cX10_drawn 50 = .ok (.getfield 56, 3) := by decide +kernel
theorem dX10_drawn_53 : decode cX10_drawn 53 = .ok (.getfield 164, 3) := by decide +kernel
theorem dX10_drawn_56 : decode cX10_drawn 56 = .ok (.iload 7, 2) := by decide +kernel
theorem dX10_drawn_58 : decode cX10_drawn 58 = .ok (.lload 4, 2) := by decide +kernel
theorem dX10_drawn_60 : decode cX10_drawn 60 = .ok (.bipush 33, 2) := by decide +kernel
theorem dX10_drawn_62 : decode cX10_drawn 62 = .ok (.lushr, 1) := by decide +kernel
theorem dX10_drawn_63 : decode cX10_drawn 63 = .ok (.ldc2_w 310, 3) := by decide +kernel
theorem dX10_drawn_66 : decode cX10_drawn 66 = .ok (.lrem, 1) := by decide +kernel
theorem dX10_drawn_67 : decode cX10_drawn 67 = .ok (.l2i, 1) := by decide +kernel
theorem dX10_drawn_68 : decode cX10_drawn 68 = .ok (.invokestatic 255, 3) := by decide +kernel
theorem dX10_drawn_71 : decode cX10_drawn 71 = .ok (.iastore, 1) := by decide +kernel
theorem dX10_drawn_72 : decode cX10_drawn 72 = .ok (.iinc 7 1, 3) := by decide +kernel
theorem dX10_drawn_75 : decode cX10_drawn 75 = .ok (.goto (-50), 3) := by decide +kernel
theorem dX10_drawn_78 : decode cX10_drawn 78 = .ok (.aload_n 0, 1) := by decide +kernel
theorem dX10_drawn_79 : decode cX10_drawn 79 = .ok (.invokevirtual 214, 3) := by decide +kernel
theorem dX10_drawn_82 : decode cX10_drawn 82 = .ok (.iinc 6 1, 3) := by decide +kernel
theorem dX10_drawn_85 : decode cX10_drawn 85 = .ok (.goto (-69), 3) := by decide +kernel
theorem dX10_drawn_88 : decode cX10_drawn 88 = .ok (.aload_n 0, 1) := by decide +kernel
theorem dX10_drawn_89 : decode cX10_drawn 89 = .ok (.getfield 56, 3) := by decide +kernel
theorem dX10_drawn_92 : decode cX10_drawn 92 = .ok (.getfield 217, 3) := by decide +kernel
theorem dX10_drawn_95 : decode cX10_drawn 95 = .ok (.ireturn, 1) := by decide +kernel
theorem dX10_image_0 : decode cX10_image 0 = .ok (.aload_n 0, 1) := by decide +kernel
theorem dX10_image_1 : decode cX10_image 1 = .ok (.invokevirtual 172, 3) := by decide +kernel
theorem dX10_image_4 : decode cX10_image 4 = .ok (.ifCond .ne 5, 3) := by decide +kernel
theorem dX10_image_7 : decode cX10_image 7 = .ok (.iconst (-1), 1) := by decide +kernel
theorem dX10_image_8 : decode cX10_image 8 = .ok (.ireturn, 1) := by decide +kernel
theorem dX10_image_9 : decode cX10_image 9 = .ok (.aload_n 0, 1) := by decide +kernel
theorem dX10_image_10 : decode cX10_image 10 = .ok (.getfield 63, 3) := by decide +kernel
theorem dX10_image_13 : decode cX10_image 13 = .ok (.aload_n 0, 1) := by decide +kernel
theorem dX10_image_14 : decode cX10_image 14 = .ok (.getfield 56, 3) := by decide +kernel
theorem dX10_image_17 : decode cX10_image 17 = .ok (.invokevirtual 252, 3) := by decide +kernel
theorem dX10_image_20 : decode cX10_image 20 = .ok (.aload_n 0, 1) := by decide +kernel
theorem dX10_image_21 : decode cX10_image 21 = .ok (.iconst 1, 1) := by decide +kernel
theorem dX10_image_22 : decode cX10_image 22 = .ok (.putfield 66, 3) := by decide +kernel
theorem dX10_image_25 : decode cX10_image 25 = .ok (.aload_n 0, 1) := by decide +kernel
theorem dX10_image_26 : decode cX10_image 26 = .ok (.getfield 56, 3) := by decide +kernel
theorem dX10_image_29 : decode cX10_image 29 = .ok (.getfield 217, 3) := by decide +kernel
theorem dX10_image_32 : decode cX10_image 32 = .ok (.ireturn, 1) := by decide +kernel
theorem dX10_back_0 : decode cX10_back 0 = .ok (.aload_n 0, 1) := by decide +kernel
theorem dX10_back_1 : decode cX10_back 1 = .ok (.getfield 66, 3) := by decide +kernel
theorem dX10_back_4 : decode cX10_back 4 = .ok (.ifCond .ne 5, 3) := by decide +kernel
theorem dX10_back_7 : decode cX10_back 7 = .ok (.iconst (-1), 1) := by decide +kernel
theorem dX10_back_8 : decode cX10_back 8 = .ok (.ireturn, 1) := by decide +kernel
theorem dX10_back_9 : decode cX10_back 9 = .ok (.aload_n 0, 1) := by decide +kernel
theorem dX10_back_10 : decode cX10_back 10 = .ok (.getfield 56, 3) := by decide +kernel
theorem dX10_back_13 : decode cX10_back 13 = .ok (.aload_n 0, 1) := by decide +kernel
theorem dX10_back_14 : decode cX10_back 14 = .ok (.getfield 63, 3) := by decide +kernel
theorem dX10_back_17 : decode cX10_back 17 = .ok (.invokevirtual 252, 3) := by decide +kernel
theorem dX10_back_20 : decode cX10_back 20 = .ok (.aload_n 0, 1) := by decide +kernel
theorem dX10_back_21 : decode cX10_back 21 = .ok (.getfield 73, 3) := by decide +kernel
theorem dX10_back_24 : decode cX10_back 24 = .ok (.invokevirtual 131, 3) := by decide +kernel
theorem dX10_back_27 : decode cX10_back 27 = .ok (.aload_n 0, 1) := by decide +kernel
theorem dX10_back_28 : decode cX10_back 28 = .ok (.getfield 56, 3) := by decide +kernel
theorem dX10_back_31 : decode cX10_back 31 = .ok (.getfield 217, 3) := by decide +kernel
theorem dX10_back_34 : decode cX10_back 34 = .ok (.ireturn, 1) := by decide +kernel
theorem dX10_count_0 : decode cX10_count 0 = .ok (.iload_n 1, 1) := by decide +kernel
theorem dX10_count_1 : decode cX10_count 1 = .ok (.tableswitch 149 0 10 #[59, 67, 72, 80, 88, 93, 101, 109, 117, 125, 137], 59) := by decide +kernel
theorem dX10_count_60 : decode cX10_count 60 = .ok (.aload_n 0, 1) := by decide +kernel
theorem dX10_count_61 : decode cX10_count 61 = .ok (.getfield 49, 3) := by decide +kernel
theorem dX10_count_64 : decode cX10_count 64 = .ok (.getfield 118, 3) := by decide +kernel
theorem dX10_count_67 : decode cX10_count 67 = .ok (.ireturn, 1) := by decide +kernel
theorem dX10_count_68 : decode cX10_count 68 = .ok (.aload_n 0, 1) := by decide +kernel
theorem dX10_count_69 : decode cX10_count 69 = .ok (.getfield 39, 3) := by decide +kernel
theorem dX10_count_72 : decode cX10_count 72 = .ok (.ireturn, 1) := by decide +kernel
theorem dX10_count_73 : decode cX10_count 73 = .ok (.aload_n 0, 1) := by decide +kernel
theorem dX10_count_74 : decode cX10_count 74 = .ok (.getfield 10, 3) := by decide +kernel
theorem dX10_count_77 : decode cX10_count 77 = .ok (.getfield 103, 3) := by decide +kernel
theorem dX10_count_80 : decode cX10_count 80 = .ok (.ireturn, 1) := by decide +kernel
theorem dX10_count_81 : decode cX10_count 81 = .ok (.aload_n 0, 1) := by decide +kernel
theorem dX10_count_82 : decode cX10_count 82 = .ok (.getfield 56, 3) := by decide +kernel
theorem dX10_count_85 : decode cX10_count 85 = .ok (.getfield 217, 3) := by decide +kernel
theorem dX10_count_88 : decode cX10_count 88 = .ok (.ireturn, 1) := by decide +kernel
theorem dX10_count_89 : decode cX10_count 89 = .ok (.aload_n 0, 1) := by decide +kernel
theorem dX10_count_90 : decode cX10_count 90 = .ok (.getfield 43, 3) := by decide +kernel
theorem dX10_count_93 : decode cX10_count 93 = .ok (.ireturn, 1) := by decide +kernel
theorem dX10_count_94 : decode cX10_count 94 = .ok (.aload_n 0, 1) := by decide +kernel
theorem dX10_count_95 : decode cX10_count 95 = .ok (.getfield 49, 3) := by decide +kernel
theorem dX10_count_98 : decode cX10_count 98 = .ok (.getfield 226, 3) := by decide +kernel
theorem dX10_count_101 : decode cX10_count 101 = .ok (.ireturn, 1) := by decide +kernel
theorem dX10_count_102 : decode cX10_count 102 = .ok (.aload_n 0, 1) := by decide +kernel
theorem dX10_count_103 : decode cX10_count 103 = .ok (.getfield 49, 3) := by decide +kernel
theorem dX10_count_106 : decode cX10_count 106 = .ok (.getfield 312, 3) := by decide +kernel
theorem dX10_count_109 : decode cX10_count 109 = .ok (.ireturn, 1) := by decide +kernel
theorem dX10_count_110 : decode cX10_count 110 = .ok (.aload_n 0, 1) := by decide +kernel
theorem dX10_count_111 : decode cX10_count 111 = .ok (.getfield 49, 3) := by decide +kernel
theorem dX10_count_114 : decode cX10_count 114 = .ok (.getfield 315, 3) := by decide +kernel
theorem dX10_count_117 : decode cX10_count 117 = .ok (.ireturn, 1) := by decide +kernel
theorem dX10_count_118 : decode cX10_count 118 = .ok (.aload_n 0, 1) := by decide +kernel
theorem dX10_count_119 : decode cX10_count 119 = .ok (.getfield 73, 3) := by decide +kernel
theorem dX10_count_122 : decode cX10_count 122 = .ok (.getfield 318, 3) := by decide +kernel
theorem dX10_count_125 : decode cX10_count 125 = .ok (.ireturn, 1) := by decide +kernel
theorem dX10_count_126 : decode cX10_count 126 = .ok (.aload_n 0, 1) := by decide +kernel
theorem dX10_count_127 : decode cX10_count 127 = .ok (.aload_n 0, 1) := by decide +kernel
theorem dX10_count_128 : decode cX10_count 128 = .ok (.getfield 56, 3) := by decide +kernel
theorem dX10_count_131 : decode cX10_count 131 = .ok (.getfield 183, 3) := by decide +kernel
theorem dX10_count_134 : decode cX10_count 134 = .ok (.invokevirtual 321, 3) := by decide +kernel
theorem dX10_count_137 : decode cX10_count 137 = .ok (.ireturn, 1) := by decide +kernel
theorem dX10_count_138 : decode cX10_count 138 = .ok (.aload_n 0, 1) := by decide +kernel
theorem dX10_count_139 : decode cX10_count 139 = .ok (.aload_n 0, 1) := by decide +kernel
theorem dX10_count_140 : decode cX10_count 140 = .ok (.getfield 56, 3) := by decide +kernel
theorem dX10_count_143 : decode cX10_count 143 = .ok (.getfield 164, 3) := by decide +kernel
theorem dX10_count_146 : decode cX10_count 146 = .ok (.invokevirtual 321, 3) := by decide +kernel
theorem dX10_count_149 : decode cX10_count 149 = .ok (.ireturn, 1) := by decide +kernel
theorem dX10_count_150 : decode cX10_count 150 = .ok (.ldc 194, 2) := by decide +kernel
theorem dX10_count_152 : decode cX10_count 152 = .ok (.ireturn, 1) := by decide +kernel
theorem dX10_asDigits_0 : decode cX10_asDigits 0 = .ok (.iconst 0, 1) := by decide +kernel
theorem dX10_asDigits_1 : decode cX10_asDigits 1 = .ok (.istore_n 2, 1) := by decide +kernel
theorem dX10_asDigits_2 : decode cX10_asDigits 2 = .ok (.iconst 0, 1) := by decide +kernel
theorem dX10_asDigits_3 : decode cX10_asDigits 3 = .ok (.istore_n 3, 1) := by decide +kernel
theorem dX10_asDigits_4 : decode cX10_asDigits 4 = .ok (.iload_n 3, 1) := by decide +kernel
theorem dX10_asDigits_5 : decode cX10_asDigits 5 = .ok (.aload_n 0, 1) := by decide +kernel
theorem dX10_asDigits_6 : decode cX10_asDigits 6 = .ok (.getfield 49, 3) := by decide +kernel
theorem dX10_asDigits_9 : decode cX10_asDigits 9 = .ok (.getfield 118, 3) := by decide +kernel
theorem dX10_asDigits_12 : decode cX10_asDigits 12 = .ok (.if_icmp .ge 24, 3) := by decide +kernel
theorem dX10_asDigits_15 : decode cX10_asDigits 15 = .ok (.iload_n 3, 1) := by decide +kernel
theorem dX10_asDigits_16 : decode cX10_asDigits 16 = .ok (.aload_n 1, 1) := by decide +kernel
theorem dX10_asDigits_17 : decode cX10_asDigits 17 = .ok (.arraylength, 1) := by decide +kernel
theorem dX10_asDigits_18 : decode cX10_asDigits 18 = .ok (.if_icmp .ge 18, 3) := by decide +kernel
theorem dX10_asDigits_21 : decode cX10_asDigits 21 = .ok (.iload_n 2, 1) := by decide +kernel
theorem dX10_asDigits_22 : decode cX10_asDigits 22 = .ok (.bipush 10, 2) := by decide +kernel
theorem dX10_asDigits_24 : decode cX10_asDigits 24 = .ok (.imul, 1) := by decide +kernel
theorem dX10_asDigits_25 : decode cX10_asDigits 25 = .ok (.aload_n 1, 1) := by decide +kernel
theorem dX10_asDigits_26 : decode cX10_asDigits 26 = .ok (.iload_n 3, 1) := by decide +kernel
theorem dX10_asDigits_27 : decode cX10_asDigits 27 = .ok (.iaload, 1) := by decide +kernel
theorem dX10_asDigits_28 : decode cX10_asDigits 28 = .ok (.iadd, 1) := by decide +kernel
theorem dX10_asDigits_29 : decode cX10_asDigits 29 = .ok (.istore_n 2, 1) := by decide +kernel
theorem dX10_asDigits_30 : decode cX10_asDigits 30 = .ok (.iinc 3 1, 3) := by decide +kernel
theorem dX10_asDigits_33 : decode cX10_asDigits 33 = .ok (.goto (-29), 3) := by decide +kernel
theorem dX10_asDigits_36 : decode cX10_asDigits 36 = .ok (.iload_n 2, 1) := by decide +kernel
theorem dX10_asDigits_37 : decode cX10_asDigits 37 = .ok (.ireturn, 1) := by decide +kernel
theorem dX10_hasStreet_0 : decode cX10_hasStreet 0 = .ok (.aload_n 0, 1) := by decide +kernel
theorem dX10_hasStreet_1 : decode cX10_hasStreet 1 = .ok (.getfield 49, 3) := by decide +kernel
theorem dX10_hasStreet_4 : decode cX10_hasStreet 4 = .ok (.getfield 118, 3) := by decide +kernel
theorem dX10_hasStreet_7 : decode cX10_hasStreet 7 = .ok (.ifCond .le 7, 3) := by decide +kernel
theorem dX10_hasStreet_10 : decode cX10_hasStreet 10 = .ok (.iconst 1, 1) := by decide +kernel
theorem dX10_hasStreet_11 : decode cX10_hasStreet 11 = .ok (.goto 4, 3) := by decide +kernel
theorem dX10_hasStreet_14 : decode cX10_hasStreet 14 = .ok (.iconst 0, 1) := by decide +kernel
theorem dX10_hasStreet_15 : decode cX10_hasStreet 15 = .ok (.ireturn, 1) := by decide +kernel
theorem dX10_isHouse_0 : decode cX10_isHouse 0 = .ok (.iload_n 1, 1) := by decide +kernel
theorem dX10_isHouse_1 : decode cX10_isHouse 1 = .ok (.ifCond .lt 18, 3) := by decide +kernel
theorem dX10_isHouse_4 : decode cX10_isHouse 4 = .ok (.iload_n 1, 1) := by decide +kernel
theorem dX10_isHouse_5 : decode cX10_isHouse 5 = .ok (.aload_n 0, 1) := by decide +kernel
theorem dX10_isHouse_6 : decode cX10_isHouse 6 = .ok (.getfield 49, 3) := by decide +kernel
theorem dX10_isHouse_9 : decode cX10_isHouse 9 = .ok (.getfield 118, 3) := by decide +kernel
theorem dX10_isHouse_12 : decode cX10_isHouse 12 = .ok (.if_icmp .ge 7, 3) := by decide +kernel
theorem dX10_isHouse_15 : decode cX10_isHouse 15 = .ok (.iconst 1, 1) := by decide +kernel
theorem dX10_isHouse_16 : decode cX10_isHouse 16 = .ok (.goto 4, 3) := by decide +kernel
theorem dX10_isHouse_19 : decode cX10_isHouse 19 = .ok (.iconst 0, 1) := by decide +kernel
theorem dX10_isHouse_20 : decode cX10_isHouse 20 = .ok (.ireturn, 1) := by decide +kernel
theorem dX10_isStuff_0 : decode cX10_isStuff 0 = .ok (.iload_n 0, 1) := by decide +kernel
theorem dX10_isStuff_1 : decode cX10_isStuff 1 = .ok (.ifCond .lt 12, 3) := by decide +kernel
theorem dX10_isStuff_4 : decode cX10_isStuff 4 = .ok (.iload_n 0, 1) := by decide +kernel
theorem dX10_isStuff_5 : decode cX10_isStuff 5 = .ok (.iconst 5, 1) := by decide +kernel
theorem dX10_isStuff_6 : decode cX10_isStuff 6 = .ok (.if_icmp .ge 7, 3) := by decide +kernel
theorem dX10_isStuff_9 : decode cX10_isStuff 9 = .ok (.iconst 1, 1) := by decide +kernel
theorem dX10_isStuff_10 : decode cX10_isStuff 10 = .ok (.goto 4, 3) := by decide +kernel
theorem dX10_isStuff_13 : decode cX10_isStuff 13 = .ok (.iconst 0, 1) := by decide +kernel
theorem dX10_isStuff_14 : decode cX10_isStuff 14 = .ok (.ireturn, 1) := by decide +kernel
theorem dX10_isChoice_0 : decode cX10_isChoice 0 = .ok (.iload_n 0, 1) := by decide +kernel
theorem dX10_isChoice_1 : decode cX10_isChoice 1 = .ok (.ifCond .eq 8, 3) := by decide +kernel
theorem dX10_isChoice_4 : decode cX10_isChoice 4 = .ok (.iload_n 0, 1) := by decide +kernel
theorem dX10_isChoice_5 : decode cX10_isChoice 5 = .ok (.iconst 1, 1) := by decide +kernel
theorem dX10_isChoice_6 : decode cX10_isChoice 6 = .ok (.if_icmp .ne 7, 3) := by decide +kernel
theorem dX10_isChoice_9 : decode cX10_isChoice 9 = .ok (.iconst 1, 1) := by decide +kernel
theorem dX10_isChoice_10 : decode cX10_isChoice 10 = .ok (.goto 4, 3) := by decide +kernel
theorem dX10_isChoice_13 : decode cX10_isChoice 13 = .ok (.iconst 0, 1) := by decide +kernel
theorem dX10_isChoice_14 : decode cX10_isChoice 14 = .ok (.ireturn, 1) := by decide +kernel
theorem dX10_isWithin_0 : decode cX10_isWithin 0 = .ok (.iload_n 0, 1) := by decide +kernel
theorem dX10_isWithin_1 : decode cX10_isWithin 1 = .ok (.iload_n 1, 1) := by decide +kernel
theorem dX10_isWithin_2 : decode cX10_isWithin 2 = .ok (.if_icmp .lt 12, 3) := by decide +kernel
theorem dX10_isWithin_5 : decode cX10_isWithin 5 = .ok (.iload_n 0, 1) := by decide +kernel
theorem dX10_isWithin_6 : decode cX10_isWithin 6 = .ok (.iload_n 2, 1) := by decide +kernel
theorem dX10_isWithin_7 : decode cX10_isWithin 7 = .ok (.if_icmp .gt 7, 3) := by decide +kernel
theorem dX10_isWithin_10 : decode cX10_isWithin 10 = .ok (.iconst 1, 1) := by decide +kernel
theorem dX10_isWithin_11 : decode cX10_isWithin 11 = .ok (.goto 4, 3) := by decide +kernel
theorem dX10_isWithin_14 : decode cX10_isWithin 14 = .ok (.iconst 0, 1) := by decide +kernel
theorem dX10_isWithin_15 : decode cX10_isWithin 15 = .ok (.ireturn, 1) := by decide +kernel
