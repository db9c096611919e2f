theorem dX11_init_0 : decode cX11_init 0 = .ok (.aload_n 0, 1) := by decide +kernel
theorem dX11_init_1 : decode cX11_init 1 = .ok (.invokespecial 1, 3) := by decide +kernel
theorem dX11_init_4 : decode cX11_init 4 = .ok (.aload_n 0, 1) := by decide +kernel
theorem dX11_init_5 : decode cX11_init 5 = .ok (.sipush 160, 3) := by decide +kernel
theorem dX11_init_8 : decode cX11_init 8 = .ok (.newarray .byte, 2) := by decide +kernel
theorem dX11_init_10 : decode cX11_init 10 = .ok (.putfield 9, 3) := by decide +kernel
theorem dX11_init_13 : decode cX11_init 13 = .ok (.aload_n 0, 1) := by decide +kernel
theorem dX11_init_14 : decode cX11_init 14 = .ok (.sipush 640, 3) := by decide +kernel
theorem dX11_init_17 : decode cX11_init 17 = .ok (.newarray .byte, 2) := by decide +kernel
theorem dX11_init_19 : decode cX11_init 19 = .ok (.putfield 13, 3) := by decide +kernel
theorem dX11_init_22 : decode cX11_init 22 = .ok (.aload_n 0, 1) := by decide +kernel
theorem dX11_init_23 : decode cX11_init 23 = .ok (.iconst 4, 1) := by decide +kernel
theorem dX11_init_24 : decode cX11_init 24 = .ok (.newarray .int, 2) := by decide +kernel
theorem dX11_init_26 : decode cX11_init 26 = .ok (.putfield 16, 3) := by decide +kernel
theorem dX11_init_29 : decode cX11_init 29 = .ok (.aload_n 0, 1) := by decide +kernel
theorem dX11_init_30 : decode cX11_init 30 = .ok (.sipush 128, 3) := by decide +kernel
theorem dX11_init_33 : decode cX11_init 33 = .ok (.newarray .int, 2) := by decide +kernel
theorem dX11_init_35 : decode cX11_init 35 = .ok (.putfield 20, 3) := by decide +kernel
theorem dX11_init_38 : decode cX11_init 38 = .ok (.aload_n 0, 1) := by decide +kernel
theorem dX11_init_39 : decode cX11_init 39 = .ok (.aload_n 0, 1) := by decide +kernel
theorem dX11_init_40 : decode cX11_init 40 = .ok (.getfield 9, 3) := by decide +kernel
theorem dX11_init_43 : decode cX11_init 43 = .ok (.putfield 23, 3) := by decide +kernel
theorem dX11_init_46 : decode cX11_init 46 = .ok (.aload_n 0, 1) := by decide +kernel
theorem dX11_init_47 : decode cX11_init 47 = .ok (.ldc 26, 2) := by decide +kernel
theorem dX11_init_49 : decode cX11_init 49 = .ok (.putfield 28, 3) := by decide +kernel
theorem dX11_init_52 : decode cX11_init 52 = .ok (.aload_n 0, 1) := by decide +kernel
theorem dX11_init_53 : decode cX11_init 53 = .ok (.ldc 32, 2) := by decide +kernel
theorem dX11_init_55 : decode cX11_init 55 = .ok (.putfield 34, 3) := by decide +kernel
theorem dX11_init_58 : decode cX11_init 58 = .ok (.aload_n 0, 1) := by decide +kernel
theorem dX11_init_59 : decode cX11_init 59 = .ok (.iconst 5, 1) := by decide +kernel
theorem dX11_init_60 : decode cX11_init 60 = .ok (.newarray .int, 2) := by decide +kernel
theorem dX11_init_62 : decode cX11_init 62 = .ok (.putfield 37, 3) := by decide +kernel
theorem dX11_init_65 : decode cX11_init 65 = .ok (.aload_n 0, 1) := by decide +kernel
theorem dX11_init_66 : decode cX11_init 66 = .ok (.iconst 5, 1) := by decide +kernel
theorem dX11_init_67 : decode cX11_init 67 = .ok (.newarray .int, 2) := by decide +kernel
theorem dX11_init_69 : decode cX11_init 69 = .ok (.putfield 40, 3) := by decide +kernel
theorem dX11_init_72 : decode cX11_init 72 = .ok (.aload_n 0, 1) := by decide +kernel
theorem dX11_init_73 : decode cX11_init 73 = .ok (.bipush 48, 2) := by decide +kernel
theorem dX11_init_75 : decode cX11_init 75 = .ok (.newarray .int, 2) := by decide +kernel
theorem dX11_init_77 : decode cX11_init 77 = .ok (.putfield 43, 3) := by decide +kernel
theorem dX11_init_80 : decode cX11_init 80 = .ok (.aload_n 0, 1) := by decide +kernel
theorem dX11_init_81 : decode cX11_init 81 = .ok (.bipush 48, 2) := by decide +kernel
theorem dX11_init_83 : decode cX11_init 83 = .ok (.newarray .int, 2) := by decide +kernel
theorem dX11_init_85 : decode cX11_init 85 = .ok (.putfield 46, 3) := by decide +kernel
theorem dX11_init_88 : decode cX11_init 88 = .ok (.aload_n 0, 1) := by decide +kernel
theorem dX11_init_89 : decode cX11_init 89 = .ok (.iconst 3, 1) := by decide +kernel
theorem dX11_init_90 : decode cX11_init 90 = .ok (.newarray .int, 2) := by decide +kernel
theorem dX11_init_92 : decode cX11_init 92 = .ok (.putfield 49, 3) := by decide +kernel
theorem dX11_init_95 : decode cX11_init 95 = .ok (.aload_n 0, 1) := by decide +kernel
theorem dX11_init_96 : decode cX11_init 96 = .ok (.iconst 3, 1) := by decide +kernel
theorem dX11_init_97 : decode cX11_init 97 = .ok (.newarray .int, 2) := by decide +kernel
theorem dX11_init_99 : decode cX11_init 99 = .ok (.putfield 52, 3) := by decide +kernel
theorem dX11_init_102 : decode cX11_init 102 = .ok (.aload_n 0, 1) := by decide +kernel
theorem dX11_init_103 : decode cX11_init 103 = .ok (.bipush 6, 2) := by decide +kernel
theorem dX11_init_105 : decode cX11_init 105 = .ok (.newarray .int, 2) := by decide +kernel
theorem dX11_init_107 : decode cX11_init 107 = .ok (.putfield 55, 3) := by decide +kernel
theorem dX11_init_110 : decode cX11_init 110 = .ok (.aload_n 0, 1) := by decide +kernel
theorem dX11_init_111 : decode cX11_init 111 = .ok (.bipush 6, 2) := by decide +kernel
theorem dX11_init_113 : decode cX11_init 113 = .ok (.newarray .int, 2) := by decide +kernel
theorem dX11_init_115 : decode cX11_init 115 = .ok (.putfield 58, 3) := by decide +kernel
theorem dX11_init_118 : decode cX11_init 118 = .ok (.aload_n 0, 1) := by decide +kernel
theorem dX11_init_119 : decode cX11_init 119 = .ok (.bipush 6, 2) := by decide +kernel
theorem dX11_init_121 : decode cX11_init 121 = .ok (.newarray .int, 2) := by decide +kernel
theorem dX11_init_123 : decode cX11_init 123 = .ok (.putfield 61, 3) := by decide +kernel
theorem dX11_init_126 : decode cX11_init 126 = .ok (.aload_n 0, 1) := by decide +kernel
theorem dX11_init_127 : decode cX11_init 127 = .ok (.iconst (-1), 1) := by decide +kernel
theorem dX11_init_128 : decode cX11_init 128 = .ok (.putfield 64, 3) := by decide +kernel
theorem dX11_init_131 : decode cX11_init 131 = .ok (.aload_n 0, 1) := by decide +kernel
theorem dX11_init_132 : decode cX11_init 132 = .ok (.bipush 6, 2) := by decide +kernel
theorem dX11_init_134 : decode cX11_init 134 = .ok (.newarray .int, 2) := by decide +kernel
theorem dX11_init_136 : decode cX11_init 136 = .ok (.putfield 68, 3) := by decide +kernel
theorem dX11_init_139 : decode cX11_init 139 = .ok (.aload_n 0, 1) := by decide +kernel
theorem dX11_init_140 : decode cX11_init 140 = .ok (.bipush 6, 2) := by decide +kernel
theorem dX11_init_142 : decode cX11_init 142 = .ok (.newarray .int, 2) := by decide +kernel
theorem dX11_init_144 : decode cX11_init 144 = .ok (.putfield 71, 3) := by decide +kernel
theorem dX11_init_147 : decode cX11_init 147 = .ok (.aload_n 0, 1) := by decide +kernel
theorem dX11_init_148 : decode cX11_init 148 = .ok (.bipush 36, 2) := by decide +kernel
theorem dX11_init_150 : decode cX11_init 150 = .ok (.newarray .int, 2) := by decide +kernel
theorem dX11_init_152 : decode cX11_init 152 = .ok (.putfield 74, 3) := by decide +kernel
theorem dX11_init_155 : decode cX11_init 155 = .ok (.aload_n 0, 1) := by decide +kernel
theorem dX11_init_156 : decode cX11_init 156 = .ok (.bipush 6, 2) := by decide +kernel
theorem dX11_init_158 : decode cX11_init 158 = .ok (.newarray .int, 2) := by decide +kernel
theorem dX11_init_160 : decode cX11_init 160 = .ok (.putfield 77, 3) := by decide +kernel
theorem dX11_init_163 : decode cX11_init 163 = .ok (.aload_n 0, 1) := by decide +kernel
theorem dX11_init_164 : decode cX11_init 164 = .ok (.bipush 6, 2) := by decide +kernel
theorem dX11_init_166 : decode cX11_init 166 = .ok (.newarray .int, 2) := by decide +kernel
theorem dX11_init_168 : decode cX11_init 168 = .ok (.putfield 80, 3) := by decide +kernel
theorem dX11_init_171 : decode cX11_init 171 = .ok (.aload_n 0, 1) := by decide +kernel
theorem dX11_init_172 : decode cX11_init 172 = .ok (.bipush 6, 2) := by decide +kernel
theorem dX11_init_174 : decode cX11_init 174 = .ok (.newarray .int, 2) := by decide +kernel
theorem dX11_init_176 : decode cX11_init 176 = .ok (.putfield 83, 3) := by decide +kernel
theorem dX11_init_179 : decode cX11_init 179 = .ok (.aload_n 0, 1) := by decide +kernel
theorem dX11_init_180 : decode cX11_init 180 = .ok (.iconst (-1), 1) := by decide +kernel
theorem dX11_init_181 : decode cX11_init 181 = .ok (.putfield 86, 3) := by decide +kernel
theorem dX11_init_184 : decode cX11_init 184 = .ok (.aload_n 0, 1) := by decide +kernel
theorem dX11_init_185 : decode cX11_init 185 = .ok (.iconst (-1), 1) := by decide +kernel
theorem dX11_init_186 : decode cX11_init 186 = .ok (.putfield 89, 3) := by decide +kernel
theorem dX11_init_189 : decode cX11_init 189 = .ok (.aload_n 0, 1) := by decide +kernel
theorem dX11_init_190 : decode cX11_init 190 = .ok (.sipush 900, 3) := by decide +kernel
theorem dX11_init_193 : decode cX11_init 193 = .ok (.newarray .int, 2) := by decide +kernel
theorem dX11_init_195 : decode cX11_init 195 = .ok (.putfield 92, 3) := by decide +kernel
theorem dX11_init_198 : decode cX11_init 198 = .ok (.aload_n 0, 1) := by decide +kernel
theorem dX11_init_199 : decode cX11_init 199 = .ok (.sipush 180, 3) := by decide +kernel
theorem dX11_init_202 : decode cX11_init 202 = .ok (.newarray .int, 2) := by decide +kernel
theorem dX11_init_204 : decode cX11_init 204 = .ok (.putfield 95, 3) := by decide +kernel
theorem dX11_init_207 : decode cX11_init 207 = .ok (.aload_n 0, 1) := by decide +kernel
theorem dX11_init_208 : decode cX11_init 208 = .ok (.bipush 6, 2) := by decide +kernel
theorem dX11_init_210 : decode cX11_init 210 = .ok (.newarray .int, 2) := by decide +kernel
theorem dX11_init_212 : decode cX11_init 212 = .ok (.putfield 98, 3) := by decide +kernel
theorem dX11_init_215 : decode cX11_init 215 = .ok (.aload_n 0, 1) := by decide +kernel
theorem dX11_init_216 : decode cX11_init 216 = .ok (.bipush 6, 2) := by decide +kernel
theorem dX11_init_218 : decode cX11_init 218 = .ok (.newarray .int, 2) := by decide +kernel
theorem dX11_init_220 : decode cX11_init 220 = .ok (.putfield 101, 3) := by decide +kernel
theorem dX11_init_223 : decode cX11_init 223 = .ok (.aload_n 0, 1) := by decide +kernel
theorem dX11_init_224 : decode cX11_init 224 = .ok (.bipush 6, 2) := by decide +kernel
theorem dX11_init_226 : decode cX11_init 226 = .ok (.newarray .int, 2) := by decide +kernel
theorem dX11_init_228 : decode cX11_init 228 = .ok (.putfield 104, 3) := by decide +kernel
theorem dX11_init_231 : decode cX11_init 231 = .ok (.aload_n 0, 1) := by decide +kernel
theorem dX11_init_232 : decode cX11_init 232 = .ok (.bipush 48, 2) := by decide +kernel
theorem dX11_init_234 : decode cX11_init 234 = .ok (.newarray .int, 2) := by decide +kernel
theorem dX11_init_236 : decode cX11_init 236 = .ok (.putfield 107, 3) := by decide +kernel
theorem dX11_init_239 : decode cX11_init 239 = .ok (.aload_n 0, 1) := by decide +kernel
theorem dX11_init_240 : decode cX11_init 240 = .ok (.bipush 6, 2) := by decide +kernel
theorem dX11_init_242 : decode cX11_init 242 = .ok (.newarray .int, 2) := by decide +kernel
theorem dX11_init_244 : decode cX11_init 244 = .ok (.putfield 110, 3) := by decide +kernel
theorem dX11_init_247 : decode cX11_init 247 = .ok (.aload_n 0, 1) := by decide +kernel
theorem dX11_init_248 : decode cX11_init 248 = .ok (.bipush 6, 2) := by decide +kernel
theorem dX11_init_250 : decode cX11_init 250 = .ok (.newarray .int, 2) := by decide +kernel
theorem dX11_init_252 : decode cX11_init 252 = .ok (.putfield 113, 3) := by decide +kernel
theorem dX11_init_255 : decode cX11_init 255 = .ok (.aload_n 0, 1) := by decide +kernel
theorem dX11_init_256 : decode cX11_init 256 = .ok (.bipush 6, 2) := by decide +kernel
theorem dX11_init_258 : decode cX11_init 258 = .ok (.newarray .int, 2) := by decide +kernel
theorem dX11_init_260 : decode cX11_init 260 = .ok (.putfield 116, 3) := by decide +kernel
theorem dX11_init_263 : decode cX11_init 263 = .ok (.return_, 1) := by decide +kernel
theorem dX11_thrown_0 : decode cX11_thrown 0 = .ok (.aload_n 0, 1) := by decide +kernel
theorem dX11_thrown_1 : decode cX11_thrown 1 = .ok (.getfield 119, 3) := by decide +kernel
theorem dX11_thrown_4 : decode cX11_thrown 4 = .ok (.ireturn, 1) := by decide +kernel
theorem dX11_isIn_0 : decode cX11_isIn 0 = .ok (.lload_n 0, 1) := by decide +kernel
theorem dX11_isIn_1 : decode cX11_isIn 1 = .ok (.lload_n 2, 1) := by decide +kernel
theorem dX11_isIn_2 : decode cX11_isIn 2 = .ok (.lcmp, 1) := by decide +kernel
theorem dX11_isIn_3 : decode cX11_isIn 3 = .ok (.ifCond .lt 14, 3) := by decide +kernel
theorem dX11_isIn_6 : decode cX11_isIn 6 = .ok (.lload_n 0, 1) := by decide +kernel
theorem dX11_isIn_7 : decode cX11_isIn 7 = .ok (.lload 4, 2) := by decide +kernel
theorem dX11_isIn_9 : decode cX11_isIn 9 = .ok (.lcmp, 1) := by decide +kernel
theorem dX11_isIn_10 : decode cX11_isIn 10 = .ok (.ifCond .gt 7, 3) := by decide +kernel
theorem dX11_isIn_13 : decode cX11_isIn 13 = .ok (.iconst 1, 1) := by decide +kernel
theorem dX11_isIn_14 : decode cX11_isIn 14 = .ok (.goto 4, 3) := by decide +kernel
theorem dX11_isIn_17 : decode cX11_isIn 17 = .ok (.iconst 0, 1) := by decide +kernel
theorem dX11_isIn_18 : decode cX11_isIn 18 = .ok (.ireturn, 1) := by decide +kernel
theorem dX11_has_0 : decode cX11_has 0 = .ok (.iload_n 0, 1) := by decide +kernel
theorem dX11_has_1 : decode cX11_has 1 = .ok (.iload_n 1, 1) := by decide +kernel
theorem dX11_has_2 : decode cX11_has 2 = .ok (.ishr, 1) := by decide +kernel
theorem dX11_has_3 : decode cX11_has 3 = .ok (.iconst 1, 1) := by decide +kernel
theorem dX11_has_4 : decode cX11_has 4 = .ok (.iand, 1) := by decide +kernel
theorem dX11_has_5 : decode cX11_has 5 = .ok (.iconst 1, 1) := by decide +kernel
theorem dX11_has_6 : decode cX11_has 6 = .ok (.if_icmp .ne 7, 3) := by decide +kernel
theorem dX11_has_9 : decode cX11_has 9 = .ok (.iconst 1, 1) := by decide +kernel
theorem dX11_has_10 : decode cX11_has 10 = .ok (.goto 4, 3) := by decide +kernel
theorem dX11_has_13 : decode cX11_has 13 = .ok (.iconst 0, 1) := by decide +kernel
theorem dX11_has_14 : decode cX11_has 14 = .ok (.ireturn, 1) := by decide +kernel
theorem dX11_isAmong_0 : decode cX11_isAmong 0 = .ok (.iconst 0, 1) := by decide +kernel
theorem dX11_isAmong_1 : decode cX11_isAmong 1 = .ok (.istore_n 2, 1) := by decide +kernel
theorem dX11_isAmong_2 : decode cX11_isAmong 2 = .ok (.iload_n 2, 1) := by decide +kernel
theorem dX11_isAmong_3 : decode cX11_isAmong 3 = .ok (.aload_n 0, 1) := by decide +kernel
theorem dX11_isAmong_4 : decode cX11_isAmong 4 = .ok (.invokevirtual 122, 3) := by decide +kernel
theorem dX11_isAmong_7 : decode cX11_isAmong 7 = .ok (.if_icmp .ge 20, 3) := by decide +kernel
theorem dX11_isAmong_10 : decode cX11_isAmong 10 = .ok (.aload_n 0, 1) := by decide +kernel
theorem dX11_isAmong_11 : decode cX11_isAmong 11 = .ok (.iload_n 2, 1) := by decide +kernel
theorem dX11_isAmong_12 : decode cX11_isAmong 12 = .ok (.invokevirtual 128, 3) := by decide +kernel
theorem dX11_isAmong_15 : decode cX11_isAmong 15 = .ok (.iload_n 1, 1) := by decide +kernel
theorem dX11_isAmong_16 : decode cX11_isAmong 16 = .ok (.if_icmp .ne 5, 3) := by decide +kernel
theorem dX11_isAmong_19 : decode cX11_isAmong 19 = .ok (.iconst 1, 1) := by decide +kernel
theorem dX11_isAmong_20 : decode cX11_isAmong 20 = .ok (.ireturn, 1) := by decide +kernel
theorem dX11_isAmong_21 : decode cX11_isAmong 21 = .ok (.iinc 2 1, 3) := by decide +kernel
theorem dX11_isAmong_24 : decode cX11_isAmong 24 = .ok (.goto (-22), 3) := by decide +kernel
theorem dX11_isAmong_27 : decode cX11_isAmong 27 = .ok (.iconst 0, 1) := by decide +kernel
theorem dX11_isAmong_28 : decode cX11_isAmong 28 = .ok (.ireturn, 1) := by decide +kernel
theorem dX11_bytesIn_0 : decode cX11_bytesIn 0 = .ok (.iconst 0, 1) := by decide +kernel
theorem dX11_bytesIn_1 : decode cX11_bytesIn 1 = .ok (.istore_n 1, 1) := by decide +kernel
theorem dX11_bytesIn_2 : decode cX11_bytesIn 2 = .ok (.bipush 24, 2) := by decide +kernel
theorem dX11_bytesIn_4 : decode cX11_bytesIn 4 = .ok (.istore_n 2, 1) := by decide +kernel
theorem dX11_bytesIn_5 : decode cX11_bytesIn 5 = .ok (.iload_n 2, 1) := by decide +kernel
theorem dX11_bytesIn_6 : decode cX11_bytesIn 6 = .ok (.ifCond .lt 27, 3) := by decide +kernel
theorem dX11_bytesIn_9 : decode cX11_bytesIn 9 = .ok (.iload_n 1, 1) := by decide +kernel
theorem dX11_bytesIn_10 : decode cX11_bytesIn 10 = .ok (.iload_n 0, 1) := by decide +kernel
theorem dX11_bytesIn_11 : decode cX11_bytesIn 11 = .ok (.iload_n 2, 1) := by decide +kernel
theorem dX11_bytesIn_12 : decode cX11_bytesIn 12 = .ok (.ishr, 1) := by decide +kernel
theorem dX11_bytesIn_13 : decode cX11_bytesIn 13 = .ok (.sipush 255, 3) := by decide +kernel
theorem dX11_bytesIn_16 : decode cX11_bytesIn 16 = .ok (.iand, 1) := by decide +kernel
theorem dX11_bytesIn_17 : decode cX11_bytesIn 17 = .ok (.ifCond .eq 7, 3) := by decide +kernel
theorem dX11_bytesIn_20 : decode cX11_bytesIn 20 = .ok (.iconst 1, 1) := by decide +kernel
theorem dX11_bytesIn_21 : decode cX11_bytesIn 21 = .ok (.goto 4, 3) := by decide +kernel
theorem dX11_bytesIn_24 : decode cX11_bytesIn 24 = .ok (.iconst 0, 1) := by decide +kernel
theorem dX11_bytesIn_25 : decode cX11_bytesIn 25 = .ok (.iadd, 1) := by decide +kernel
theorem dX11_bytesIn_26 : decode cX11_bytesIn 26 = .ok (.istore_n 1, 1) := by decide +kernel
theorem dX11_bytesIn_27 : decode cX11_bytesIn 27 = .ok (.iinc 2 (-8), 3) := by decide +kernel
theorem dX11_bytesIn_30 : decode cX11_bytesIn 30 = .ok (.goto (-25), 3) := by decide +kernel
theorem dX11_bytesIn_33 : decode cX11_bytesIn 33 = .ok (.iload_n 1, 1) := by decide +kernel
theorem dX11_bytesIn_34 : decode cX11_bytesIn 34 = .ok (.ireturn, 1) := by decide +kernel
theorem dX11_pack_0 : decode cX11_pack 0 = .ok (.bipush 24, 2) := by decide +kernel
theorem dX11_pack_2 : decode cX11_pack 2 = .ok (.istore_n 2, 1) := by decide +kernel
theorem dX11_pack_3 : decode cX11_pack 3 = .ok (.iload_n 2, 1) := by decide +kernel
theorem dX11_pack_4 : decode cX11_pack 4 = .ok (.ifCond .lt 45, 3) := by decide +kernel
theorem dX11_pack_7 : decode cX11_pack 7 = .ok (.iload_n 1, 1) := by decide +kernel
theorem dX11_pack_8 : decode cX11_pack 8 = .ok (.iload_n 2, 1) := by decide +kernel
theorem dX11_pack_9 : decode cX11_pack 9 = .ok (.ishr, 1) := by decide +kernel
theorem dX11_pack_10 : decode cX11_pack 10 = .ok (.sipush 255, 3) := by decide +kernel
theorem dX11_pack_13 : decode cX11_pack 13 = .ok (.iand, 1) := by decide +kernel
theorem dX11_pack_14 : decode cX11_pack 14 = .ok (.ifCond .ne 6, 3) := by decide +kernel
theorem dX11_pack_17 : decode cX11_pack 17 = .ok (.goto 26, 3) := by decide +kernel
theorem dX11_pack_20 : decode cX11_pack 20 = .ok (.aload_n 0, 1) := by decide +kernel
theorem dX11_pack_21 : decode cX11_pack 21 = .ok (.getfield 9, 3) := by decide +kernel
theorem dX11_pack_24 : decode cX11_pack 24 = .ok (.aload_n 0, 1) := by decide +kernel
theorem dX11_pack_25 : decode cX11_pack 25 = .ok (.getfield 132, 3) := by decide +kernel
theorem dX11_pack_28 : decode cX11_pack 28 = .ok (.iload_n 1, 1) := by decide +kernel
theorem dX11_pack_29 : decode cX11_pack 29 = .ok (.iload_n 2, 1) := by decide +kernel
theorem dX11_pack_30 : decode cX11_pack 30 = .ok (.ishr, 1) := by decide +kernel
theorem dX11_pack_31 : decode cX11_pack 31 = .ok (.i2b, 1) := by decide +kernel
theorem dX11_pack_32 : decode cX11_pack 32 = .ok (.bastore, 1) := by decide +kernel
theorem dX11_pack_33 : decode cX11_pack 33 = .ok (.aload_n 0, 1) := by decide +kernel
theorem dX11_pack_34 : decode cX11_pack 34 = .ok (.dup, 1) := by decide +kernel
theorem dX11_pack_35 : decode cX11_pack 35 = .ok (.getfield 132, 3) := by decide +kernel
theorem dX11_pack_38 : decode cX11_pack 38 = .ok (.iconst 1, 1) := by decide +kernel
theorem dX11_pack_39 : decode cX11_pack 39 = .ok (.iadd, 1) := by decide +kernel
theorem dX11_pack_40 : decode cX11_pack 40 = .ok (.putfield 132, 3) := by decide +kernel
theorem dX11_pack_43 : decode cX11_pack 43 = .ok (.iinc 2 (-8), 3) := by decide +kernel
theorem dX11_pack_46 : decode cX11_pack 46 = .ok (.goto (-43), 3) := by decide +kernel
theorem dX11_pack_49 : decode cX11_pack 49 = .ok (.return_, 1) := by decide +kernel
theorem dX11_feed_0 : decode cX11_feed 0 = .ok (.aload_n 0, 1) := by decide +kernel
theorem dX11_feed_1 : decode cX11_feed 1 = .ok (.iconst 0, 1) := by decide +kernel
theorem dX11_feed_2 : decode cX11_feed 2 = .ok (.putfield 119, 3) := by decide +kernel
theorem dX11_feed_5 : decode cX11_feed 5 = .ok (.aload_n 0, 1) := by decide +kernel
theorem dX11_feed_6 : decode cX11_feed 6 = .ok (.getfield 132, 3) := by decide +kernel
theorem dX11_feed_9 : decode cX11_feed 9 = .ok (.iload_n 1, 1) := by decide +kernel
theorem dX11_feed_10 : decode cX11_feed 10 = .ok (.invokestatic 134, 3) := by decide +kernel
theorem dX11_feed_13 : decode cX11_feed 13 = .ok (.iadd, 1) := by decide +kernel
theorem dX11_feed_14 : decode cX11_feed 14 = .ok (.iload_n 2, 1) := by decide +kernel
theorem dX11_feed_15 : decode cX11_feed 15 = .ok (.invokestatic 134, 3) := by decide +kernel
theorem dX11_feed_18 : decode cX11_feed 18 = .ok (.iadd, 1) := by decide +kernel
theorem dX11_feed_19 : decode cX11_feed 19 = .ok (.iload_n 3, 1) := by decide +kernel
theorem dX11_feed_20 : decode cX11_feed 20 = .ok (.invokestatic 134, 3) := by decide +kernel
theorem dX11_feed_23 : decode cX11_feed 23 = .ok (.iadd, 1) := by decide +kernel
theorem dX11_feed_24 : decode cX11_feed 24 = .ok (.iload 4, 2) := by decide +kernel
theorem dX11_feed_26 : decode cX11_feed 26 = .ok (.invokestatic 134, 3) := by decide +kernel
theorem dX11_feed_29 : decode cX11_feed 29 = .ok (.iadd, 1) := by decide +kernel
theorem dX11_feed_30 : decode cX11_feed 30 = .ok (.iload 5, 2) := by decide +kernel
theorem dX11_feed_32 : decode cX11_feed 32 = .ok (.invokestatic 134, 3) := by decide +kernel
theorem dX11_feed_35 : decode cX11_feed 35 = .ok (.iadd, 1) := by decide +kernel
theorem dX11_feed_36 : decode cX11_feed 36 = .ok (.sipush 160, 3) := by decide +kernel
theorem dX11_feed_39 : decode cX11_feed 39 = .ok (.if_icmp .le 5, 3) := by decide +kernel
theorem dX11_feed_42 : decode cX11_feed 42 = .ok (.iconst (-1), 1) := by decide +kernel
theorem dX11_feed_43 : decode cX11_feed 43 = .ok (.ireturn, 1) := by decide +kernel
theorem dX11_feed_44 : decode cX11_feed 44 = .ok (.aload_n 0, 1) := by decide +kernel
theorem dX11_feed_45 : decode cX11_feed 45 = .ok (.iload_n 1, 1) := by decide +kernel
theorem dX11_feed_46 : decode cX11_feed 46 = .ok (.invokevirtual 138, 3) := by decide +kernel
theorem dX11_feed_49 : decode cX11_feed 49 = .ok (.aload_n 0, 1) := by decide +kernel
theorem dX11_feed_50 : decode cX11_feed 50 = .ok (.iload_n 2, 1) := by decide +kernel
theorem dX11_feed_51 : decode cX11_feed 51 = .ok (.invokevirtual 138, 3) := by decide +kernel
theorem dX11_feed_54 : decode cX11_feed 54 = .ok (.aload_n 0, 1) := by decide +kernel
theorem dX11_feed_55 : decode cX11_feed 55 = .ok (.iload_n 3, 1) := by decide +kernel
theorem dX11_feed_56 : decode cX11_feed 56 = .ok (.invokevirtual 138, 3) := by decide +kernel
theorem dX11_feed_59 : decode cX11_feed 59 = .ok (.aload_n 0, 1) := by decide +kernel
theorem dX11_feed_60 : decode cX11_feed 60 = .ok (.iload 4, 2) := by decide +kernel
theorem dX11_feed_62 : decode cX11_feed 62 = .ok (.invokevirtual 138, 3) := by decide +kernel
theorem dX11_feed_65 : decode cX11_feed 65 = .ok (.aload_n 0, 1) := by decide +kernel
theorem dX11_feed_66 : decode cX11_feed 66 = .ok (.iload 5, 2) := by decide +kernel
theorem dX11_feed_68 : decode cX11_feed 68 = .ok (.invokevirtual 138, 3) := by decide +kernel
theorem dX11_feed_71 : decode cX11_feed 71 = .ok (.aload_n 0, 1) := by decide +kernel
theorem dX11_feed_72 : decode cX11_feed 72 = .ok (.getfield 132, 3) := by decide +kernel
theorem dX11_feed_75 : decode cX11_feed 75 = .ok (.ireturn, 1) := by decide +kernel
theorem dX11_end_0 : decode cX11_end 0 = .ok (.aload_n 0, 1) := by decide +kernel
theorem dX11_end_1 : decode cX11_end 1 = .ok (.iconst 0, 1) := by decide +kernel
theorem dX11_end_2 : decode cX11_end 2 = .ok (.putfield 119, 3) := by decide +kernel
theorem dX11_end_5 : decode cX11_end 5 = .ok (.iload_n 1, 1) := by decide +kernel
theorem dX11_end_6 : decode cX11_end 6 = .ok (.ifCond .lt 11, 3) := by decide +kernel
theorem dX11_end_9 : decode cX11_end 9 = .ok (.iload_n 1, 1) := by decide +kernel
theorem dX11_end_10 : decode cX11_end 10 = .ok (.aload_n 0, 1) := by decide +kernel
theorem dX11_end_11 : decode cX11_end 11 = .ok (.getfield 132, 3) := by decide +kernel
theorem dX11_end_14 : decode cX11_end 14 = .ok (.if_icmp .le 5, 3) := by decide +kernel
theorem dX11_end_17 : decode cX11_end 17 = .ok (.iconst 0, 1) := by decide +kernel
theorem dX11_end_18 : decode cX11_end 18 = .ok (.ireturn, 1) := by decide +kernel
theorem dX11_end_19 : decode cX11_end 19 = .ok (.aload_n 0, 1) := by decide +kernel
theorem dX11_end_20 : decode cX11_end 20 = .ok (.iload_n 1, 1) := by decide +kernel
theorem dX11_end_21 : decode cX11_end 21 = .ok (.putfield 132, 3) := by decide +kernel
theorem dX11_end_24 : decode cX11_end 24 = .ok (.iconst 1, 1) := by decide +kernel
theorem dX11_end_25 : decode cX11_end 25 = .ok (.ireturn, 1) := by decide +kernel
theorem dX11_look_0 : decode cX11_look 0 = .ok (.aload_n 0, 1) := by decide +kernel
theorem dX11_look_1 : decode cX11_look 1 = .ok (.getfield 142, 3) := by decide +kernel
theorem dX11_look_4 : decode cX11_look 4 = .ok (.aload_n 0, 1) := by decide +kernel
theorem dX11_look_5 : decode cX11_look 5 = .ok (.getfield 145, 3) := by decide +kernel
theorem dX11_look_8 : decode cX11_look 8 = .ok (.if_icmp .ge 35, 3) := by decide +kernel
theorem dX11_look_11 : decode cX11_look 11 = .ok (.aload_n 0, 1) := by decide +kernel
theorem dX11_look_12 : decode cX11_look 12 = .ok (.getfield 23, 3) := by decide +kernel
theorem dX11_look_15 : decode cX11_look 15 = .ok (.aload_n 0, 1) := by decide +kernel
theorem dX11_look_16 : decode cX11_look 16 = .ok (.getfield 148, 3) := by decide +kernel
theorem dX11_look_19 : decode cX11_look 19 = .ok (.aload_n 0, 1) := by decide +kernel
theorem dX11_look_20 : decode cX11_look 20 = .ok (.getfield 142, 3) := by decide +kernel
theorem dX11_look_23 : decode cX11_look 23 = .ok (.iadd, 1) := by decide +kernel
theorem dX11_look_24 : decode cX11_look 24 = .ok (.baload, 1) := by decide +kernel
theorem dX11_look_25 : decode cX11_look 25 = .ok (.bipush 32, 2) := by decide +kernel
theorem dX11_look_27 : decode cX11_look 27 = .ok (.if_icmp .ne 16, 3) := by decide +kernel
theorem dX11_look_30 : decode cX11_look 30 = .ok (.aload_n 0, 1) := by decide +kernel
theorem dX11_look_31 : decode cX11_look 31 = .ok (.dup, 1) := by decide +kernel
theorem dX11_look_32 : decode cX11_look 32 = .ok (.getfield 142, 3) := by decide +kernel
theorem dX11_look_35 : decode cX11_look 35 = .ok (.iconst 1, 1) := by decide +kernel
theorem dX11_look_36 : decode cX11_look 36 = .ok (.iadd, 1) := by decide +kernel
theorem dX11_look_37 : decode cX11_look 37 = .ok (.putfield 142, 3) := by decide +kernel
theorem dX11_look_40 : decode cX11_look 40 = .ok (.goto (-40), 3) := by decide +kernel
theorem dX11_look_43 : decode cX11_look 43 = .ok (.aload_n 0, 1) := by decide +kernel
theorem dX11_look_44 : decode cX11_look 44 = .ok (.getfield 142, 3) := by decide +kernel
theorem dX11_look_47 : decode cX11_look 47 = .ok (.aload_n 0, 1) := by decide +kernel
theorem dX11_look_48 : decode cX11_look 48 = .ok (.getfield 145, 3) := by decide +kernel
theorem dX11_look_51 : decode cX11_look 51 = .ok (.if_icmp .ge 24, 3) := by decide +kernel
theorem dX11_look_54 : decode cX11_look 54 = .ok (.aload_n 0, 1) := by decide +kernel
theorem dX11_look_55 : decode cX11_look 55 = .ok (.getfield 23, 3) := by decide +kernel
theorem dX11_look_58 : decode cX11_look 58 = .ok (.aload_n 0, 1) := by decide +kernel
theorem dX11_look_59 : decode cX11_look 59 = .ok (.getfield 148, 3) := by decide +kernel
theorem dX11_look_62 : decode cX11_look 62 = .ok (.aload_n 0, 1) := by decide +kernel
theorem dX11_look_63 : decode cX11_look 63 = .ok (.getfield 142, 3) := by decide +kernel
theorem dX11_look_66 : decode cX11_look 66 = .ok (.iadd, 1) := by decide +kernel
theorem dX11_look_67 : decode cX11_look 67 = .ok (.baload, 1) := by decide +kernel
theorem dX11_look_68 : decode cX11_look 68 = .ok (.sipush 255, 3) := by decide +kernel
theorem dX11_look_71 : decode cX11_look 71 = .ok (.iand, 1) := by decide +kernel
theorem dX11_look_72 : decode cX11_look 72 = .ok (.goto 4, 3) := by decide +kernel
theorem dX11_look_75 : decode cX11_look 75 = .ok (.iconst (-1), 1) := by decide +kernel
theorem dX11_look_76 : decode cX11_look 76 = .ok (.ireturn, 1) := by decide +kernel
theorem dX11_fails_0 : decode cX11_fails 0 = .ok (.aload_n 0, 1) := by decide +kernel
theorem dX11_fails_1 : decode cX11_fails 1 = .ok (.getfield 151, 3) := by decide +kernel
theorem dX11_fails_4 : decode cX11_fails 4 = .ok (.iconst (-1), 1) := by decide +kernel
theorem dX11_fails_5 : decode cX11_fails 5 = .ok (.if_icmp .ne 11, 3) := by decide +kernel
theorem dX11_fails_8 : decode cX11_fails 8 = .ok (.aload_n 0, 1) := by decide +kernel
theorem dX11_fails_9 : decode cX11_fails 9 = .ok (.aload_n 0, 1) := by decide +kernel
theorem dX11_fails_10 : decode cX11_fails 10 = .ok (.getfield 142, 3) := by decide +kernel
theorem dX11_fails_13 : decode cX11_fails 13 = .ok (.putfield 151, 3) := by decide +kernel
theorem dX11_fails_16 : decode cX11_fails 16 = .ok (.iconst 0, 1) := by decide +kernel
theorem dX11_fails_17 : decode cX11_fails 17 = .ok (.ireturn, 1) := by decide +kernel
theorem dX11_goesIn_0 : decode cX11_goesIn 0 = .ok (.aload_n 0, 1) := by decide +kernel
theorem dX11_goesIn_1 : decode cX11_goesIn 1 = .ok (.getfield 154, 3) := by decide +kernel
theorem dX11_goesIn_4 : decode cX11_goesIn 4 = .ok (.bipush 6, 2) := by decide +kernel
theorem dX11_goesIn_6 : decode cX11_goesIn 6 = .ok (.if_icmp .ne 8, 3) := by decide +kernel
theorem dX11_goesIn_9 : decode cX11_goesIn 9 = .ok (.aload_n 0, 1) := by decide +kernel
theorem dX11_goesIn_10 : decode cX11_goesIn 10 = .ok (.invokevirtual 157, 3) := by decide +kernel
theorem dX11_goesIn_13 : decode cX11_goesIn 13 = .ok (.ireturn, 1) := by decide +kernel
theorem dX11_goesIn_14 : decode cX11_goesIn 14 = .ok (.aload_n 0, 1) := by decide +kernel
theorem dX11_goesIn_15 : decode cX11_goesIn 15 = .ok (.dup, 1) := by decide +kernel
theorem dX11_goesIn_16 : decode cX11_goesIn 16 = .ok (.getfield 154, 3) := by decide +kernel
theorem dX11_goesIn_19 : decode cX11_goesIn 19 = .ok (.iconst 1, 1) := by decide +kernel
theorem dX11_goesIn_20 : decode cX11_goesIn 20 = .ok (.iadd, 1) := by decide +kernel
theorem dX11_goesIn_21 : decode cX11_goesIn 21 = .ok (.putfield 154, 3) := by decide +kernel
theorem dX11_goesIn_24 : decode cX11_goesIn 24 = .ok (.aload_n 0, 1) := by decide +kernel
theorem dX11_goesIn_25 : decode cX11_goesIn 25 = .ok (.dup, 1) := by decide +kernel
theorem dX11_goesIn_26 : decode cX11_goesIn 26 = .ok (.getfield 142, 3) := by decide +kernel
theorem dX11_goesIn_29 : decode cX11_goesIn 29 = .ok (.iconst 1, 1) := by decide +kernel
theorem dX11_goesIn_30 : decode cX11_goesIn 30 = .ok (.iadd, 1) := by decide +kernel
theorem dX11_goesIn_31 : decode cX11_goesIn 31 = .ok (.putfield 142, 3) := by decide +kernel
theorem dX11_goesIn_34 : decode cX11_goesIn 34 = .ok (.iconst 1, 1) := by decide +kernel
theorem dX11_goesIn_35 : decode cX11_goesIn 35 = .ok (.ireturn, 1) := by decide +kernel
theorem dX11_takes_0 : decode cX11_takes 0 = .ok (.aload_n 0, 1) := by decide +kernel
theorem dX11_takes_1 : decode cX11_takes 1 = .ok (.getfield 151, 3) := by decide +kernel
theorem dX11_takes_4 : decode cX11_takes 4 = .ok (.iconst (-1), 1) := by decide +kernel
theorem dX11_takes_5 : decode cX11_takes 5 = .ok (.if_icmp .ne 11, 3) := by decide +kernel
theorem dX11_takes_8 : decode cX11_takes 8 = .ok (.aload_n 0, 1) := by decide +kernel
theorem dX11_takes_9 : decode cX11_takes 9 = .ok (.invokevirtual 161, 3) := by decide +kernel
theorem dX11_takes_12 : decode cX11_takes 12 = .ok (.iload_n 1, 1) := by decide +kernel
theorem dX11_takes_13 : decode cX11_takes 13 = .ok (.if_icmp .eq 8, 3) := by decide +kernel
theorem dX11_takes_16 : decode cX11_takes 16 = .ok (.aload_n 0, 1) := by decide +kernel
theorem dX11_takes_17 : decode cX11_takes 17 = .ok (.invokevirtual 157, 3) := by decide +kernel
theorem dX11_takes_20 : decode cX11_takes 20 = .ok (.ireturn, 1) := by decide +kernel
theorem dX11_takes_21 : decode cX11_takes 21 = .ok (.aload_n 0, 1) := by decide +kernel
theorem dX11_takes_22 : decode cX11_takes 22 = .ok (.dup, 1) := by decide +kernel
theorem dX11_takes_23 : decode cX11_takes 23 = .ok (.getfield 142, 3) := by decide +kernel
theorem dX11_takes_26 : decode cX11_takes 26 = .ok (.iconst 1, 1) := by decide +kernel
theorem dX11_takes_27 : decode cX11_takes 27 = .ok (.iadd, 1) := by decide +kernel
theorem dX11_takes_28 : decode cX11_takes 28 = .ok (.putfield 142, 3) := by decide +kernel
theorem dX11_takes_31 : decode cX11_takes 31 = .ok (.iconst 1, 1) := by decide +kernel
theorem dX11_takes_32 : decode cX11_takes 32 = .ok (.ireturn, 1) := by decide +kernel
theorem dX11_isDigit_0 : decode cX11_isDigit 0 = .ok (.aload_n 0, 1) := by decide +kernel
theorem dX11_isDigit_1 : decode cX11_isDigit 1 = .ok (.getfield 142, 3) := by decide +kernel
theorem dX11_isDigit_4 : decode cX11_isDigit 4 = .ok (.aload_n 0, 1) := by decide +kernel
theorem dX11_isDigit_5 : decode cX11_isDigit 5 = .ok (.getfield 145, 3) := by decide +kernel
theorem dX11_isDigit_8 : decode cX11_isDigit 8 = .ok (.if_icmp .ge 45, 3) := by decide +kernel
theorem dX11_isDigit_11 : decode cX11_isDigit 11 = .ok (.aload_n 0, 1) := by decide +kernel
theorem dX11_isDigit_12 : decode cX11_isDigit 12 = .ok (.getfield 23, 3) := by decide +kernel
theorem dX11_isDigit_15 : decode cX11_isDigit 15 = .ok (.aload_n 0, 1) := by decide +kernel
theorem dX11_isDigit_16 : decode cX11_isDigit 16 = .ok (.getfield 148, 3) := by decide +kernel
theorem dX11_isDigit_19 : decode cX11_isDigit 19 = .ok (.aload_n 0, 1) := by decide +kernel
theorem dX11_isDigit_20 : decode cX11_isDigit 20 = .ok (.getfield 142, 3) := by decide +kernel
theorem dX11_isDigit_23 : decode cX11_isDigit 23 = .ok (.iadd, 1) := by decide +kernel
theorem dX11_isDigit_24 : decode cX11_isDigit 24 = .ok (.baload, 1) := by decide +kernel
theorem dX11_isDigit_25 : decode cX11_isDigit 25 = .ok (.bipush 48, 2) := by decide +kernel
theorem dX11_isDigit_27 : decode cX11_isDigit 27 = .ok (.if_icmp .lt 26, 3) := by decide +kernel
theorem dX11_isDigit_30 : decode cX11_isDigit 30 = .ok (.aload_n 0, 1) := by decide +kernel
theorem dX11_isDigit_31 : decode cX11_isDigit 31 = .ok (.getfield 23, 3) := by decide +kernel
theorem dX11_isDigit_34 : decode cX11_isDigit 34 = .ok (.aload_n 0, 1) := by decide +kernel
theorem dX11_isDigit_35 : decode cX11_isDigit 35 = .ok (.getfield 148, 3) := by decide +kernel
theorem dX11_isDigit_38 : decode cX11_isDigit 38 = .ok (.aload_n 0, 1) := by decide +kernel
theorem dX11_isDigit_39 : decode cX11_isDigit 39 = .ok (.getfield 142, 3) := by decide +kernel
theorem dX11_isDigit_42 : decode cX11_isDigit 42 = .ok (.iadd, 1) := by decide +kernel
theorem dX11_isDigit_43 : decode cX11_isDigit 43 = .ok (.baload, 1) := by decide +kernel
theorem dX11_isDigit_44 : decode cX11_isDigit 44 = .ok (.bipush 57, 2) := by decide +kernel
theorem dX11_isDigit_46 : decode cX11_isDigit 46 = .ok (.if_icmp .gt 7, 3) := by decide +kernel
theorem dX11_isDigit_49 : decode cX11_isDigit 49 = .ok (.iconst 1, 1) := by decide +kernel
theorem dX11_isDigit_50 : decode cX11_isDigit 50 = .ok (.goto 4, 3) := by decide +kernel
theorem dX11_isDigit_53 : decode cX11_isDigit 53 = .ok (.iconst 0, 1) := by decide +kernel
theorem dX11_isDigit_54 : decode cX11_isDigit 54 = .ok (.ireturn, 1) := by decide +kernel
theorem dX11_within_0 : decode cX11_within 0 = .ok (.ldc2_w 164, 3) := by decide +kernel
theorem dX11_within_3 : decode cX11_within 3 = .ok (.ldc2_w 166, 3) := by decide +kernel
theorem dX11_within_6 : decode cX11_within 6 = .ok (.lload_n 0, 1) := by decide +kernel
theorem dX11_within_7 : decode cX11_within 7 = .ok (.invokestatic 168, 3) := by decide +kernel
theorem dX11_within_10 : decode cX11_within 10 = .ok (.invokestatic 174, 3) := by decide +kernel
theorem dX11_within_13 : decode cX11_within 13 = .ok (.l2i, 1) := by decide +kernel
theorem dX11_within_14 : decode cX11_within 14 = .ok (.ireturn, 1) := by decide +kernel
theorem dX11_atom_0 : decode cX11_atom 0 = .ok (.aload_n 0, 1) := by decide +kernel
theorem dX11_atom_1 : decode cX11_atom 1 = .ok (.invokevirtual 161, 3) := by decide +kernel
theorem dX11_atom_4 : decode cX11_atom 4 = .ok (.istore_n 1, 1) := by decide +kernel
theorem dX11_atom_5 : decode cX11_atom 5 = .ok (.ldc 32, 2) := by decide +kernel
theorem dX11_atom_7 : decode cX11_atom 7 = .ok (.iload_n 1, 1) := by decide +kernel
theorem dX11_atom_8 : decode cX11_atom 8 = .ok (.invokestatic 177, 3) := by decide +kernel
theorem dX11_atom_11 : decode cX11_atom 11 = .ok (.ifCond .eq 20, 3) := by decide +kernel
theorem dX11_atom_14 : decode cX11_atom 14 = .ok (.aload_n 0, 1) := by decide +kernel
theorem dX11_atom_15 : decode cX11_atom 15 = .ok (.dup, 1) := by decide +kernel
theorem dX11_atom_16 : decode cX11_atom 16 = .ok (.getfield 142, 3) := by decide +kernel
theorem dX11_atom_19 : decode cX11_atom 19 = .ok (.iconst 1, 1) := by decide +kernel
theorem dX11_atom_20 : decode cX11_atom 20 = .ok (.iadd, 1) := by decide +kernel
theorem dX11_atom_21 : decode cX11_atom 21 = .ok (.putfield 142, 3) := by decide +kernel
theorem dX11_atom_24 : decode cX11_atom 24 = .ok (.aload_n 0, 1) := by decide +kernel
theorem dX11_atom_25 : decode cX11_atom 25 = .ok (.getfield 20, 3) := by decide +kernel
theorem dX11_atom_28 : decode cX11_atom 28 = .ok (.iload_n 1, 1) := by decide +kernel
theorem dX11_atom_29 : decode cX11_atom 29 = .ok (.iaload, 1) := by decide +kernel
theorem dX11_atom_30 : decode cX11_atom 30 = .ok (.ireturn, 1) := by decide +kernel
theorem dX11_atom_31 : decode cX11_atom 31 = .ok (.iload_n 1, 1) := by decide +kernel
theorem dX11_atom_32 : decode cX11_atom 32 = .ok (.bipush 91, 2) := by decide +kernel
theorem dX11_atom_34 : decode cX11_atom 34 = .ok (.if_icmp .ne 40, 3) := by decide +kernel
theorem dX11_atom_37 : decode cX11_atom 37 = .ok (.aload_n 0, 1) := by decide +kernel
theorem dX11_atom_38 : decode cX11_atom 38 = .ok (.invokevirtual 181, 3) := by decide +kernel
theorem dX11_atom_41 : decode cX11_atom 41 = .ok (.ifCond .ne 5, 3) := by decide +kernel
theorem dX11_atom_44 : decode cX11_atom 44 = .ok (.iconst 0, 1) := by decide +kernel
theorem dX11_atom_45 : decode cX11_atom 45 = .ok (.ireturn, 1) := by decide +kernel
theorem dX11_atom_46 : decode cX11_atom 46 = .ok (.aload_n 0, 1) := by decide +kernel
theorem dX11_atom_47 : decode cX11_atom 47 = .ok (.invokevirtual 184, 3) := by decide +kernel
theorem dX11_atom_50 : decode cX11_atom 50 = .ok (.istore_n 2, 1) := by decide +kernel
theorem dX11_atom_51 : decode cX11_atom 51 = .ok (.aload_n 0, 1) := by decide +kernel
theorem dX11_atom_52 : decode cX11_atom 52 = .ok (.bipush 93, 2) := by decide +kernel
theorem dX11_atom_54 : decode cX11_atom 54 = .ok (.invokevirtual 187, 3) := by decide +kernel
theorem dX11_atom_57 : decode cX11_atom 57 = .ok (.ifCond .ne 5, 3) := by decide +kernel
theorem dX11_atom_60 : decode cX11_atom 60 = .ok (.iconst 0, 1) := by decide +kernel
theorem dX11_atom_61 : decode cX11_atom 61 = .ok (.ireturn, 1) := by decide +kernel
theorem dX11_atom_62 : decode cX11_atom 62 = .ok (.aload_n 0, 1) := by decide +kernel
theorem dX11_atom_63 : decode cX11_atom 63 = .ok (.dup, 1) := by decide +kernel
theorem dX11_atom_64 : decode cX11_atom 64 = .ok (.getfield 154, 3) := by decide +kernel
theorem dX11_atom_67 : decode cX11_atom 67 = .ok (.iconst 1, 1) := by decide +kernel
theorem dX11_atom_68 : decode cX11_atom 68 = .ok (.isub, 1) := by decide +kernel
theorem dX11_atom_69 : decode cX11_atom 69 = .ok (.putfield 154, 3) := by decide +kernel
theorem dX11_atom_72 : decode cX11_atom 72 = .ok (.iload_n 2, 1) := by decide +kernel
theorem dX11_atom_73 : decode cX11_atom 73 = .ok (.ireturn, 1) := by decide +kernel
theorem dX11_atom_74 : decode cX11_atom 74 = .ok (.aload_n 0, 1) := by decide +kernel
theorem dX11_atom_75 : decode cX11_atom 75 = .ok (.invokevirtual 191, 3) := by decide +kernel
theorem dX11_atom_78 : decode cX11_atom 78 = .ok (.ifCond .ne 8, 3) := by decide +kernel
theorem dX11_atom_81 : decode cX11_atom 81 = .ok (.aload_n 0, 1) := by decide +kernel
theorem dX11_atom_82 : decode cX11_atom 82 = .ok (.invokevirtual 157, 3) := by decide +kernel
theorem dX11_atom_85 : decode cX11_atom 85 = .ok (.pop, 1) := by decide +kernel
theorem dX11_atom_86 : decode cX11_atom 86 = .ok (.iconst 0, 1) := by decide +kernel
theorem dX11_atom_87 : decode cX11_atom 87 = .ok (.istore_n 2, 1) := by decide +kernel
theorem dX11_atom_88 : decode cX11_atom 88 = .ok (.iconst 0, 1) := by decide +kernel
theorem dX11_atom_89 : decode cX11_atom 89 = .ok (.istore_n 3, 1) := by decide +kernel
theorem dX11_atom_90 : decode cX11_atom 90 = .ok (.aload_n 0, 1) := by decide +kernel
theorem dX11_atom_91 : decode cX11_atom 91 = .ok (.invokevirtual 191, 3) := by decide +kernel
theorem dX11_atom_94 : decode cX11_atom 94 = .ok (.ifCond .eq 62, 3) := by decide +kernel
theorem dX11_atom_97 : decode cX11_atom 97 = .ok (.aload_n 0, 1) := by decide +kernel
theorem dX11_atom_98 : decode cX11_atom 98 = .ok (.getfield 151, 3) := by decide +kernel
theorem dX11_atom_101 : decode cX11_atom 101 = .ok (.iconst (-1), 1) := by decide +kernel
theorem dX11_atom_102 : decode cX11_atom 102 = .ok (.if_icmp .ne 54, 3) := by decide +kernel
theorem dX11_atom_105 : decode cX11_atom 105 = .ok (.iload_n 3, 1) := by decide +kernel
theorem dX11_atom_106 : decode cX11_atom 106 = .ok (.iconst 4, 1) := by decide +kernel
theorem dX11_atom_107 : decode cX11_atom 107 = .ok (.if_icmp .ne 10, 3) := by decide +kernel
theorem dX11_atom_110 : decode cX11_atom 110 = .ok (.aload_n 0, 1) := by decide +kernel
theorem dX11_atom_111 : decode cX11_atom 111 = .ok (.invokevirtual 157, 3) := by decide +kernel
theorem dX11_atom_114 : decode cX11_atom 114 = .ok (.pop, 1) := by decide +kernel
theorem dX11_atom_115 : decode cX11_atom 115 = .ok (.iconst 0, 1) := by decide +kernel
theorem dX11_atom_116 : decode cX11_atom 116 = .ok (.ireturn, 1) := by decide +kernel
theorem dX11_atom_117 : decode cX11_atom 117 = .ok (.bipush 10, 2) := by decide +kernel
theorem dX11_atom_119 : decode cX11_atom 119 = .ok (.iload_n 2, 1) := by decide +kernel
theorem dX11_atom_120 : decode cX11_atom 120 = .ok (.imul, 1) := by decide +kernel
theorem dX11_atom_121 : decode cX11_atom 121 = .ok (.aload_n 0, 1) := by decide +kernel
theorem dX11_atom_122 : decode cX11_atom 122 = .ok (.getfield 23, 3) := by decide +kernel
theorem dX11_atom_125 : decode cX11_atom 125 = .ok (.aload_n 0, 1) := by decide +kernel
theorem dX11_atom_126 : decode cX11_atom 126 = .ok (.getfield 148, 3) := by decide +kernel
theorem dX11_atom_129 : decode cX11_atom 129 = .ok (.aload_n 0, 1) := by decide +kernel
theorem dX11_atom_130 : decode cX11_atom 130 = .ok (.getfield 142, 3) := by decide +kernel
theorem dX11_atom_133 : decode cX11_atom 133 = .ok (.iadd, 1) := by decide +kernel
theorem dX11_atom_134 : decode cX11_atom 134 = .ok (.baload, 1) := by decide +kernel
theorem dX11_atom_135 : decode cX11_atom 135 = .ok (.iadd, 1) := by decide +kernel
theorem dX11_atom_136 : decode cX11_atom 136 = .ok (.bipush 48, 2) := by decide +kernel
theorem dX11_atom_138 : decode cX11_atom 138 = .ok (.isub, 1) := by decide +kernel
theorem dX11_atom_139 : decode cX11_atom 139 = .ok (.istore_n 2, 1) := by decide +kernel
theorem dX11_atom_140 : decode cX11_atom 140 = .ok (.aload_n 0, 1) := by decide +kernel
theorem dX11_atom_141 : decode cX11_atom 141 = .ok (.dup, 1) := by decide +kernel
theorem dX11_atom_142 : decode cX11_atom 142 = .ok (.getfield 142, 3) := by decide +kernel
theorem dX11_atom_145 : decode cX11_atom 145 = .ok (.iconst 1, 1) := by decide +kernel
theorem dX11_atom_146 : decode cX11_atom 146 = .ok (.iadd, 1) := by decide +kernel
theorem dX11_atom_147 : decode cX11_atom 147 = .ok (.putfield 142, 3) := by decide +kernel
theorem dX11_atom_150 : decode cX11_atom 150 = .ok (.iinc 3 1, 3) := by decide +kernel
theorem dX11_atom_153 : decode cX11_atom 153 = .ok (.goto (-63), 3) := by decide +kernel
theorem dX11_atom_156 : decode cX11_atom 156 = .ok (.iload_n 2, 1) := by decide +kernel
theorem dX11_atom_157 : decode cX11_atom 157 = .ok (.ireturn, 1) := by decide +kernel
theorem dX11_term_0 : decode cX11_term 0 = .ok (.aload_n 0, 1) := by decide +kernel
theorem dX11_term_1 : decode cX11_term 1 = .ok (.invokevirtual 194, 3) := by decide +kernel
theorem dX11_term_4 : decode cX11_term 4 = .ok (.istore_n 1, 1) := by decide +kernel
theorem dX11_term_5 : decode cX11_term 5 = .ok (.aload_n 0, 1) := by decide +kernel
theorem dX11_term_6 : decode cX11_term 6 = .ok (.getfield 151, 3) := by decide +kernel
theorem dX11_term_9 : decode cX11_term 9 = .ok (.iconst (-1), 1) := by decide +kernel
theorem dX11_term_10 : decode cX11_term 10 = .ok (.if_icmp .ne 84, 3) := by decide +kernel
theorem dX11_term_13 : decode cX11_term 13 = .ok (.aload_n 0, 1) := by decide +kernel
theorem dX11_term_14 : decode cX11_term 14 = .ok (.invokevirtual 161, 3) := by decide +kernel
theorem dX11_term_17 : decode cX11_term 17 = .ok (.bipush 42, 2) := by decide +kernel
theorem dX11_term_19 : decode cX11_term 19 = .ok (.if_icmp .eq 12, 3) := by decide +kernel
theorem dX11_term_22 : decode cX11_term 22 = .ok (.aload_n 0, 1) := by decide +kernel
theorem dX11_term_23 : decode cX11_term 23 = .ok (.invokevirtual 161, 3) := by decide +kernel
theorem dX11_term_26 : decode cX11_term 26 = .ok (.bipush 47, 2) := by decide +kernel
theorem dX11_term_28 : decode cX11_term 28 = .ok (.if_icmp .ne 66, 3) := by decide +kernel
theorem dX11_term_31 : decode cX11_term 31 = .ok (.aload_n 0, 1) := by decide +kernel
theorem dX11_term_32 : decode cX11_term 32 = .ok (.invokevirtual 161, 3) := by decide +kernel
theorem dX11_term_35 : decode cX11_term 35 = .ok (.bipush 42, 2) := by decide +kernel
theorem dX11_term_37 : decode cX11_term 37 = .ok (.if_icmp .ne 7, 3) := by decide +kernel
theorem dX11_term_40 : decode cX11_term 40 = .ok (.iconst 1, 1) := by decide +kernel
theorem dX11_term_41 : decode cX11_term 41 = .ok (.goto 4, 3) := by decide +kernel
theorem dX11_term_44 : decode cX11_term 44 = .ok (.iconst 0, 1) := by decide +kernel
theorem dX11_term_45 : decode cX11_term 45 = .ok (.istore_n 2, 1) := by decide +kernel
theorem dX11_term_46 : decode cX11_term 46 = .ok (.aload_n 0, 1) := by decide +kernel
theorem dX11_term_47 : decode cX11_term 47 = .ok (.dup, 1) := by decide +kernel
theorem dX11_term_48 : decode cX11_term 48 = .ok (.getfield 142, 3) := by decide +kernel
theorem dX11_term_51 : decode cX11_term 51 = .ok (.iconst 1, 1) := by decide +kernel
theorem dX11_term_52 : decode cX11_term 52 = .ok (.iadd, 1) := by decide +kernel
theorem dX11_term_53 : decode cX11_term 53 = .ok (.putfield 142, 3) := by decide +kernel
theorem dX11_term_56 : decode cX11_term 56 = .ok (.aload_n 0, 1) := by decide +kernel
theorem dX11_term_57 : decode cX11_term 57 = .ok (.invokevirtual 194, 3) := by decide +kernel
theorem dX11_term_60 : decode cX11_term 60 = .ok (.i2l, 1) := by decide +kernel
theorem dX11_term_61 : decode cX11_term 61 = .ok (.lstore_n 3, 1) := by decide +kernel
theorem dX11_term_62 : decode cX11_term 62 = .ok (.iload_n 2, 1) := by decide +kernel
theorem dX11_term_63 : decode cX11_term 63 = .ok (.ifCond .eq 10, 3) := by decide +kernel
theorem dX11_term_66 : decode cX11_term 66 = .ok (.iload_n 1, 1) := by decide +kernel
theorem dX11_term_67 : decode cX11_term 67 = .ok (.i2l, 1) := by decide +kernel
theorem dX11_term_68 : decode cX11_term 68 = .ok (.lload_n 3, 1) := by decide +kernel
theorem dX11_term_69 : decode cX11_term 69 = .ok (.lmul, 1) := by decide +kernel
theorem dX11_term_70 : decode cX11_term 70 = .ok (.goto 17, 3) := by decide +kernel
theorem dX11_term_73 : decode cX11_term 73 = .ok (.lload_n 3, 1) := by decide +kernel
theorem dX11_term_74 : decode cX11_term 74 = .ok (.lconst 0, 1) := by decide +kernel
theorem dX11_term_75 : decode cX11_term 75 = .ok (.lcmp, 1) := by decide +kernel
theorem dX11_term_76 : decode cX11_term 76 = .ok (.ifCond .ne 7, 3) := by decide +kernel
theorem dX11_term_79 : decode cX11_term 79 = .ok (.lconst 0, 1) := by decide +kernel
theorem dX11_term_80 : decode cX11_term 80 = .ok (.goto 7, 3) := by decide +kernel
theorem dX11_term_83 : decode cX11_term 83 = .ok (.iload_n 1, 1) := by decide +kernel
theorem dX11_term_84 : decode cX11_term 84 = .ok (.i2l, 1) := by decide +kernel
theorem dX11_term_85 : decode cX11_term 85 = .ok (.lload_n 3, 1) := by decide +kernel
theorem dX11_term_86 : decode cX11_term 86 = .ok (.ldiv, 1) := by decide +kernel
theorem dX11_term_87 : decode cX11_term 87 = .ok (.invokestatic 197, 3) := by decide +kernel
theorem dX11_term_90 : decode cX11_term 90 = .ok (.istore_n 1, 1) := by decide +kernel
theorem dX11_term_91 : decode cX11_term 91 = .ok (.goto (-86), 3) := by decide +kernel
theorem dX11_term_94 : decode cX11_term 94 = .ok (.iload_n 1, 1) := by decide +kernel
theorem dX11_term_95 : decode cX11_term 95 = .ok (.ireturn, 1) := by decide +kernel
theorem dX11_sum_0 : decode cX11_sum 0 = .ok (.aload_n 0, 1) := by decide +kernel
theorem dX11_sum_1 : decode cX11_sum 1 = .ok (.invokevirtual 201, 3) := by decide +kernel
theorem dX11_sum_4 : decode cX11_sum 4 = .ok (.istore_n 1, 1) := by decide +kernel
theorem dX11_sum_5 : decode cX11_sum 5 = .ok (.aload_n 0, 1) := by decide +kernel
theorem dX11_sum_6 : decode cX11_sum 6 = .ok (.getfield 151, 3) := by decide +kernel
theorem dX11_sum_9 : decode cX11_sum 9 = .ok (.iconst (-1), 1) := by decide +kernel
theorem dX11_sum_10 : decode cX11_sum 10 = .ok (.if_icmp .ne 74, 3) := by decide +kernel
theorem dX11_sum_13 : decode cX11_sum 13 = .ok (.aload_n 0, 1) := by decide +kernel
theorem dX11_sum_14 : decode cX11_sum 14 = .ok (.invokevirtual 161, 3) := by decide +kernel
theorem dX11_sum_17 : decode cX11_sum 17 = .ok (.bipush 43, 2) := by decide +kernel
theorem dX11_sum_19 : decode cX11_sum 19 = .ok (.if_icmp .eq 12, 3) := by decide +kernel
theorem dX11_sum_22 : decode cX11_sum 22 = .ok (.aload_n 0, 1) := by decide +kernel
theorem dX11_sum_23 : decode cX11_sum 23 = .ok (.invokevirtual 161, 3) := by decide +kernel
theorem dX11_sum_26 : decode cX11_sum 26 = .ok (.bipush 45, 2) := by decide +kernel
theorem dX11_sum_28 : decode cX11_sum 28 = .ok (.if_icmp .ne 56, 3) := by decide +kernel
theorem dX11_sum_31 : decode cX11_sum 31 = .ok (.aload_n 0, 1) := by decide +kernel
theorem dX11_sum_32 : decode cX11_sum 32 = .ok (.invokevirtual 161, 3) := by decide +kernel
theorem dX11_sum_35 : decode cX11_sum 35 = .ok (.bipush 43, 2) := by decide +kernel
theorem dX11_sum_37 : decode cX11_sum 37 = .ok (.if_icmp .ne 7, 3) := by decide +kernel
theorem dX11_sum_40 : decode cX11_sum 40 = .ok (.iconst 1, 1) := by decide +kernel
theorem dX11_sum_41 : decode cX11_sum 41 = .ok (.goto 4, 3) := by decide +kernel
theorem dX11_sum_44 : decode cX11_sum 44 = .ok (.iconst 0, 1) := by decide +kernel
theorem dX11_sum_45 : decode cX11_sum 45 = .ok (.istore_n 2, 1) := by decide +kernel
theorem dX11_sum_46 : decode cX11_sum 46 = .ok (.aload_n 0, 1) := by decide +kernel
theorem dX11_sum_47 : decode cX11_sum 47 = .ok (.dup, 1) := by decide +kernel
theorem dX11_sum_48 : decode cX11_sum 48 = .ok (.getfield 142, 3) := by decide +kernel
theorem dX11_sum_51 : decode cX11_sum 51 = .ok (.iconst 1, 1) := by decide +kernel
theorem dX11_sum_52 : decode cX11_sum 52 = .ok (.iadd, 1) := by decide +kernel
theorem dX11_sum_53 : decode cX11_sum 53 = .ok (.putfield 142, 3) := by decide +kernel
theorem dX11_sum_56 : decode cX11_sum 56 = .ok (.aload_n 0, 1) := by decide +kernel
theorem dX11_sum_57 : decode cX11_sum 57 = .ok (.invokevirtual 201, 3) := by decide +kernel
theorem dX11_sum_60 : decode cX11_sum 60 = .ok (.i2l, 1) := by decide +kernel
theorem dX11_sum_61 : decode cX11_sum 61 = .ok (.lstore_n 3, 1) := by decide +kernel
theorem dX11_sum_62 : decode cX11_sum 62 = .ok (.iload_n 2, 1) := by decide +kernel
theorem dX11_sum_63 : decode cX11_sum 63 = .ok (.ifCond .eq 10, 3) := by decide +kernel
theorem dX11_sum_66 : decode cX11_sum 66 = .ok (.iload_n 1, 1) := by decide +kernel
theorem dX11_sum_67 : decode cX11_sum 67 = .ok (.i2l, 1) := by decide +kernel
theorem dX11_sum_68 : decode cX11_sum 68 = .ok (.lload_n 3, 1) := by decide +kernel
theorem dX11_sum_69 : decode cX11_sum 69 = .ok (.ladd, 1) := by decide +kernel
theorem dX11_sum_70 : decode cX11_sum 70 = .ok (.goto 7, 3) := by decide +kernel
theorem dX11_sum_73 : decode cX11_sum 73 = .ok (.iload_n 1, 1) := by decide +kernel
theorem dX11_sum_74 : decode cX11_sum 74 = .ok (.i2l, 1) := by decide +kernel
theorem dX11_sum_75 : decode cX11_sum 75 = .ok (.lload_n 3, 1) := by decide +kernel
theorem dX11_sum_76 : decode cX11_sum 76 = .ok (.lsub, 1) := by decide +kernel
theorem dX11_sum_77 : decode cX11_sum 77 = .ok (.invokestatic 197, 3) := by decide +kernel
theorem dX11_sum_80 : decode cX11_sum 80 = .ok (.istore_n 1, 1) := by decide +kernel
theorem dX11_sum_81 : decode cX11_sum 81 = .ok (.goto (-76), 3) := by decide +kernel
theorem dX11_sum_84 : decode cX11_sum 84 = .ok (.iload_n 1, 1) := by decide +kernel
theorem dX11_sum_85 : decode cX11_sum 85 = .ok (.ireturn, 1) := by decide +kernel
theorem dX11_isSign_0 : decode cX11_isSign 0 = .ok (.iload_n 0, 1) := by decide +kernel
theorem dX11_isSign_1 : decode cX11_isSign 1 = .ok (.bipush 61, 2) := by decide +kernel
theorem dX11_isSign_3 : decode cX11_isSign 3 = .ok (.if_icmp .eq 15, 3) := by decide +kernel
theorem dX11_isSign_6 : decode cX11_isSign 6 = .ok (.iload_n 0, 1) := by decide +kernel
theorem dX11_isSign_7 : decode cX11_isSign 7 = .ok (.bipush 60, 2) := by decide +kernel
theorem dX11_isSign_9 : decode cX11_isSign 9 = .ok (.if_icmp .eq 9, 3) := by decide +kernel
theorem dX11_isSign_12 : decode cX11_isSign 12 = .ok (.iload_n 0, 1) := by decide +kernel
theorem dX11_isSign_13 : decode cX11_isSign 13 = .ok (.bipush 62, 2) := by decide +kernel
theorem dX11_isSign_15 : decode cX11_isSign 15 = .ok (.if_icmp .ne 7, 3) := by decide +kernel
theorem dX11_isSign_18 : decode cX11_isSign 18 = .ok (.iconst 1, 1) := by decide +kernel
theorem dX11_isSign_19 : decode cX11_isSign 19 = .ok (.goto 4, 3) := by decide +kernel
theorem dX11_isSign_22 : decode cX11_isSign 22 = .ok (.iconst 0, 1) := by decide +kernel
theorem dX11_isSign_23 : decode cX11_isSign 23 = .ok (.ireturn, 1) := by decide +kernel
theorem dX11_compares_0 : decode cX11_compares 0 = .ok (.iload_n 1, 1) := by decide +kernel
theorem dX11_compares_1 : decode cX11_compares 1 = .ok (.ifCond .eq 7, 3) := by decide +kernel
theorem dX11_compares_4 : decode cX11_compares 4 = .ok (.iload_n 2, 1) := by decide +kernel
theorem dX11_compares_5 : decode cX11_compares 5 = .ok (.goto 7, 3) := by decide +kernel
theorem dX11_compares_8 : decode cX11_compares 8 = .ok (.aload_n 0, 1) := by decide +kernel
theorem dX11_compares_9 : decode cX11_compares 9 = .ok (.invokevirtual 184, 3) := by decide +kernel
theorem dX11_compares_12 : decode cX11_compares 12 = .ok (.istore_n 3, 1) := by decide +kernel
theorem dX11_compares_13 : decode cX11_compares 13 = .ok (.aload_n 0, 1) := by decide +kernel
theorem dX11_compares_14 : decode cX11_compares 14 = .ok (.getfield 151, 3) := by decide +kernel
theorem dX11_compares_17 : decode cX11_compares 17 = .ok (.iconst (-1), 1) := by decide +kernel
theorem dX11_compares_18 : decode cX11_compares 18 = .ok (.if_icmp .eq 5, 3) := by decide +kernel
theorem dX11_compares_21 : decode cX11_compares 21 = .ok (.iconst 0, 1) := by decide +kernel
theorem dX11_compares_22 : decode cX11_compares 22 = .ok (.ireturn, 1) := by decide +kernel
theorem dX11_compares_23 : decode cX11_compares 23 = .ok (.aload_n 0, 1) := by decide +kernel
theorem dX11_compares_24 : decode cX11_compares 24 = .ok (.invokevirtual 161, 3) := by decide +kernel
theorem dX11_compares_27 : decode cX11_compares 27 = .ok (.istore 4, 2) := by decide +kernel
theorem dX11_compares_29 : decode cX11_compares 29 = .ok (.iload 4, 2) := by decide +kernel
theorem dX11_compares_31 : decode cX11_compares 31 = .ok (.invokestatic 204, 3) := by decide +kernel
theorem dX11_compares_34 : decode cX11_compares 34 = .ok (.ifCond .ne 8, 3) := by decide +kernel
theorem dX11_compares_37 : decode cX11_compares 37 = .ok (.aload_n 0, 1) := by decide +kernel
theorem dX11_compares_38 : decode cX11_compares 38 = .ok (.invokevirtual 157, 3) := by decide +kernel
theorem dX11_compares_41 : decode cX11_compares 41 = .ok (.ireturn, 1) := by decide +kernel
theorem dX11_compares_42 : decode cX11_compares 42 = .ok (.aload_n 0, 1) := by decide +kernel
theorem dX11_compares_43 : decode cX11_compares 43 = .ok (.dup, 1) := by decide +kernel
theorem dX11_compares_44 : decode cX11_compares 44 = .ok (.getfield 142, 3) := by decide +kernel
theorem dX11_compares_47 : decode cX11_compares 47 = .ok (.iconst 1, 1) := by decide +kernel
theorem dX11_compares_48 : decode cX11_compares 48 = .ok (.iadd, 1) := by decide +kernel
theorem dX11_compares_49 : decode cX11_compares 49 = .ok (.putfield 142, 3) := by decide +kernel
theorem dX11_compares_52 : decode cX11_compares 52 = .ok (.aload_n 0, 1) := by decide +kernel
theorem dX11_compares_53 : decode cX11_compares 53 = .ok (.invokevirtual 184, 3) := by decide +kernel
theorem dX11_compares_56 : decode cX11_compares 56 = .ok (.istore 5, 2) := by decide +kernel
theorem dX11_compares_58 : decode cX11_compares 58 = .ok (.iload 4, 2) := by decide +kernel
theorem dX11_compares_60 : decode cX11_compares 60 = .ok (.bipush 61, 2) := by decide +kernel
theorem dX11_compares_62 : decode cX11_compares 62 = .ok (.if_icmp .ne 17, 3) := by decide +kernel
theorem dX11_compares_65 : decode cX11_compares 65 = .ok (.iload_n 3, 1) := by decide +kernel
theorem dX11_compares_66 : decode cX11_compares 66 = .ok (.iload 5, 2) := by decide +kernel
theorem dX11_compares_68 : decode cX11_compares 68 = .ok (.if_icmp .ne 7, 3) := by decide +kernel
theorem dX11_compares_71 : decode cX11_compares 71 = .ok (.iconst 1, 1) := by decide +kernel
theorem dX11_compares_72 : decode cX11_compares 72 = .ok (.goto 39, 3) := by decide +kernel
theorem dX11_compares_75 : decode cX11_compares 75 = .ok (.iconst 0, 1) := by decide +kernel
theorem dX11_compares_76 : decode cX11_compares 76 = .ok (.goto 35, 3) := by decide +kernel
theorem dX11_compares_79 : decode cX11_compares 79 = .ok (.iload 4, 2) := by decide +kernel
theorem dX11_compares_81 : decode cX11_compares 81 = .ok (.bipush 60, 2) := by decide +kernel
theorem dX11_compares_83 : decode cX11_compares 83 = .ok (.if_icmp .ne 17, 3) := by decide +kernel
theorem dX11_compares_86 : decode cX11_compares 86 = .ok (.iload_n 3, 1) := by decide +kernel
theorem dX11_compares_87 : decode cX11_compares 87 = .ok (.iload 5, 2) := by decide +kernel
theorem dX11_compares_89 : decode cX11_compares 89 = .ok (.if_icmp .ge 7, 3) := by decide +kernel
theorem dX11_compares_92 : decode cX11_compares 92 = .ok (.iconst 1, 1) := by decide +kernel
theorem dX11_compares_93 : decode cX11_compares 93 = .ok (.goto 18, 3) := by decide +kernel
theorem dX11_compares_96 : decode cX11_compares 96 = .ok (.iconst 0, 1) := by decide +kernel
theorem dX11_compares_97 : decode cX11_compares 97 = .ok (.goto 14, 3) := by decide +kernel
theorem dX11_compares_100 : decode cX11_compares 100 = .ok (.iload_n 3, 1) := by decide +kernel
theorem dX11_compares_101 : decode cX11_compares 101 = .ok (.iload 5, 2) := by decide +kernel
theorem dX11_compares_103 : decode cX11_compares 103 = .ok (.if_icmp .le 7, 3) := by decide +kernel
theorem dX11_compares_106 : decode cX11_compares 106 = .ok (.iconst 1, 1) := by decide +kernel
theorem dX11_compares_107 : decode cX11_compares 107 = .ok (.goto 4, 3) := by decide +kernel
theorem dX11_compares_110 : decode cX11_compares 110 = .ok (.iconst 0, 1) := by decide +kernel
theorem dX11_compares_111 : decode cX11_compares 111 = .ok (.ireturn, 1) := by decide +kernel
theorem dX11_unit_0 : decode cX11_unit 0 = .ok (.aload_n 0, 1) := by decide +kernel
theorem dX11_unit_1 : decode cX11_unit 1 = .ok (.invokevirtual 161, 3) := by decide +kernel
theorem dX11_unit_4 : decode cX11_unit 4 = .ok (.istore_n 1, 1) := by decide +kernel
theorem dX11_unit_5 : decode cX11_unit 5 = .ok (.iload_n 1, 1) := by decide +kernel
theorem dX11_unit_6 : decode cX11_unit 6 = .ok (.bipush 33, 2) := by decide +kernel
theorem dX11_unit_8 : decode cX11_unit 8 = .ok (.if_icmp .ne 37, 3) := by decide +kernel
theorem dX11_unit_11 : decode cX11_unit 11 = .ok (.aload_n 0, 1) := by decide +kernel
theorem dX11_unit_12 : decode cX11_unit 12 = .ok (.invokevirtual 181, 3) := by decide +kernel
theorem dX11_unit_15 : decode cX11_unit 15 = .ok (.ifCond .ne 5, 3) := by decide +kernel
theorem dX11_unit_18 : decode cX11_unit 18 = .ok (.iconst 0, 1) := by decide +kernel
theorem dX11_unit_19 : decode cX11_unit 19 = .ok (.ireturn, 1) := by decide +kernel
theorem dX11_unit_20 : decode cX11_unit 20 = .ok (.aload_n 0, 1) := by decide +kernel
theorem dX11_unit_21 : decode cX11_unit 21 = .ok (.invokevirtual 207, 3) := by decide +kernel
theorem dX11_unit_24 : decode cX11_unit 24 = .ok (.istore_n 2, 1) := by decide +kernel
theorem dX11_unit_25 : decode cX11_unit 25 = .ok (.aload_n 0, 1) := by decide +kernel
theorem dX11_unit_26 : decode cX11_unit 26 = .ok (.dup, 1) := by decide +kernel
theorem dX11_unit_27 : decode cX11_unit 27 = .ok (.getfield 154, 3) := by decide +kernel
theorem dX11_unit_30 : decode cX11_unit 30 = .ok (.iconst 1, 1) := by decide +kernel
theorem dX11_unit_31 : decode cX11_unit 31 = .ok (.isub, 1) := by decide +kernel
theorem dX11_unit_32 : decode cX11_unit 32 = .ok (.putfield 154, 3) := by decide +kernel
theorem dX11_unit_35 : decode cX11_unit 35 = .ok (.iload_n 2, 1) := by decide +kernel
theorem dX11_unit_36 : decode cX11_unit 36 = .ok (.ifCond .ne 7, 3) := by decide +kernel
theorem dX11_unit_39 : decode cX11_unit 39 = .ok (.iconst 1, 1) := by decide +kernel
theorem dX11_unit_40 : decode cX11_unit 40 = .ok (.goto 4, 3) := by decide +kernel
theorem dX11_unit_43 : decode cX11_unit 43 = .ok (.iconst 0, 1) := by decide +kernel
theorem dX11_unit_44 : decode cX11_unit 44 = .ok (.ireturn, 1) := by decide +kernel
theorem dX11_unit_45 : decode cX11_unit 45 = .ok (.iload_n 1, 1) := by decide +kernel
theorem dX11_unit_46 : decode cX11_unit 46 = .ok (.bipush 40, 2) := by decide +kernel
theorem dX11_unit_48 : decode cX11_unit 48 = .ok (.if_icmp .ne 42, 3) := by decide +kernel
theorem dX11_unit_51 : decode cX11_unit 51 = .ok (.aload_n 0, 1) := by decide +kernel
theorem dX11_unit_52 : decode cX11_unit 52 = .ok (.invokevirtual 181, 3) := by decide +kernel
theorem dX11_unit_55 : decode cX11_unit 55 = .ok (.ifCond .ne 5, 3) := by decide +kernel
theorem dX11_unit_58 : decode cX11_unit 58 = .ok (.iconst 0, 1) := by decide +kernel
theorem dX11_unit_59 : decode cX11_unit 59 = .ok (.ireturn, 1) := by decide +kernel
theorem dX11_unit_60 : decode cX11_unit 60 = .ok (.aload_n 0, 1) := by decide +kernel
theorem dX11_unit_61 : decode cX11_unit 61 = .ok (.iconst 0, 1) := by decide +kernel
theorem dX11_unit_62 : decode cX11_unit 62 = .ok (.iconst 0, 1) := by decide +kernel
theorem dX11_unit_63 : decode cX11_unit 63 = .ok (.invokevirtual 210, 3) := by decide +kernel
theorem dX11_unit_66 : decode cX11_unit 66 = .ok (.istore_n 2, 1) := by decide +kernel
theorem dX11_unit_67 : decode cX11_unit 67 = .ok (.aload_n 0, 1) := by decide +kernel
theorem dX11_unit_68 : decode cX11_unit 68 = .ok (.bipush 41, 2) := by decide +kernel
theorem dX11_unit_70 : decode cX11_unit 70 = .ok (.invokevirtual 187, 3) := by decide +kernel
theorem dX11_unit_73 : decode cX11_unit 73 = .ok (.ifCond .ne 5, 3) := by decide +kernel
theorem dX11_unit_76 : decode cX11_unit 76 = .ok (.iconst 0, 1) := by decide +kernel
theorem dX11_unit_77 : decode cX11_unit 77 = .ok (.ireturn, 1) := by decide +kernel
theorem dX11_unit_78 : decode cX11_unit 78 = .ok (.aload_n 0, 1) := by decide +kernel
theorem dX11_unit_79 : decode cX11_unit 79 = .ok (.dup, 1) := by decide +kernel
theorem dX11_unit_80 : decode cX11_unit 80 = .ok (.getfield 154, 3) := by decide +kernel
theorem dX11_unit_83 : decode cX11_unit 83 = .ok (.iconst 1, 1) := by decide +kernel
theorem dX11_unit_84 : decode cX11_unit 84 = .ok (.isub, 1) := by decide +kernel
theorem dX11_unit_85 : decode cX11_unit 85 = .ok (.putfield 154, 3) := by decide +kernel
theorem dX11_unit_88 : decode cX11_unit 88 = .ok (.iload_n 2, 1) := by decide +kernel
theorem dX11_unit_89 : decode cX11_unit 89 = .ok (.ireturn, 1) := by decide +kernel
theorem dX11_unit_90 : decode cX11_unit 90 = .ok (.aload_n 0, 1) := by decide +kernel
theorem dX11_unit_91 : decode cX11_unit 91 = .ok (.iconst 0, 1) := by decide +kernel
theorem dX11_unit_92 : decode cX11_unit 92 = .ok (.iconst 0, 1) := by decide +kernel
theorem dX11_unit_93 : decode cX11_unit 93 = .ok (.invokevirtual 214, 3) := by decide +kernel
theorem dX11_unit_96 : decode cX11_unit 96 = .ok (.ireturn, 1) := by decide +kernel
theorem dX11_part_0 : decode cX11_part 0 = .ok (.iload_n 1, 1) := by decide +kernel
theorem dX11_part_1 : decode cX11_part 1 = .ok (.ifCond .eq 12, 3) := by decide +kernel
theorem dX11_part_4 : decode cX11_part 4 = .ok (.aload_n 0, 1) := by decide +kernel
theorem dX11_part_5 : decode cX11_part 5 = .ok (.iconst 1, 1) := by decide +kernel
theorem dX11_part_6 : decode cX11_part 6 = .ok (.iload_n 2, 1) := by decide +kernel
theorem dX11_part_7 : decode cX11_part 7 = .ok (.invokevirtual 214, 3) := by decide +kernel
theorem dX11_part_10 : decode cX11_part 10 = .ok (.goto 7, 3) := by decide +kernel
theorem dX11_part_13 : decode cX11_part 13 = .ok (.aload_n 0, 1) := by decide +kernel
theorem dX11_part_14 : decode cX11_part 14 = .ok (.invokevirtual 207, 3) := by decide +kernel
theorem dX11_part_17 : decode cX11_part 17 = .ok (.istore_n 3, 1) := by decide +kernel
theorem dX11_part_18 : decode cX11_part 18 = .ok (.aload_n 0, 1) := by decide +kernel
theorem dX11_part_19 : decode cX11_part 19 = .ok (.getfield 151, 3) := by decide +kernel
theorem dX11_part_22 : decode cX11_part 22 = .ok (.iconst (-1), 1) := by decide +kernel
theorem dX11_part_23 : decode cX11_part 23 = .ok (.if_icmp .ne 46, 3) := by decide +kernel
theorem dX11_part_26 : decode cX11_part 26 = .ok (.aload_n 0, 1) := by decide +kernel
theorem dX11_part_27 : decode cX11_part 27 = .ok (.invokevirtual 161, 3) := by decide +kernel
theorem dX11_part_30 : decode cX11_part 30 = .ok (.bipush 38, 2) := by decide +kernel
theorem dX11_part_32 : decode cX11_part 32 = .ok (.if_icmp .ne 37, 3) := by decide +kernel
theorem dX11_part_35 : decode cX11_part 35 = .ok (.aload_n 0, 1) := by decide +kernel
theorem dX11_part_36 : decode cX11_part 36 = .ok (.dup, 1) := by decide +kernel
theorem dX11_part_37 : decode cX11_part 37 = .ok (.getfield 142, 3) := by decide +kernel
theorem dX11_part_40 : decode cX11_part 40 = .ok (.iconst 1, 1) := by decide +kernel
theorem dX11_part_41 : decode cX11_part 41 = .ok (.iadd, 1) := by decide +kernel
theorem dX11_part_42 : decode cX11_part 42 = .ok (.putfield 142, 3) := by decide +kernel
theorem dX11_part_45 : decode cX11_part 45 = .ok (.aload_n 0, 1) := by decide +kernel
theorem dX11_part_46 : decode cX11_part 46 = .ok (.invokevirtual 207, 3) := by decide +kernel
theorem dX11_part_49 : decode cX11_part 49 = .ok (.istore 4, 2) := by decide +kernel
theorem dX11_part_51 : decode cX11_part 51 = .ok (.iload_n 3, 1) := by decide +kernel
theorem dX11_part_52 : decode cX11_part 52 = .ok (.ifCond .eq 12, 3) := by decide +kernel
theorem dX11_part_55 : decode cX11_part 55 = .ok (.iload 4, 2) := by decide +kernel
theorem dX11_part_57 : decode cX11_part 57 = .ok (.ifCond .eq 7, 3) := by decide +kernel
theorem dX11_part_60 : decode cX11_part 60 = .ok (.iconst 1, 1) := by decide +kernel
theorem dX11_part_61 : decode cX11_part 61 = .ok (.goto 4, 3) := by decide +kernel
theorem dX11_part_64 : decode cX11_part 64 = .ok (.iconst 0, 1) := by decide +kernel
theorem dX11_part_65 : decode cX11_part 65 = .ok (.istore_n 3, 1) := by decide +kernel
theorem dX11_part_66 : decode cX11_part 66 = .ok (.goto (-48), 3) := by decide +kernel
theorem dX11_part_69 : decode cX11_part 69 = .ok (.iload_n 3, 1) := by decide +kernel
theorem dX11_part_70 : decode cX11_part 70 = .ok (.ireturn, 1) := by decide +kernel
theorem dX11_condition_0 : decode cX11_condition 0 = .ok (.aload_n 0, 1) := by decide +kernel
theorem dX11_condition_1 : decode cX11_condition 1 = .ok (.iload_n 1, 1) := by decide +kernel
theorem dX11_condition_2 : decode cX11_condition 2 = .ok (.iload_n 2, 1) := by decide +kernel
theorem dX11_condition_3 : decode cX11_condition 3 = .ok (.invokevirtual 217, 3) := by decide +kernel
theorem dX11_condition_6 : decode cX11_condition 6 = .ok (.istore_n 3, 1) := by decide +kernel
theorem dX11_condition_7 : decode cX11_condition 7 = .ok (.aload_n 0, 1) := by decide +kernel
theorem dX11_condition_8 : decode cX11_condition 8 = .ok (.getfield 151, 3) := by decide +kernel
theorem dX11_condition_11 : decode cX11_condition 11 = .ok (.iconst (-1), 1) := by decide +kernel
theorem dX11_condition_12 : decode cX11_condition 12 = .ok (.if_icmp .ne 48, 3) := by decide +kernel
theorem dX11_condition_15 : decode cX11_condition 15 = .ok (.aload_n 0, 1) := by decide +kernel
theorem dX11_condition_16 : decode cX11_condition 16 = .ok (.invokevirtual 161, 3) := by decide +kernel
theorem dX11_condition_19 : decode cX11_condition 19 = .ok (.bipush 124, 2) := by decide +kernel
theorem dX11_condition_21 : decode cX11_condition 21 = .ok (.if_icmp .ne 39, 3) := by decide +kernel
theorem dX11_condition_24 : decode cX11_condition 24 = .ok (.aload_n 0, 1) := by decide +kernel
theorem dX11_condition_25 : decode cX11_condition 25 = .ok (.dup, 1) := by decide +kernel
theorem dX11_condition_26 : decode cX11_condition 26 = .ok (.getfield 142, 3) := by decide +kernel
theorem dX11_condition_29 : decode cX11_condition 29 = .ok (.iconst 1, 1) := by decide +kernel
theorem dX11_condition_30 : decode cX11_condition 30 = .ok (.iadd, 1) := by decide +kernel
theorem dX11_condition_31 : decode cX11_condition 31 = .ok (.putfield 142, 3) := by decide +kernel
theorem dX11_condition_34 : decode cX11_condition 34 = .ok (.aload_n 0, 1) := by decide +kernel
theorem dX11_condition_35 : decode cX11_condition 35 = .ok (.iconst 0, 1) := by decide +kernel
theorem dX11_condition_36 : decode cX11_condition 36 = .ok (.iconst 0, 1) := by decide +kernel
theorem dX11_condition_37 : decode cX11_condition 37 = .ok (.invokevirtual 217, 3) := by decide +kernel
theorem dX11_condition_40 : decode cX11_condition 40 = .ok (.istore 4, 2) := by decide +kernel
theorem dX11_condition_42 : decode cX11_condition 42 = .ok (.iload_n 3, 1) := by decide +kernel
theorem dX11_condition_43 : decode cX11_condition 43 = .ok (.ifCond .ne 8, 3) := by decide +kernel
theorem dX11_condition_46 : decode cX11_condition 46 = .ok (.iload 4, 2) := by decide +kernel
theorem dX11_condition_48 : decode cX11_condition 48 = .ok (.ifCond .eq 7, 3) := by decide +kernel
theorem dX11_condition_51 : decode cX11_condition 51 = .ok (.iconst 1, 1) := by decide +kernel
theorem dX11_condition_52 : decode cX11_condition 52 = .ok (.goto 4, 3) := by decide +kernel
theorem dX11_condition_55 : decode cX11_condition 55 = .ok (.iconst 0, 1) := by decide +kernel
theorem dX11_condition_56 : decode cX11_condition 56 = .ok (.istore_n 3, 1) := by decide +kernel
theorem dX11_condition_57 : decode cX11_condition 57 = .ok (.goto (-50), 3) := by decide +kernel
theorem dX11_condition_60 : decode cX11_condition 60 = .ok (.iload_n 3, 1) := by decide +kernel
theorem dX11_condition_61 : decode cX11_condition 61 = .ok (.ireturn, 1) := by decide +kernel
theorem dX11_clause_0 : decode cX11_clause 0 = .ok (.aload_n 0, 1) := by decide +kernel
theorem dX11_clause_1 : decode cX11_clause 1 = .ok (.invokevirtual 161, 3) := by decide +kernel
theorem dX11_clause_4 : decode cX11_clause 4 = .ok (.istore_n 1, 1) := by decide +kernel
theorem dX11_clause_5 : decode cX11_clause 5 = .ok (.ldc 26, 2) := by decide +kernel
theorem dX11_clause_7 : decode cX11_clause 7 = .ok (.iload_n 1, 1) := by decide +kernel
theorem dX11_clause_8 : decode cX11_clause 8 = .ok (.invokestatic 177, 3) := by decide +kernel
theorem dX11_clause_11 : decode cX11_clause 11 = .ok (.ifCond .ne 9, 3) := by decide +kernel
theorem dX11_clause_14 : decode cX11_clause 14 = .ok (.aload_n 0, 1) := by decide +kernel
theorem dX11_clause_15 : decode cX11_clause 15 = .ok (.invokevirtual 157, 3) := by decide +kernel
theorem dX11_clause_18 : decode cX11_clause 18 = .ok (.pop, 1) := by decide +kernel
theorem dX11_clause_19 : decode cX11_clause 19 = .ok (.return_, 1) := by decide +kernel
theorem dX11_clause_20 : decode cX11_clause 20 = .ok (.aload_n 0, 1) := by decide +kernel
theorem dX11_clause_21 : decode cX11_clause 21 = .ok (.dup, 1) := by decide +kernel
theorem dX11_clause_22 : decode cX11_clause 22 = .ok (.getfield 142, 3) := by decide +kernel
theorem dX11_clause_25 : decode cX11_clause 25 = .ok (.iconst 1, 1) := by decide +kernel
theorem dX11_clause_26 : decode cX11_clause 26 = .ok (.iadd, 1) := by decide +kernel
theorem dX11_clause_27 : decode cX11_clause 27 = .ok (.putfield 142, 3) := by decide +kernel
theorem dX11_clause_30 : decode cX11_clause 30 = .ok (.aload_n 0, 1) := by decide +kernel
theorem dX11_clause_31 : decode cX11_clause 31 = .ok (.bipush 58, 2) := by decide +kernel
theorem dX11_clause_33 : decode cX11_clause 33 = .ok (.invokevirtual 187, 3) := by decide +kernel
theorem dX11_clause_36 : decode cX11_clause 36 = .ok (.ifCond .ne 4, 3) := by decide +kernel
theorem dX11_clause_39 : decode cX11_clause 39 = .ok (.return_, 1) := by decide +kernel
theorem dX11_clause_40 : decode cX11_clause 40 = .ok (.iconst 1, 1) := by decide +kernel
theorem dX11_clause_41 : decode cX11_clause 41 = .ok (.istore_n 2, 1) := by decide +kernel
theorem dX11_clause_42 : decode cX11_clause 42 = .ok (.iconst 0, 1) := by decide +kernel
theorem dX11_clause_43 : decode cX11_clause 43 = .ok (.istore_n 3, 1) := by decide +kernel
theorem dX11_clause_44 : decode cX11_clause 44 = .ok (.aload_n 0, 1) := by decide +kernel
theorem dX11_clause_45 : decode cX11_clause 45 = .ok (.invokevirtual 161, 3) := by decide +kernel
theorem dX11_clause_48 : decode cX11_clause 48 = .ok (.istore 4, 2) := by decide +kernel
theorem dX11_clause_50 : decode cX11_clause 50 = .ok (.iload 4, 2) := by decide +kernel
theorem dX11_clause_52 : decode cX11_clause 52 = .ok (.bipush 33, 2) := by decide +kernel
theorem dX11_clause_54 : decode cX11_clause 54 = .ok (.if_icmp .eq 10, 3) := by decide +kernel
theorem dX11_clause_57 : decode cX11_clause 57 = .ok (.iload 4, 2) := by decide +kernel
theorem dX11_clause_59 : decode cX11_clause 59 = .ok (.bipush 40, 2) := by decide +kernel
theorem dX11_clause_61 : decode cX11_clause 61 = .ok (.if_icmp .ne 28, 3) := by decide +kernel
theorem dX11_clause_64 : decode cX11_clause 64 = .ok (.aload_n 0, 1) := by decide +kernel
theorem dX11_clause_65 : decode cX11_clause 65 = .ok (.iconst 0, 1) := by decide +kernel
theorem dX11_clause_66 : decode cX11_clause 66 = .ok (.iconst 0, 1) := by decide +kernel
theorem dX11_clause_67 : decode cX11_clause 67 = .ok (.invokevirtual 210, 3) := by decide +kernel
theorem dX11_clause_70 : decode cX11_clause 70 = .ok (.istore_n 2, 1) := by decide +kernel
theorem dX11_clause_71 : decode cX11_clause 71 = .ok (.aload_n 0, 1) := by decide +kernel
theorem dX11_clause_72 : decode cX11_clause 72 = .ok (.bipush 63, 2) := by decide +kernel
theorem dX11_clause_74 : decode cX11_clause 74 = .ok (.invokevirtual 187, 3) := by decide +kernel
theorem dX11_clause_77 : decode cX11_clause 77 = .ok (.ifCond .ne 4, 3) := by decide +kernel
theorem dX11_clause_80 : decode cX11_clause 80 = .ok (.return_, 1) := by decide +kernel
theorem dX11_clause_81 : decode cX11_clause 81 = .ok (.aload_n 0, 1) := by decide +kernel
theorem dX11_clause_82 : decode cX11_clause 82 = .ok (.invokevirtual 184, 3) := by decide +kernel
theorem dX11_clause_85 : decode cX11_clause 85 = .ok (.istore_n 3, 1) := by decide +kernel
theorem dX11_clause_86 : decode cX11_clause 86 = .ok (.goto 48, 3) := by decide +kernel
theorem dX11_clause_89 : decode cX11_clause 89 = .ok (.aload_n 0, 1) := by decide +kernel
theorem dX11_clause_90 : decode cX11_clause 90 = .ok (.invokevirtual 184, 3) := by decide +kernel
theorem dX11_clause_93 : decode cX11_clause 93 = .ok (.istore_n 3, 1) := by decide +kernel
theorem dX11_clause_94 : decode cX11_clause 94 = .ok (.aload_n 0, 1) := by decide +kernel
theorem dX11_clause_95 : decode cX11_clause 95 = .ok (.getfield 151, 3) := by decide +kernel
theorem dX11_clause_98 : decode cX11_clause 98 = .ok (.iconst (-1), 1) := by decide +kernel
theorem dX11_clause_99 : decode cX11_clause 99 = .ok (.if_icmp .ne 35, 3) := by decide +kernel
theorem dX11_clause_102 : decode cX11_clause 102 = .ok (.aload_n 0, 1) := by decide +kernel
theorem dX11_clause_103 : decode cX11_clause 103 = .ok (.invokevirtual 161, 3) := by decide +kernel
theorem dX11_clause_106 : decode cX11_clause 106 = .ok (.invokestatic 204, 3) := by decide +kernel
theorem dX11_clause_109 : decode cX11_clause 109 = .ok (.ifCond .eq 25, 3) := by decide +kernel
theorem dX11_clause_112 : decode cX11_clause 112 = .ok (.aload_n 0, 1) := by decide +kernel
theorem dX11_clause_113 : decode cX11_clause 113 = .ok (.iconst 1, 1) := by decide +kernel
theorem dX11_clause_114 : decode cX11_clause 114 = .ok (.iload_n 3, 1) := by decide +kernel
theorem dX11_clause_115 : decode cX11_clause 115 = .ok (.invokevirtual 210, 3) := by decide +kernel
theorem dX11_clause_118 : decode cX11_clause 118 = .ok (.istore_n 2, 1) := by decide +kernel
theorem dX11_clause_119 : decode cX11_clause 119 = .ok (.aload_n 0, 1) := by decide +kernel
theorem dX11_clause_120 : decode cX11_clause 120 = .ok (.bipush 63, 2) := by decide +kernel
theorem dX11_clause_122 : decode cX11_clause 122 = .ok (.invokevirtual 187, 3) := by decide +kernel
theorem dX11_clause_125 : decode cX11_clause 125 = .ok (.ifCond .ne 4, 3) := by decide +kernel
theorem dX11_clause_128 : decode cX11_clause 128 = .ok (.return_, 1) := by decide +kernel
theorem dX11_clause_129 : decode cX11_clause 129 = .ok (.aload_n 0, 1) := by decide +kernel
theorem dX11_clause_130 : decode cX11_clause 130 = .ok (.invokevirtual 184, 3) := by decide +kernel
theorem dX11_clause_133 : decode cX11_clause 133 = .ok (.istore_n 3, 1) := by decide +kernel
theorem dX11_clause_134 : decode cX11_clause 134 = .ok (.aload_n 0, 1) := by decide +kernel
theorem dX11_clause_135 : decode cX11_clause 135 = .ok (.getfield 151, 3) := by decide +kernel
theorem dX11_clause_138 : decode cX11_clause 138 = .ok (.iconst (-1), 1) := by decide +kernel
theorem dX11_clause_139 : decode cX11_clause 139 = .ok (.if_icmp .ne 22, 3) := by decide +kernel
theorem dX11_clause_142 : decode cX11_clause 142 = .ok (.aload_n 0, 1) := by decide +kernel
theorem dX11_clause_143 : decode cX11_clause 143 = .ok (.getfield 220, 3) := by decide +kernel
theorem dX11_clause_146 : decode cX11_clause 146 = .ok (.ifCond .ne 15, 3) := by decide +kernel
theorem dX11_clause_149 : decode cX11_clause 149 = .ok (.iload_n 1, 1) := by decide +kernel
theorem dX11_clause_150 : decode cX11_clause 150 = .ok (.aload_n 0, 1) := by decide +kernel
theorem dX11_clause_151 : decode cX11_clause 151 = .ok (.getfield 224, 3) := by decide +kernel
theorem dX11_clause_154 : decode cX11_clause 154 = .ok (.if_icmp .ne 7, 3) := by decide +kernel
theorem dX11_clause_157 : decode cX11_clause 157 = .ok (.iload_n 2, 1) := by decide +kernel
theorem dX11_clause_158 : decode cX11_clause 158 = .ok (.ifCond .ne 4, 3) := by decide +kernel
theorem dX11_clause_161 : decode cX11_clause 161 = .ok (.return_, 1) := by decide +kernel
theorem dX11_clause_162 : decode cX11_clause 162 = .ok (.aload_n 0, 1) := by decide +kernel
theorem dX11_clause_163 : decode cX11_clause 163 = .ok (.iconst 1, 1) := by decide +kernel
theorem dX11_clause_164 : decode cX11_clause 164 = .ok (.putfield 220, 3) := by decide +kernel
theorem dX11_clause_167 : decode cX11_clause 167 = .ok (.aload_n 0, 1) := by decide +kernel
theorem dX11_clause_168 : decode cX11_clause 168 = .ok (.iload_n 3, 1) := by decide +kernel
theorem dX11_clause_169 : decode cX11_clause 169 = .ok (.putfield 227, 3) := by decide +kernel
theorem dX11_clause_172 : decode cX11_clause 172 = .ok (.return_, 1) := by decide +kernel
theorem dX11_opens_0 : decode cX11_opens 0 = .ok (.aload_n 0, 1) := by decide +kernel
theorem dX11_opens_1 : decode cX11_opens 1 = .ok (.aload_n 1, 1) := by decide +kernel
theorem dX11_opens_2 : decode cX11_opens 2 = .ok (.putfield 23, 3) := by decide +kernel
theorem dX11_opens_5 : decode cX11_opens 5 = .ok (.aload_n 0, 1) := by decide +kernel
theorem dX11_opens_6 : decode cX11_opens 6 = .ok (.iload_n 2, 1) := by decide +kernel
theorem dX11_opens_7 : decode cX11_opens 7 = .ok (.putfield 148, 3) := by decide +kernel
theorem dX11_opens_10 : decode cX11_opens 10 = .ok (.aload_n 0, 1) := by decide +kernel
theorem dX11_opens_11 : decode cX11_opens 11 = .ok (.iload_n 3, 1) := by decide +kernel
theorem dX11_opens_12 : decode cX11_opens 12 = .ok (.putfield 145, 3) := by decide +kernel
theorem dX11_opens_15 : decode cX11_opens 15 = .ok (.aload_n 0, 1) := by decide +kernel
theorem dX11_opens_16 : decode cX11_opens 16 = .ok (.iconst 0, 1) := by decide +kernel
theorem dX11_opens_17 : decode cX11_opens 17 = .ok (.putfield 142, 3) := by decide +kernel
theorem dX11_opens_20 : decode cX11_opens 20 = .ok (.aload_n 0, 1) := by decide +kernel
theorem dX11_opens_21 : decode cX11_opens 21 = .ok (.iconst (-1), 1) := by decide +kernel
theorem dX11_opens_22 : decode cX11_opens 22 = .ok (.putfield 151, 3) := by decide +kernel
theorem dX11_opens_25 : decode cX11_opens 25 = .ok (.return_, 1) := by decide +kernel
theorem dX11_goThrough_0 : decode cX11_goThrough 0 = .ok (.aload_n 0, 1) := by decide +kernel
theorem dX11_goThrough_1 : decode cX11_goThrough 1 = .ok (.aload_n 1, 1) := by decide +kernel
theorem dX11_goThrough_2 : decode cX11_goThrough 2 = .ok (.iload_n 2, 1) := by decide +kernel
theorem dX11_goThrough_3 : decode cX11_goThrough 3 = .ok (.iload_n 3, 1) := by decide +kernel
theorem dX11_goThrough_4 : decode cX11_goThrough 4 = .ok (.invokevirtual 230, 3) := by decide +kernel
theorem dX11_goThrough_7 : decode cX11_goThrough 7 = .ok (.aload_n 0, 1) := by decide +kernel
theorem dX11_goThrough_8 : decode cX11_goThrough 8 = .ok (.bipush 121, 2) := by decide +kernel
theorem dX11_goThrough_10 : decode cX11_goThrough 10 = .ok (.putfield 224, 3) := by decide +kernel
theorem dX11_goThrough_13 : decode cX11_goThrough 13 = .ok (.aload_n 0, 1) := by decide +kernel
theorem dX11_goThrough_14 : decode cX11_goThrough 14 = .ok (.iconst 0, 1) := by decide +kernel
theorem dX11_goThrough_15 : decode cX11_goThrough 15 = .ok (.putfield 154, 3) := by decide +kernel
theorem dX11_goThrough_18 : decode cX11_goThrough 18 = .ok (.aload_n 0, 1) := by decide +kernel
theorem dX11_goThrough_19 : decode cX11_goThrough 19 = .ok (.iconst 0, 1) := by decide +kernel
theorem dX11_goThrough_20 : decode cX11_goThrough 20 = .ok (.putfield 220, 3) := by decide +kernel
theorem dX11_goThrough_23 : decode cX11_goThrough 23 = .ok (.aload_n 0, 1) := by decide +kernel
theorem dX11_goThrough_24 : decode cX11_goThrough 24 = .ok (.iconst 0, 1) := by decide +kernel
theorem dX11_goThrough_25 : decode cX11_goThrough 25 = .ok (.putfield 227, 3) := by decide +kernel
theorem dX11_goThrough_28 : decode cX11_goThrough 28 = .ok (.aload_n 0, 1) := by decide +kernel
theorem dX11_goThrough_29 : decode cX11_goThrough 29 = .ok (.invokevirtual 234, 3) := by decide +kernel
theorem dX11_goThrough_32 : decode cX11_goThrough 32 = .ok (.aload_n 0, 1) := by decide +kernel
theorem dX11_goThrough_33 : decode cX11_goThrough 33 = .ok (.getfield 151, 3) := by decide +kernel
theorem dX11_goThrough_36 : decode cX11_goThrough 36 = .ok (.iconst (-1), 1) := by decide +kernel
theorem dX11_goThrough_37 : decode cX11_goThrough 37 = .ok (.if_icmp .ne 29, 3) := by decide +kernel
theorem dX11_goThrough_40 : decode cX11_goThrough 40 = .ok (.aload_n 0, 1) := by decide +kernel
theorem dX11_goThrough_41 : decode cX11_goThrough 41 = .ok (.invokevirtual 161, 3) := by decide +kernel
theorem dX11_goThrough_44 : decode cX11_goThrough 44 = .ok (.bipush 59, 2) := by decide +kernel
theorem dX11_goThrough_46 : decode cX11_goThrough 46 = .ok (.if_icmp .ne 20, 3) := by decide +kernel
theorem dX11_goThrough_49 : decode cX11_goThrough 49 = .ok (.aload_n 0, 1) := by decide +kernel
theorem dX11_goThrough_50 : decode cX11_goThrough 50 = .ok (.dup, 1) := by decide +kernel
theorem dX11_goThrough_51 : decode cX11_goThrough 51 = .ok (.getfield 142, 3) := by decide +kernel
theorem dX11_goThrough_54 : decode cX11_goThrough 54 = .ok (.iconst 1, 1) := by decide +kernel
theorem dX11_goThrough_55 : decode cX11_goThrough 55 = .ok (.iadd, 1) := by decide +kernel
theorem dX11_goThrough_56 : decode cX11_goThrough 56 = .ok (.putfield 142, 3) := by decide +kernel
theorem dX11_goThrough_59 : decode cX11_goThrough 59 = .ok (.aload_n 0, 1) := by decide +kernel
theorem dX11_goThrough_60 : decode cX11_goThrough 60 = .ok (.invokevirtual 234, 3) := by decide +kernel
theorem dX11_goThrough_63 : decode cX11_goThrough 63 = .ok (.goto (-31), 3) := by decide +kernel
theorem dX11_goThrough_66 : decode cX11_goThrough 66 = .ok (.aload_n 0, 1) := by decide +kernel
theorem dX11_goThrough_67 : decode cX11_goThrough 67 = .ok (.getfield 151, 3) := by decide +kernel
theorem dX11_goThrough_70 : decode cX11_goThrough 70 = .ok (.iconst (-1), 1) := by decide +kernel
theorem dX11_goThrough_71 : decode cX11_goThrough 71 = .ok (.if_icmp .ne 16, 3) := by decide +kernel
theorem dX11_goThrough_74 : decode cX11_goThrough 74 = .ok (.aload_n 0, 1) := by decide +kernel
theorem dX11_goThrough_75 : decode cX11_goThrough 75 = .ok (.invokevirtual 161, 3) := by decide +kernel
theorem dX11_goThrough_78 : decode cX11_goThrough 78 = .ok (.iconst (-1), 1) := by decide +kernel
theorem dX11_goThrough_79 : decode cX11_goThrough 79 = .ok (.if_icmp .eq 8, 3) := by decide +kernel
theorem dX11_goThrough_82 : decode cX11_goThrough 82 = .ok (.aload_n 0, 1) := by decide +kernel
theorem dX11_goThrough_83 : decode cX11_goThrough 83 = .ok (.invokevirtual 157, 3) := by decide +kernel
theorem dX11_goThrough_86 : decode cX11_goThrough 86 = .ok (.pop, 1) := by decide +kernel
theorem dX11_goThrough_87 : decode cX11_goThrough 87 = .ok (.return_, 1) := by decide +kernel
theorem dX11_here_0 : decode cX11_here 0 = .ok (.aload_n 0, 1) := by decide +kernel
theorem dX11_here_1 : decode cX11_here 1 = .ok (.getfield 142, 3) := by decide +kernel
theorem dX11_here_4 : decode cX11_here 4 = .ok (.aload_n 0, 1) := by decide +kernel
theorem dX11_here_5 : decode cX11_here 5 = .ok (.getfield 145, 3) := by decide +kernel
theorem dX11_here_8 : decode cX11_here 8 = .ok (.if_icmp .ge 24, 3) := by decide +kernel
theorem dX11_here_11 : decode cX11_here 11 = .ok (.aload_n 0, 1) := by decide +kernel
theorem dX11_here_12 : decode cX11_here 12 = .ok (.getfield 23, 3) := by decide +kernel
theorem dX11_here_15 : decode cX11_here 15 = .ok (.aload_n 0, 1) := by decide +kernel
theorem dX11_here_16 : decode cX11_here 16 = .ok (.getfield 148, 3) := by decide +kernel
theorem dX11_here_19 : decode cX11_here 19 = .ok (.aload_n 0, 1) := by decide +kernel
theorem dX11_here_20 : decode cX11_here 20 = .ok (.getfield 142, 3) := by decide +kernel
theorem dX11_here_23 : decode cX11_here 23 = .ok (.iadd, 1) := by decide +kernel
theorem dX11_here_24 : decode cX11_here 24 = .ok (.baload, 1) := by decide +kernel
theorem dX11_here_25 : decode cX11_here 25 = .ok (.sipush 255, 3) := by decide +kernel
theorem dX11_here_28 : decode cX11_here 28 = .ok (.iand, 1) := by decide +kernel
theorem dX11_here_29 : decode cX11_here 29 = .ok (.goto 4, 3) := by decide +kernel
theorem dX11_here_32 : decode cX11_here 32 = .ok (.iconst (-1), 1) := by decide +kernel
theorem dX11_here_33 : decode cX11_here 33 = .ok (.ireturn, 1) := by decide +kernel
theorem dX11_placeOf_0 : decode cX11_placeOf 0 = .ok (.iconst 0, 1) := by decide +kernel
theorem dX11_placeOf_1 : decode cX11_placeOf 1 = .ok (.istore_n 2, 1) := by decide +kernel
theorem dX11_placeOf_2 : decode cX11_placeOf 2 = .ok (.iload_n 2, 1) := by decide +kernel
theorem dX11_placeOf_3 : decode cX11_placeOf 3 = .ok (.aload_n 0, 1) := by decide +kernel
theorem dX11_placeOf_4 : decode cX11_placeOf 4 = .ok (.invokevirtual 122, 3) := by decide +kernel
theorem dX11_placeOf_7 : decode cX11_placeOf 7 = .ok (.if_icmp .ge 20, 3) := by decide +kernel
theorem dX11_placeOf_10 : decode cX11_placeOf 10 = .ok (.aload_n 0, 1) := by decide +kernel
theorem dX11_placeOf_11 : decode cX11_placeOf 11 = .ok (.iload_n 2, 1) := by decide +kernel
theorem dX11_placeOf_12 : decode cX11_placeOf 12 = .ok (.invokevirtual 128, 3) := by decide +kernel
theorem dX11_placeOf_15 : decode cX11_placeOf 15 = .ok (.iload_n 1, 1) := by decide +kernel
theorem dX11_placeOf_16 : decode cX11_placeOf 16 = .ok (.if_icmp .ne 5, 3) := by decide +kernel
theorem dX11_placeOf_19 : decode cX11_placeOf 19 = .ok (.iload_n 2, 1) := by decide +kernel
theorem dX11_placeOf_20 : decode cX11_placeOf 20 = .ok (.ireturn, 1) := by decide +kernel
theorem dX11_placeOf_21 : decode cX11_placeOf 21 = .ok (.iinc 2 1, 3) := by decide +kernel
theorem dX11_placeOf_24 : decode cX11_placeOf 24 = .ok (.goto (-22), 3) := by decide +kernel
theorem dX11_placeOf_27 : decode cX11_placeOf 27 = .ok (.iconst (-1), 1) := by decide +kernel
theorem dX11_placeOf_28 : decode cX11_placeOf 28 = .ok (.ireturn, 1) := by decide +kernel
theorem dX11_readItem_0 : decode cX11_readItem 0 = .ok (.aload_n 0, 1) := by decide +kernel
theorem dX11_readItem_1 : decode cX11_readItem 1 = .ok (.dup, 1) := by decide +kernel
theorem dX11_readItem_2 : decode cX11_readItem 2 = .ok (.getfield 142, 3) := by decide +kernel
theorem dX11_readItem_5 : decode cX11_readItem 5 = .ok (.iconst 1, 1) := by decide +kernel
theorem dX11_readItem_6 : decode cX11_readItem 6 = .ok (.iadd, 1) := by decide +kernel
theorem dX11_readItem_7 : decode cX11_readItem 7 = .ok (.putfield 142, 3) := by decide +kernel
theorem dX11_readItem_10 : decode cX11_readItem 10 = .ok (.aload_n 0, 1) := by decide +kernel
theorem dX11_readItem_11 : decode cX11_readItem 11 = .ok (.invokevirtual 161, 3) := by decide +kernel
theorem dX11_readItem_14 : decode cX11_readItem 14 = .ok (.istore 5, 2) := by decide +kernel
theorem dX11_readItem_16 : decode cX11_readItem 16 = .ok (.aload_n 0, 1) := by decide +kernel
theorem dX11_readItem_17 : decode cX11_readItem 17 = .ok (.invokevirtual 191, 3) := by decide +kernel
theorem dX11_readItem_20 : decode cX11_readItem 20 = .ok (.ifCond .ne 9, 3) := by decide +kernel
theorem dX11_readItem_23 : decode cX11_readItem 23 = .ok (.aload_n 0, 1) := by decide +kernel
theorem dX11_readItem_24 : decode cX11_readItem 24 = .ok (.invokevirtual 157, 3) := by decide +kernel
theorem dX11_readItem_27 : decode cX11_readItem 27 = .ok (.pop, 1) := by decide +kernel
theorem dX11_readItem_28 : decode cX11_readItem 28 = .ok (.return_, 1) := by decide +kernel
theorem dX11_readItem_29 : decode cX11_readItem 29 = .ok (.iload 5, 2) := by decide +kernel
theorem dX11_readItem_31 : decode cX11_readItem 31 = .ok (.bipush 48, 2) := by decide +kernel
theorem dX11_readItem_33 : decode cX11_readItem 33 = .ok (.isub, 1) := by decide +kernel
theorem dX11_readItem_34 : decode cX11_readItem 34 = .ok (.istore 6, 2) := by decide +kernel
theorem dX11_readItem_36 : decode cX11_readItem 36 = .ok (.aload_n 0, 1) := by decide +kernel
theorem dX11_readItem_37 : decode cX11_readItem 37 = .ok (.dup, 1) := by decide +kernel
theorem dX11_readItem_38 : decode cX11_readItem 38 = .ok (.getfield 142, 3) := by decide +kernel
theorem dX11_readItem_41 : decode cX11_readItem 41 = .ok (.iconst 1, 1) := by decide +kernel
theorem dX11_readItem_42 : decode cX11_readItem 42 = .ok (.iadd, 1) := by decide +kernel
theorem dX11_readItem_43 : decode cX11_readItem 43 = .ok (.putfield 142, 3) := by decide +kernel
theorem dX11_readItem_46 : decode cX11_readItem 46 = .ok (.aload_n 0, 1) := by decide +kernel
theorem dX11_readItem_47 : decode cX11_readItem 47 = .ok (.invokevirtual 191, 3) := by decide +kernel
theorem dX11_readItem_50 : decode cX11_readItem 50 = .ok (.ifCond .eq 28, 3) := by decide +kernel
theorem dX11_readItem_53 : decode cX11_readItem 53 = .ok (.bipush 10, 2) := by decide +kernel
theorem dX11_readItem_55 : decode cX11_readItem 55 = .ok (.iload 6, 2) := by decide +kernel
theorem dX11_readItem_57 : decode cX11_readItem 57 = .ok (.imul, 1) := by decide +kernel
theorem dX11_readItem_58 : decode cX11_readItem 58 = .ok (.aload_n 0, 1) := by decide +kernel
theorem dX11_readItem_59 : decode cX11_readItem 59 = .ok (.invokevirtual 237, 3) := by decide +kernel
theorem dX11_readItem_62 : decode cX11_readItem 62 = .ok (.iadd, 1) := by decide +kernel
theorem dX11_readItem_63 : decode cX11_readItem 63 = .ok (.bipush 48, 2) := by decide +kernel
theorem dX11_readItem_65 : decode cX11_readItem 65 = .ok (.isub, 1) := by decide +kernel
theorem dX11_readItem_66 : decode cX11_readItem 66 = .ok (.istore 6, 2) := by decide +kernel
theorem dX11_readItem_68 : decode cX11_readItem 68 = .ok (.aload_n 0, 1) := by decide +kernel
theorem dX11_readItem_69 : decode cX11_readItem 69 = .ok (.dup, 1) := by decide +kernel
theorem dX11_readItem_70 : decode cX11_readItem 70 = .ok (.getfield 142, 3) := by decide +kernel
theorem dX11_readItem_73 : decode cX11_readItem 73 = .ok (.iconst 1, 1) := by decide +kernel
theorem dX11_readItem_74 : decode cX11_readItem 74 = .ok (.iadd, 1) := by decide +kernel
theorem dX11_readItem_75 : decode cX11_readItem 75 = .ok (.putfield 142, 3) := by decide +kernel
theorem dX11_readItem_78 : decode cX11_readItem 78 = .ok (.aload_n 0, 1) := by decide +kernel
theorem dX11_readItem_79 : decode cX11_readItem 79 = .ok (.invokevirtual 191, 3) := by decide +kernel
theorem dX11_readItem_82 : decode cX11_readItem 82 = .ok (.ifCond .eq 9, 3) := by decide +kernel
theorem dX11_readItem_85 : decode cX11_readItem 85 = .ok (.aload_n 0, 1) := by decide +kernel
theorem dX11_readItem_86 : decode cX11_readItem 86 = .ok (.invokevirtual 157, 3) := by decide +kernel
theorem dX11_readItem_89 : decode cX11_readItem 89 = .ok (.pop, 1) := by decide +kernel
theorem dX11_readItem_90 : decode cX11_readItem 90 = .ok (.return_, 1) := by decide +kernel
theorem dX11_readItem_91 : decode cX11_readItem 91 = .ok (.iload 6, 2) := by decide +kernel
theorem dX11_readItem_93 : decode cX11_readItem 93 = .ok (.i2l, 1) := by decide +kernel
theorem dX11_readItem_94 : decode cX11_readItem 94 = .ok (.iload_n 3, 1) := by decide +kernel
theorem dX11_readItem_95 : decode cX11_readItem 95 = .ok (.i2l, 1) := by decide +kernel
theorem dX11_readItem_96 : decode cX11_readItem 96 = .ok (.iload 4, 2) := by decide +kernel
theorem dX11_readItem_98 : decode cX11_readItem 98 = .ok (.i2l, 1) := by decide +kernel
theorem dX11_readItem_99 : decode cX11_readItem 99 = .ok (.invokestatic 240, 3) := by decide +kernel
theorem dX11_readItem_102 : decode cX11_readItem 102 = .ok (.ifCond .ne 19, 3) := by decide +kernel
theorem dX11_readItem_105 : decode cX11_readItem 105 = .ok (.aload_n 0, 1) := by decide +kernel
theorem dX11_readItem_106 : decode cX11_readItem 106 = .ok (.dup, 1) := by decide +kernel
theorem dX11_readItem_107 : decode cX11_readItem 107 = .ok (.getfield 142, 3) := by decide +kernel
theorem dX11_readItem_110 : decode cX11_readItem 110 = .ok (.iconst 1, 1) := by decide +kernel
theorem dX11_readItem_111 : decode cX11_readItem 111 = .ok (.isub, 1) := by decide +kernel
theorem dX11_readItem_112 : decode cX11_readItem 112 = .ok (.putfield 142, 3) := by decide +kernel
theorem dX11_readItem_115 : decode cX11_readItem 115 = .ok (.aload_n 0, 1) := by decide +kernel
theorem dX11_readItem_116 : decode cX11_readItem 116 = .ok (.invokevirtual 157, 3) := by decide +kernel
theorem dX11_readItem_119 : decode cX11_readItem 119 = .ok (.pop, 1) := by decide +kernel
theorem dX11_readItem_120 : decode cX11_readItem 120 = .ok (.return_, 1) := by decide +kernel
theorem dX11_readItem_121 : decode cX11_readItem 121 = .ok (.aload_n 1, 1) := by decide +kernel
theorem dX11_readItem_122 : decode cX11_readItem 122 = .ok (.iload_n 2, 1) := by decide +kernel
theorem dX11_readItem_123 : decode cX11_readItem 123 = .ok (.iload 6, 2) := by decide +kernel
theorem dX11_readItem_125 : decode cX11_readItem 125 = .ok (.iastore, 1) := by decide +kernel
theorem dX11_readItem_126 : decode cX11_readItem 126 = .ok (.return_, 1) := by decide +kernel
theorem dX11_mostOf_0 : decode cX11_mostOf 0 = .ok (.iload_n 0, 1) := by decide +kernel
theorem dX11_mostOf_1 : decode cX11_mostOf 1 = .ok (.bipush 108, 2) := by decide +kernel
theorem dX11_mostOf_3 : decode cX11_mostOf 3 = .ok (.if_icmp .ne 24, 3) := by decide +kernel
theorem dX11_mostOf_6 : decode cX11_mostOf 6 = .ok (.iload_n 1, 1) := by decide +kernel
theorem dX11_mostOf_7 : decode cX11_mostOf 7 = .ok (.ifCond .ne 8, 3) := by decide +kernel
theorem dX11_mostOf_10 : decode cX11_mostOf 10 = .ok (.bipush 30, 2) := by decide +kernel
theorem dX11_mostOf_12 : decode cX11_mostOf 12 = .ok (.goto 14, 3) := by decide +kernel
theorem dX11_mostOf_15 : decode cX11_mostOf 15 = .ok (.iload_n 1, 1) := by decide +kernel
theorem dX11_mostOf_16 : decode cX11_mostOf 16 = .ok (.iconst 1, 1) := by decide +kernel
theorem dX11_mostOf_17 : decode cX11_mostOf 17 = .ok (.if_icmp .ne 7, 3) := by decide +kernel
theorem dX11_mostOf_20 : decode cX11_mostOf 20 = .ok (.iconst 1, 1) := by decide +kernel
theorem dX11_mostOf_21 : decode cX11_mostOf 21 = .ok (.goto 5, 3) := by decide +kernel
theorem dX11_mostOf_24 : decode cX11_mostOf 24 = .ok (.bipush 20, 2) := by decide +kernel
theorem dX11_mostOf_26 : decode cX11_mostOf 26 = .ok (.ireturn, 1) := by decide +kernel
theorem dX11_mostOf_27 : decode cX11_mostOf 27 = .ok (.iload_n 0, 1) := by decide +kernel
theorem dX11_mostOf_28 : decode cX11_mostOf 28 = .ok (.bipush 112, 2) := by decide +kernel
theorem dX11_mostOf_30 : decode cX11_mostOf 30 = .ok (.if_icmp .eq 9, 3) := by decide +kernel
theorem dX11_mostOf_33 : decode cX11_mostOf 33 = .ok (.iload_n 1, 1) := by decide +kernel
theorem dX11_mostOf_34 : decode cX11_mostOf 34 = .ok (.bipush 6, 2) := by decide +kernel
theorem dX11_mostOf_36 : decode cX11_mostOf 36 = .ok (.if_icmp .ge 8, 3) := by decide +kernel
theorem dX11_mostOf_39 : decode cX11_mostOf 39 = .ok (.bipush 99, 2) := by decide +kernel
theorem dX11_mostOf_41 : decode cX11_mostOf 41 = .ok (.goto 14, 3) := by decide +kernel
theorem dX11_mostOf_44 : decode cX11_mostOf 44 = .ok (.iload_n 1, 1) := by decide +kernel
theorem dX11_mostOf_45 : decode cX11_mostOf 45 = .ok (.bipush 6, 2) := by decide +kernel
theorem dX11_mostOf_47 : decode cX11_mostOf 47 = .ok (.if_icmp .ne 7, 3) := by decide +kernel
theorem dX11_mostOf_50 : decode cX11_mostOf 50 = .ok (.iconst 4, 1) := by decide +kernel
theorem dX11_mostOf_51 : decode cX11_mostOf 51 = .ok (.goto 4, 3) := by decide +kernel
theorem dX11_mostOf_54 : decode cX11_mostOf 54 = .ok (.iconst 5, 1) := by decide +kernel
theorem dX11_mostOf_55 : decode cX11_mostOf 55 = .ok (.ireturn, 1) := by decide +kernel
theorem dX11_readClause_0 : decode cX11_readClause 0 = .ok (.aload_n 0, 1) := by decide +kernel
theorem dX11_readClause_1 : decode cX11_readClause 1 = .ok (.invokevirtual 161, 3) := by decide +kernel
theorem dX11_readClause_4 : decode cX11_readClause 4 = .ok (.istore_n 1, 1) := by decide +kernel
theorem dX11_readClause_5 : decode cX11_readClause 5 = .ok (.iload_n 1, 1) := by decide +kernel
theorem dX11_readClause_6 : decode cX11_readClause 6 = .ok (.bipush 104, 2) := by decide +kernel
theorem dX11_readClause_8 : decode cX11_readClause 8 = .ok (.if_icmp .ne 12, 3) := by decide +kernel
theorem dX11_readClause_11 : decode cX11_readClause 11 = .ok (.aload_n 0, 1) := by decide +kernel
theorem dX11_readClause_12 : decode cX11_readClause 12 = .ok (.getfield 244, 3) := by decide +kernel
theorem dX11_readClause_15 : decode cX11_readClause 15 = .ok (.bipush 6, 2) := by decide +kernel
theorem dX11_readClause_17 : decode cX11_readClause 17 = .ok (.if_icmp .lt 29, 3) := by decide +kernel
theorem dX11_readClause_20 : decode cX11_readClause 20 = .ok (.iload_n 1, 1) := by decide +kernel
theorem dX11_readClause_21 : decode cX11_readClause 21 = .ok (.bipush 112, 2) := by decide +kernel
theorem dX11_readClause_23 : decode cX11_readClause 23 = .ok (.if_icmp .ne 10, 3) := by decide +kernel
theorem dX11_readClause_26 : decode cX11_readClause 26 = .ok (.aload_n 0, 1) := by decide +kernel
theorem dX11_readClause_27 : decode cX11_readClause 27 = .ok (.getfield 247, 3) := by decide +kernel
theorem dX11_readClause_30 : decode cX11_readClause 30 = .ok (.ifCond .eq 16, 3) := by decide +kernel
theorem dX11_readClause_33 : decode cX11_readClause 33 = .ok (.iload_n 1, 1) := by decide +kernel
theorem dX11_readClause_34 : decode cX11_readClause 34 = .ok (.bipush 108, 2) := by decide +kernel
theorem dX11_readClause_36 : decode cX11_readClause 36 = .ok (.if_icmp .ne 14, 3) := by decide +kernel
theorem dX11_readClause_39 : decode cX11_readClause 39 = .ok (.aload_n 0, 1) := by decide +kernel
theorem dX11_readClause_40 : decode cX11_readClause 40 = .ok (.getfield 250, 3) := by decide +kernel
theorem dX11_readClause_43 : decode cX11_readClause 43 = .ok (.ifCond .ne 7, 3) := by decide +kernel
theorem dX11_readClause_46 : decode cX11_readClause 46 = .ok (.iconst 1, 1) := by decide +kernel
theorem dX11_readClause_47 : decode cX11_readClause 47 = .ok (.goto 4, 3) := by decide +kernel
theorem dX11_readClause_50 : decode cX11_readClause 50 = .ok (.iconst 0, 1) := by decide +kernel
theorem dX11_readClause_51 : decode cX11_readClause 51 = .ok (.istore_n 2, 1) := by decide +kernel
theorem dX11_readClause_52 : decode cX11_readClause 52 = .ok (.iload_n 2, 1) := by decide +kernel
theorem dX11_readClause_53 : decode cX11_readClause 53 = .ok (.ifCond .ne 9, 3) := by decide +kernel
theorem dX11_readClause_56 : decode cX11_readClause 56 = .ok (.aload_n 0, 1) := by decide +kernel
theorem dX11_readClause_57 : decode cX11_readClause 57 = .ok (.invokevirtual 157, 3) := by decide +kernel
theorem dX11_readClause_60 : decode cX11_readClause 60 = .ok (.pop, 1) := by decide +kernel
theorem dX11_readClause_61 : decode cX11_readClause 61 = .ok (.return_, 1) := by decide +kernel
theorem dX11_readClause_62 : decode cX11_readClause 62 = .ok (.aload_n 0, 1) := by decide +kernel
theorem dX11_readClause_63 : decode cX11_readClause 63 = .ok (.dup, 1) := by decide +kernel
theorem dX11_readClause_64 : decode cX11_readClause 64 = .ok (.getfield 142, 3) := by decide +kernel
theorem dX11_readClause_67 : decode cX11_readClause 67 = .ok (.iconst 1, 1) := by decide +kernel
theorem dX11_readClause_68 : decode cX11_readClause 68 = .ok (.iadd, 1) := by decide +kernel
theorem dX11_readClause_69 : decode cX11_readClause 69 = .ok (.putfield 142, 3) := by decide +kernel
theorem dX11_readClause_72 : decode cX11_readClause 72 = .ok (.iload_n 1, 1) := by decide +kernel
theorem dX11_readClause_73 : decode cX11_readClause 73 = .ok (.bipush 104, 2) := by decide +kernel
theorem dX11_readClause_75 : decode cX11_readClause 75 = .ok (.if_icmp .ne 13, 3) := by decide +kernel
theorem dX11_readClause_78 : decode cX11_readClause 78 = .ok (.bipush 8, 2) := by decide +kernel
theorem dX11_readClause_80 : decode cX11_readClause 80 = .ok (.aload_n 0, 1) := by decide +kernel
theorem dX11_readClause_81 : decode cX11_readClause 81 = .ok (.getfield 244, 3) := by decide +kernel
theorem dX11_readClause_84 : decode cX11_readClause 84 = .ok (.imul, 1) := by decide +kernel
theorem dX11_readClause_85 : decode cX11_readClause 85 = .ok (.goto 4, 3) := by decide +kernel
theorem dX11_readClause_88 : decode cX11_readClause 88 = .ok (.iconst 0, 1) := by decide +kernel
theorem dX11_readClause_89 : decode cX11_readClause 89 = .ok (.istore_n 3, 1) := by decide +kernel
theorem dX11_readClause_90 : decode cX11_readClause 90 = .ok (.iload_n 1, 1) := by decide +kernel
theorem dX11_readClause_91 : decode cX11_readClause 91 = .ok (.bipush 104, 2) := by decide +kernel
theorem dX11_readClause_93 : decode cX11_readClause 93 = .ok (.if_icmp .ne 10, 3) := by decide +kernel
theorem dX11_readClause_96 : decode cX11_readClause 96 = .ok (.aload_n 0, 1) := by decide +kernel
theorem dX11_readClause_97 : decode cX11_readClause 97 = .ok (.getfield 46, 3) := by decide +kernel
theorem dX11_readClause_100 : decode cX11_readClause 100 = .ok (.goto 20, 3) := by decide +kernel
theorem dX11_readClause_103 : decode cX11_readClause 103 = .ok (.iload_n 1, 1) := by decide +kernel
theorem dX11_readClause_104 : decode cX11_readClause 104 = .ok (.bipush 112, 2) := by decide +kernel
theorem dX11_readClause_106 : decode cX11_readClause 106 = .ok (.if_icmp .ne 10, 3) := by decide +kernel
theorem dX11_readClause_109 : decode cX11_readClause 109 = .ok (.aload_n 0, 1) := by decide +kernel
theorem dX11_readClause_110 : decode cX11_readClause 110 = .ok (.getfield 40, 3) := by decide +kernel
theorem dX11_readClause_113 : decode cX11_readClause 113 = .ok (.goto 7, 3) := by decide +kernel
theorem dX11_readClause_116 : decode cX11_readClause 116 = .ok (.aload_n 0, 1) := by decide +kernel
theorem dX11_readClause_117 : decode cX11_readClause 117 = .ok (.getfield 52, 3) := by decide +kernel
theorem dX11_readClause_120 : decode cX11_readClause 120 = .ok (.astore 4, 2) := by decide +kernel
theorem dX11_readClause_122 : decode cX11_readClause 122 = .ok (.iload_n 1, 1) := by decide +kernel
theorem dX11_readClause_123 : decode cX11_readClause 123 = .ok (.bipush 104, 2) := by decide +kernel
theorem dX11_readClause_125 : decode cX11_readClause 125 = .ok (.if_icmp .ne 8, 3) := by decide +kernel
theorem dX11_readClause_128 : decode cX11_readClause 128 = .ok (.ldc 253, 2) := by decide +kernel
theorem dX11_readClause_130 : decode cX11_readClause 130 = .ok (.goto 17, 3) := by decide +kernel
theorem dX11_readClause_133 : decode cX11_readClause 133 = .ok (.iload_n 1, 1) := by decide +kernel
theorem dX11_readClause_134 : decode cX11_readClause 134 = .ok (.bipush 112, 2) := by decide +kernel
theorem dX11_readClause_136 : decode cX11_readClause 136 = .ok (.if_icmp .ne 8, 3) := by decide +kernel
theorem dX11_readClause_139 : decode cX11_readClause 139 = .ok (.ldc 255, 2) := by decide +kernel
theorem dX11_readClause_141 : decode cX11_readClause 141 = .ok (.goto 6, 3) := by decide +kernel
theorem dX11_readClause_144 : decode cX11_readClause 144 = .ok (.ldc_w 257, 3) := by decide +kernel
theorem dX11_readClause_147 : decode cX11_readClause 147 = .ok (.astore 5, 2) := by decide +kernel
theorem dX11_readClause_149 : decode cX11_readClause 149 = .ok (.iload_n 1, 1) := by decide +kernel
theorem dX11_readClause_150 : decode cX11_readClause 150 = .ok (.bipush 112, 2) := by decide +kernel
theorem dX11_readClause_152 : decode cX11_readClause 152 = .ok (.if_icmp .ne 8, 3) := by decide +kernel
theorem dX11_readClause_155 : decode cX11_readClause 155 = .ok (.aload_n 0, 1) := by decide +kernel
theorem dX11_readClause_156 : decode cX11_readClause 156 = .ok (.iconst 1, 1) := by decide +kernel
theorem dX11_readClause_157 : decode cX11_readClause 157 = .ok (.putfield 247, 3) := by decide +kernel
theorem dX11_readClause_160 : decode cX11_readClause 160 = .ok (.iload_n 1, 1) := by decide +kernel
theorem dX11_readClause_161 : decode cX11_readClause 161 = .ok (.bipush 108, 2) := by decide +kernel
theorem dX11_readClause_163 : decode cX11_readClause 163 = .ok (.if_icmp .ne 8, 3) := by decide +kernel
theorem dX11_readClause_166 : decode cX11_readClause 166 = .ok (.aload_n 0, 1) := by decide +kernel
theorem dX11_readClause_167 : decode cX11_readClause 167 = .ok (.iconst 1, 1) := by decide +kernel
theorem dX11_readClause_168 : decode cX11_readClause 168 = .ok (.putfield 250, 3) := by decide +kernel
theorem dX11_readClause_171 : decode cX11_readClause 171 = .ok (.iload_n 1, 1) := by decide +kernel
theorem dX11_readClause_172 : decode cX11_readClause 172 = .ok (.bipush 104, 2) := by decide +kernel
theorem dX11_readClause_174 : decode cX11_readClause 174 = .ok (.if_icmp .ne 61, 3) := by decide +kernel
theorem dX11_readClause_177 : decode cX11_readClause 177 = .ok (.aload_n 0, 1) := by decide +kernel
theorem dX11_readClause_178 : decode cX11_readClause 178 = .ok (.dup, 1) := by decide +kernel
theorem dX11_readClause_179 : decode cX11_readClause 179 = .ok (.getfield 244, 3) := by decide +kernel
theorem dX11_readClause_182 : decode cX11_readClause 182 = .ok (.iconst 1, 1) := by decide +kernel
theorem dX11_readClause_183 : decode cX11_readClause 183 = .ok (.iadd, 1) := by decide +kernel
theorem dX11_readClause_184 : decode cX11_readClause 184 = .ok (.putfield 244, 3) := by decide +kernel
theorem dX11_readClause_187 : decode cX11_readClause 187 = .ok (.iconst 0, 1) := by decide +kernel
theorem dX11_readClause_188 : decode cX11_readClause 188 = .ok (.istore 6, 2) := by decide +kernel
theorem dX11_readClause_190 : decode cX11_readClause 190 = .ok (.iload 6, 2) := by decide +kernel
theorem dX11_readClause_192 : decode cX11_readClause 192 = .ok (.bipush 8, 2) := by decide +kernel
theorem dX11_readClause_194 : decode cX11_readClause 194 = .ok (.if_icmp .ge 41, 3) := by decide +kernel
theorem dX11_readClause_197 : decode cX11_readClause 197 = .ok (.aload_n 0, 1) := by decide +kernel
theorem dX11_readClause_198 : decode cX11_readClause 198 = .ok (.getfield 46, 3) := by decide +kernel
theorem dX11_readClause_201 : decode cX11_readClause 201 = .ok (.iload_n 3, 1) := by decide +kernel
theorem dX11_readClause_202 : decode cX11_readClause 202 = .ok (.iload 6, 2) := by decide +kernel
theorem dX11_readClause_204 : decode cX11_readClause 204 = .ok (.iadd, 1) := by decide +kernel
theorem dX11_readClause_205 : decode cX11_readClause 205 = .ok (.iload 6, 2) := by decide +kernel
theorem dX11_readClause_207 : decode cX11_readClause 207 = .ok (.iconst 5, 1) := by decide +kernel
theorem dX11_readClause_208 : decode cX11_readClause 208 = .ok (.if_icmp .ne 8, 3) := by decide +kernel
theorem dX11_readClause_211 : decode cX11_readClause 211 = .ok (.bipush 20, 2) := by decide +kernel
theorem dX11_readClause_213 : decode cX11_readClause 213 = .ok (.goto 15, 3) := by decide +kernel
theorem dX11_readClause_216 : decode cX11_readClause 216 = .ok (.iload 6, 2) := by decide +kernel
theorem dX11_readClause_218 : decode cX11_readClause 218 = .ok (.bipush 7, 2) := by decide +kernel
theorem dX11_readClause_220 : decode cX11_readClause 220 = .ok (.if_icmp .ne 7, 3) := by decide +kernel
theorem dX11_readClause_223 : decode cX11_readClause 223 = .ok (.iconst 5, 1) := by decide +kernel
theorem dX11_readClause_224 : decode cX11_readClause 224 = .ok (.goto 4, 3) := by decide +kernel
theorem dX11_readClause_227 : decode cX11_readClause 227 = .ok (.iconst 0, 1) := by decide +kernel
theorem dX11_readClause_228 : decode cX11_readClause 228 = .ok (.iastore, 1) := by decide +kernel
theorem dX11_readClause_229 : decode cX11_readClause 229 = .ok (.iinc 6 1, 3) := by decide +kernel
theorem dX11_readClause_232 : decode cX11_readClause 232 = .ok (.goto (-42), 3) := by decide +kernel
theorem dX11_readClause_235 : decode cX11_readClause 235 = .ok (.iconst 0, 1) := by decide +kernel
theorem dX11_readClause_236 : decode cX11_readClause 236 = .ok (.istore 6, 2) := by decide +kernel
theorem dX11_readClause_238 : decode cX11_readClause 238 = .ok (.aload 5, 2) := by decide +kernel
theorem dX11_readClause_240 : decode cX11_readClause 240 = .ok (.aload_n 0, 1) := by decide +kernel
theorem dX11_readClause_241 : decode cX11_readClause 241 = .ok (.invokevirtual 161, 3) := by decide +kernel
theorem dX11_readClause_244 : decode cX11_readClause 244 = .ok (.invokestatic 259, 3) := by decide +kernel
theorem dX11_readClause_247 : decode cX11_readClause 247 = .ok (.istore 7, 2) := by decide +kernel
theorem dX11_readClause_249 : decode cX11_readClause 249 = .ok (.iload 7, 2) := by decide +kernel
theorem dX11_readClause_251 : decode cX11_readClause 251 = .ok (.iconst (-1), 1) := by decide +kernel
theorem dX11_readClause_252 : decode cX11_readClause 252 = .ok (.if_icmp .eq 90, 3) := by decide +kernel
theorem dX11_readClause_255 : decode cX11_readClause 255 = .ok (.aload_n 0, 1) := by decide +kernel
theorem dX11_readClause_256 : decode cX11_readClause 256 = .ok (.getfield 151, 3) := by decide +kernel
theorem dX11_readClause_259 : decode cX11_readClause 259 = .ok (.iconst (-1), 1) := by decide +kernel
theorem dX11_readClause_260 : decode cX11_readClause 260 = .ok (.if_icmp .ne 82, 3) := by decide +kernel
theorem dX11_readClause_263 : decode cX11_readClause 263 = .ok (.iload 6, 2) := by decide +kernel
theorem dX11_readClause_265 : decode cX11_readClause 265 = .ok (.iload 7, 2) := by decide +kernel
theorem dX11_readClause_267 : decode cX11_readClause 267 = .ok (.invokestatic 263, 3) := by decide +kernel
theorem dX11_readClause_270 : decode cX11_readClause 270 = .ok (.ifCond .eq 9, 3) := by decide +kernel
theorem dX11_readClause_273 : decode cX11_readClause 273 = .ok (.aload_n 0, 1) := by decide +kernel
theorem dX11_readClause_274 : decode cX11_readClause 274 = .ok (.invokevirtual 157, 3) := by decide +kernel
theorem dX11_readClause_277 : decode cX11_readClause 277 = .ok (.pop, 1) := by decide +kernel
theorem dX11_readClause_278 : decode cX11_readClause 278 = .ok (.return_, 1) := by decide +kernel
theorem dX11_readClause_279 : decode cX11_readClause 279 = .ok (.iload 6, 2) := by decide +kernel
theorem dX11_readClause_281 : decode cX11_readClause 281 = .ok (.iconst 1, 1) := by decide +kernel
theorem dX11_readClause_282 : decode cX11_readClause 282 = .ok (.iload 7, 2) := by decide +kernel
theorem dX11_readClause_284 : decode cX11_readClause 284 = .ok (.ishl, 1) := by decide +kernel
theorem dX11_readClause_285 : decode cX11_readClause 285 = .ok (.ior, 1) := by decide +kernel
theorem dX11_readClause_286 : decode cX11_readClause 286 = .ok (.istore 6, 2) := by decide +kernel
theorem dX11_readClause_288 : decode cX11_readClause 288 = .ok (.aload_n 0, 1) := by decide +kernel
theorem dX11_readClause_289 : decode cX11_readClause 289 = .ok (.aload 4, 2) := by decide +kernel
theorem dX11_readClause_291 : decode cX11_readClause 291 = .ok (.iload_n 3, 1) := by decide +kernel
theorem dX11_readClause_292 : decode cX11_readClause 292 = .ok (.iload 7, 2) := by decide +kernel
theorem dX11_readClause_294 : decode cX11_readClause 294 = .ok (.iadd, 1) := by decide +kernel
theorem dX11_readClause_295 : decode cX11_readClause 295 = .ok (.iload_n 1, 1) := by decide +kernel
theorem dX11_readClause_296 : decode cX11_readClause 296 = .ok (.bipush 108, 2) := by decide +kernel
theorem dX11_readClause_298 : decode cX11_readClause 298 = .ok (.if_icmp .ne 12, 3) := by decide +kernel
theorem dX11_readClause_301 : decode cX11_readClause 301 = .ok (.iload 7, 2) := by decide +kernel
theorem dX11_readClause_303 : decode cX11_readClause 303 = .ok (.ifCond .ne 7, 3) := by decide +kernel
theorem dX11_readClause_306 : decode cX11_readClause 306 = .ok (.iconst 1, 1) := by decide +kernel
theorem dX11_readClause_307 : decode cX11_readClause 307 = .ok (.goto 4, 3) := by decide +kernel
theorem dX11_readClause_310 : decode cX11_readClause 310 = .ok (.iconst 0, 1) := by decide +kernel
theorem dX11_readClause_311 : decode cX11_readClause 311 = .ok (.iload_n 1, 1) := by decide +kernel
theorem dX11_readClause_312 : decode cX11_readClause 312 = .ok (.iload 7, 2) := by decide +kernel
theorem dX11_readClause_314 : decode cX11_readClause 314 = .ok (.invokestatic 267, 3) := by decide +kernel
theorem dX11_readClause_317 : decode cX11_readClause 317 = .ok (.invokevirtual 271, 3) := by decide +kernel
theorem dX11_readClause_320 : decode cX11_readClause 320 = .ok (.aload_n 0, 1) := by decide +kernel
theorem dX11_readClause_321 : decode cX11_readClause 321 = .ok (.getfield 151, 3) := by decide +kernel
theorem dX11_readClause_324 : decode cX11_readClause 324 = .ok (.iconst (-1), 1) := by decide +kernel
theorem dX11_readClause_325 : decode cX11_readClause 325 = .ok (.if_icmp .ne (-76), 3) := by decide +kernel
theorem dX11_readClause_328 : decode cX11_readClause 328 = .ok (.aload 5, 2) := by decide +kernel
theorem dX11_readClause_330 : decode cX11_readClause 330 = .ok (.aload_n 0, 1) := by decide +kernel
theorem dX11_readClause_331 : decode cX11_readClause 331 = .ok (.invokevirtual 161, 3) := by decide +kernel
theorem dX11_readClause_334 : decode cX11_readClause 334 = .ok (.invokestatic 259, 3) := by decide +kernel
theorem dX11_readClause_337 : decode cX11_readClause 337 = .ok (.istore 7, 2) := by decide +kernel
theorem dX11_readClause_339 : decode cX11_readClause 339 = .ok (.goto (-90), 3) := by decide +kernel
theorem dX11_readClause_342 : decode cX11_readClause 342 = .ok (.return_, 1) := by decide +kernel
theorem dX11_readStreet_0 : decode cX11_readStreet 0 = .ok (.aload_n 0, 1) := by decide +kernel
theorem dX11_readStreet_1 : decode cX11_readStreet 1 = .ok (.aload_n 0, 1) := by decide +kernel
theorem dX11_readStreet_2 : decode cX11_readStreet 2 = .ok (.getfield 9, 3) := by decide +kernel
theorem dX11_readStreet_5 : decode cX11_readStreet 5 = .ok (.iconst 0, 1) := by decide +kernel
theorem dX11_readStreet_6 : decode cX11_readStreet 6 = .ok (.aload_n 0, 1) := by decide +kernel
theorem dX11_readStreet_7 : decode cX11_readStreet 7 = .ok (.getfield 132, 3) := by decide +kernel
theorem dX11_readStreet_10 : decode cX11_readStreet 10 = .ok (.invokevirtual 230, 3) := by decide +kernel
theorem dX11_readStreet_13 : decode cX11_readStreet 13 = .ok (.aload_n 0, 1) := by decide +kernel
theorem dX11_readStreet_14 : decode cX11_readStreet 14 = .ok (.iconst 0, 1) := by decide +kernel
theorem dX11_readStreet_15 : decode cX11_readStreet 15 = .ok (.putfield 244, 3) := by decide +kernel
theorem dX11_readStreet_18 : decode cX11_readStreet 18 = .ok (.aload_n 0, 1) := by decide +kernel
theorem dX11_readStreet_19 : decode cX11_readStreet 19 = .ok (.iconst 0, 1) := by decide +kernel
theorem dX11_readStreet_20 : decode cX11_readStreet 20 = .ok (.putfield 247, 3) := by decide +kernel
theorem dX11_readStreet_23 : decode cX11_readStreet 23 = .ok (.aload_n 0, 1) := by decide +kernel
theorem dX11_readStreet_24 : decode cX11_readStreet 24 = .ok (.iconst 0, 1) := by decide +kernel
theorem dX11_readStreet_25 : decode cX11_readStreet 25 = .ok (.putfield 250, 3) := by decide +kernel
theorem dX11_readStreet_28 : decode cX11_readStreet 28 = .ok (.iconst 0, 1) := by decide +kernel
theorem dX11_readStreet_29 : decode cX11_readStreet 29 = .ok (.istore_n 1, 1) := by decide +kernel
theorem dX11_readStreet_30 : decode cX11_readStreet 30 = .ok (.iload_n 1, 1) := by decide +kernel
theorem dX11_readStreet_31 : decode cX11_readStreet 31 = .ok (.iconst 5, 1) := by decide +kernel
theorem dX11_readStreet_32 : decode cX11_readStreet 32 = .ok (.if_icmp .ge 25, 3) := by decide +kernel
theorem dX11_readStreet_35 : decode cX11_readStreet 35 = .ok (.aload_n 0, 1) := by decide +kernel
theorem dX11_readStreet_36 : decode cX11_readStreet 36 = .ok (.getfield 40, 3) := by decide +kernel
theorem dX11_readStreet_39 : decode cX11_readStreet 39 = .ok (.iload_n 1, 1) := by decide +kernel
theorem dX11_readStreet_40 : decode cX11_readStreet 40 = .ok (.iload_n 1, 1) := by decide +kernel
theorem dX11_readStreet_41 : decode cX11_readStreet 41 = .ok (.ifCond .ne 8, 3) := by decide +kernel
theorem dX11_readStreet_44 : decode cX11_readStreet 44 = .ok (.bipush 50, 2) := by decide +kernel
theorem dX11_readStreet_46 : decode cX11_readStreet 46 = .ok (.goto 4, 3) := by decide +kernel
theorem dX11_readStreet_49 : decode cX11_readStreet 49 = .ok (.iconst 0, 1) := by decide +kernel
theorem dX11_readStreet_50 : decode cX11_readStreet 50 = .ok (.iastore, 1) := by decide +kernel
theorem dX11_readStreet_51 : decode cX11_readStreet 51 = .ok (.iinc 1 1, 3) := by decide +kernel
theorem dX11_readStreet_54 : decode cX11_readStreet 54 = .ok (.goto (-24), 3) := by decide +kernel
theorem dX11_readStreet_57 : decode cX11_readStreet 57 = .ok (.aload_n 0, 1) := by decide +kernel
theorem dX11_readStreet_58 : decode cX11_readStreet 58 = .ok (.getfield 52, 3) := by decide +kernel
theorem dX11_readStreet_61 : decode cX11_readStreet 61 = .ok (.iconst 0, 1) := by decide +kernel
theorem dX11_readStreet_62 : decode cX11_readStreet 62 = .ok (.bipush 10, 2) := by decide +kernel
theorem dX11_readStreet_64 : decode cX11_readStreet 64 = .ok (.iastore, 1) := by decide +kernel
theorem dX11_readStreet_65 : decode cX11_readStreet 65 = .ok (.aload_n 0, 1) := by decide +kernel
theorem dX11_readStreet_66 : decode cX11_readStreet 66 = .ok (.getfield 52, 3) := by decide +kernel
theorem dX11_readStreet_69 : decode cX11_readStreet 69 = .ok (.iconst 1, 1) := by decide +kernel
theorem dX11_readStreet_70 : decode cX11_readStreet 70 = .ok (.iconst 1, 1) := by decide +kernel
theorem dX11_readStreet_71 : decode cX11_readStreet 71 = .ok (.iastore, 1) := by decide +kernel
theorem dX11_readStreet_72 : decode cX11_readStreet 72 = .ok (.aload_n 0, 1) := by decide +kernel
theorem dX11_readStreet_73 : decode cX11_readStreet 73 = .ok (.getfield 52, 3) := by decide +kernel
theorem dX11_readStreet_76 : decode cX11_readStreet 76 = .ok (.iconst 2, 1) := by decide +kernel
theorem dX11_readStreet_77 : decode cX11_readStreet 77 = .ok (.iconst 5, 1) := by decide +kernel
theorem dX11_readStreet_78 : decode cX11_readStreet 78 = .ok (.iastore, 1) := by decide +kernel
theorem dX11_readStreet_79 : decode cX11_readStreet 79 = .ok (.iconst 1, 1) := by decide +kernel
theorem dX11_readStreet_80 : decode cX11_readStreet 80 = .ok (.istore_n 1, 1) := by decide +kernel
theorem dX11_readStreet_81 : decode cX11_readStreet 81 = .ok (.iload_n 1, 1) := by decide +kernel
theorem dX11_readStreet_82 : decode cX11_readStreet 82 = .ok (.ifCond .eq 55, 3) := by decide +kernel
theorem dX11_readStreet_85 : decode cX11_readStreet 85 = .ok (.aload_n 0, 1) := by decide +kernel
theorem dX11_readStreet_86 : decode cX11_readStreet 86 = .ok (.getfield 151, 3) := by decide +kernel
theorem dX11_readStreet_89 : decode cX11_readStreet 89 = .ok (.iconst (-1), 1) := by decide +kernel
theorem dX11_readStreet_90 : decode cX11_readStreet 90 = .ok (.if_icmp .ne 47, 3) := by decide +kernel
theorem dX11_readStreet_93 : decode cX11_readStreet 93 = .ok (.aload_n 0, 1) := by decide +kernel
theorem dX11_readStreet_94 : decode cX11_readStreet 94 = .ok (.invokevirtual 275, 3) := by decide +kernel
theorem dX11_readStreet_97 : decode cX11_readStreet 97 = .ok (.aload_n 0, 1) := by decide +kernel
theorem dX11_readStreet_98 : decode cX11_readStreet 98 = .ok (.getfield 151, 3) := by decide +kernel
theorem dX11_readStreet_101 : decode cX11_readStreet 101 = .ok (.iconst (-1), 1) := by decide +kernel
theorem dX11_readStreet_102 : decode cX11_readStreet 102 = .ok (.if_icmp .ne 16, 3) := by decide +kernel
theorem dX11_readStreet_105 : decode cX11_readStreet 105 = .ok (.aload_n 0, 1) := by decide +kernel
theorem dX11_readStreet_106 : decode cX11_readStreet 106 = .ok (.invokevirtual 161, 3) := by decide +kernel
theorem dX11_readStreet_109 : decode cX11_readStreet 109 = .ok (.bipush 59, 2) := by decide +kernel
theorem dX11_readStreet_111 : decode cX11_readStreet 111 = .ok (.if_icmp .ne 7, 3) := by decide +kernel
theorem dX11_readStreet_114 : decode cX11_readStreet 114 = .ok (.iconst 1, 1) := by decide +kernel
theorem dX11_readStreet_115 : decode cX11_readStreet 115 = .ok (.goto 4, 3) := by decide +kernel
theorem dX11_readStreet_118 : decode cX11_readStreet 118 = .ok (.iconst 0, 1) := by decide +kernel
theorem dX11_readStreet_119 : decode cX11_readStreet 119 = .ok (.istore_n 1, 1) := by decide +kernel
theorem dX11_readStreet_120 : decode cX11_readStreet 120 = .ok (.iload_n 1, 1) := by decide +kernel
theorem dX11_readStreet_121 : decode cX11_readStreet 121 = .ok (.ifCond .eq (-40), 3) := by decide +kernel
theorem dX11_readStreet_124 : decode cX11_readStreet 124 = .ok (.aload_n 0, 1) := by decide +kernel
theorem dX11_readStreet_125 : decode cX11_readStreet 125 = .ok (.dup, 1) := by decide +kernel
theorem dX11_readStreet_126 : decode cX11_readStreet 126 = .ok (.getfield 142, 3) := by decide +kernel
theorem dX11_readStreet_129 : decode cX11_readStreet 129 = .ok (.iconst 1, 1) := by decide +kernel
theorem dX11_readStreet_130 : decode cX11_readStreet 130 = .ok (.iadd, 1) := by decide +kernel
theorem dX11_readStreet_131 : decode cX11_readStreet 131 = .ok (.putfield 142, 3) := by decide +kernel
theorem dX11_readStreet_134 : decode cX11_readStreet 134 = .ok (.goto (-53), 3) := by decide +kernel
theorem dX11_readStreet_137 : decode cX11_readStreet 137 = .ok (.aload_n 0, 1) := by decide +kernel
theorem dX11_readStreet_138 : decode cX11_readStreet 138 = .ok (.getfield 151, 3) := by decide +kernel
theorem dX11_readStreet_141 : decode cX11_readStreet 141 = .ok (.iconst (-1), 1) := by decide +kernel
theorem dX11_readStreet_142 : decode cX11_readStreet 142 = .ok (.if_icmp .ne 23, 3) := by decide +kernel
theorem dX11_readStreet_145 : decode cX11_readStreet 145 = .ok (.aload_n 0, 1) := by decide +kernel
theorem dX11_readStreet_146 : decode cX11_readStreet 146 = .ok (.invokevirtual 161, 3) := by decide +kernel
theorem dX11_readStreet_149 : decode cX11_readStreet 149 = .ok (.iconst (-1), 1) := by decide +kernel
theorem dX11_readStreet_150 : decode cX11_readStreet 150 = .ok (.if_icmp .ne 10, 3) := by decide +kernel
theorem dX11_readStreet_153 : decode cX11_readStreet 153 = .ok (.aload_n 0, 1) := by decide +kernel
theorem dX11_readStreet_154 : decode cX11_readStreet 154 = .ok (.getfield 244, 3) := by decide +kernel
theorem dX11_readStreet_157 : decode cX11_readStreet 157 = .ok (.ifCond .ne 8, 3) := by decide +kernel
theorem dX11_readStreet_160 : decode cX11_readStreet 160 = .ok (.aload_n 0, 1) := by decide +kernel
theorem dX11_readStreet_161 : decode cX11_readStreet 161 = .ok (.invokevirtual 157, 3) := by decide +kernel
theorem dX11_readStreet_164 : decode cX11_readStreet 164 = .ok (.pop, 1) := by decide +kernel
theorem dX11_readStreet_165 : decode cX11_readStreet 165 = .ok (.return_, 1) := by decide +kernel
theorem dX11_fault_0 : decode cX11_fault 0 = .ok (.aload_n 0, 1) := by decide +kernel
theorem dX11_fault_1 : decode cX11_fault 1 = .ok (.iconst 0, 1) := by decide +kernel
theorem dX11_fault_2 : decode cX11_fault 2 = .ok (.putfield 119, 3) := by decide +kernel
theorem dX11_fault_5 : decode cX11_fault 5 = .ok (.iload_n 1, 1) := by decide +kernel
theorem dX11_fault_6 : decode cX11_fault 6 = .ok (.i2l, 1) := by decide +kernel
theorem dX11_fault_7 : decode cX11_fault 7 = .ok (.lconst 0, 1) := by decide +kernel
theorem dX11_fault_8 : decode cX11_fault 8 = .ok (.lconst 1, 1) := by decide +kernel
theorem dX11_fault_9 : decode cX11_fault 9 = .ok (.invokestatic 240, 3) := by decide +kernel
theorem dX11_fault_12 : decode cX11_fault 12 = .ok (.ifCond .ne 6, 3) := by decide +kernel
theorem dX11_fault_15 : decode cX11_fault 15 = .ok (.bipush (-2), 2) := by decide +kernel
theorem dX11_fault_17 : decode cX11_fault 17 = .ok (.ireturn, 1) := by decide +kernel
theorem dX11_fault_18 : decode cX11_fault 18 = .ok (.iload_n 1, 1) := by decide +kernel
theorem dX11_fault_19 : decode cX11_fault 19 = .ok (.ifCond .ne 10, 3) := by decide +kernel
theorem dX11_fault_22 : decode cX11_fault 22 = .ok (.aload_n 0, 1) := by decide +kernel
theorem dX11_fault_23 : decode cX11_fault 23 = .ok (.invokevirtual 278, 3) := by decide +kernel
theorem dX11_fault_26 : decode cX11_fault 26 = .ok (.goto 16, 3) := by decide +kernel
theorem dX11_fault_29 : decode cX11_fault 29 = .ok (.aload_n 0, 1) := by decide +kernel
theorem dX11_fault_30 : decode cX11_fault 30 = .ok (.aload_n 0, 1) := by decide +kernel
theorem dX11_fault_31 : decode cX11_fault 31 = .ok (.getfield 9, 3) := by decide +kernel
theorem dX11_fault_34 : decode cX11_fault 34 = .ok (.iconst 0, 1) := by decide +kernel
theorem dX11_fault_35 : decode cX11_fault 35 = .ok (.aload_n 0, 1) := by decide +kernel
theorem dX11_fault_36 : decode cX11_fault 36 = .ok (.getfield 132, 3) := by decide +kernel
theorem dX11_fault_39 : decode cX11_fault 39 = .ok (.invokevirtual 281, 3) := by decide +kernel
theorem dX11_fault_42 : decode cX11_fault 42 = .ok (.aload_n 0, 1) := by decide +kernel
theorem dX11_fault_43 : decode cX11_fault 43 = .ok (.getfield 151, 3) := by decide +kernel
theorem dX11_fault_46 : decode cX11_fault 46 = .ok (.ireturn, 1) := by decide +kernel
theorem dX11_text_0 : decode cX11_text 0 = .ok (.aload_n 0, 1) := by decide +kernel
theorem dX11_text_1 : decode cX11_text 1 = .ok (.iconst 0, 1) := by decide +kernel
theorem dX11_text_2 : decode cX11_text 2 = .ok (.putfield 119, 3) := by decide +kernel
theorem dX11_text_5 : decode cX11_text 5 = .ok (.iload_n 1, 1) := by decide +kernel
theorem dX11_text_6 : decode cX11_text 6 = .ok (.i2l, 1) := by decide +kernel
theorem dX11_text_7 : decode cX11_text 7 = .ok (.lconst 0, 1) := by decide +kernel
theorem dX11_text_8 : decode cX11_text 8 = .ok (.lconst 1, 1) := by decide +kernel
theorem dX11_text_9 : decode cX11_text 9 = .ok (.invokestatic 240, 3) := by decide +kernel
theorem dX11_text_12 : decode cX11_text 12 = .ok (.ifCond .eq 25, 3) := by decide +kernel
theorem dX11_text_15 : decode cX11_text 15 = .ok (.iload_n 1, 1) := by decide +kernel
theorem dX11_text_16 : decode cX11_text 16 = .ok (.iconst 1, 1) := by decide +kernel
theorem dX11_text_17 : decode cX11_text 17 = .ok (.if_icmp .ne 11, 3) := by decide +kernel
theorem dX11_text_20 : decode cX11_text 20 = .ok (.aload_n 0, 1) := by decide +kernel
theorem dX11_text_21 : decode cX11_text 21 = .ok (.getfield 284, 3) := by decide +kernel
theorem dX11_text_24 : decode cX11_text 24 = .ok (.iconst 4, 1) := by decide +kernel
theorem dX11_text_25 : decode cX11_text 25 = .ok (.if_icmp .eq 12, 3) := by decide +kernel
theorem dX11_text_28 : decode cX11_text 28 = .ok (.aload_n 0, 1) := by decide +kernel
theorem dX11_text_29 : decode cX11_text 29 = .ok (.iload_n 1, 1) := by decide +kernel
theorem dX11_text_30 : decode cX11_text 30 = .ok (.invokevirtual 287, 3) := by decide +kernel
theorem dX11_text_33 : decode cX11_text 33 = .ok (.iconst (-1), 1) := by decide +kernel
theorem dX11_text_34 : decode cX11_text 34 = .ok (.if_icmp .eq 5, 3) := by decide +kernel
theorem dX11_text_37 : decode cX11_text 37 = .ok (.iconst (-1), 1) := by decide +kernel
theorem dX11_text_38 : decode cX11_text 38 = .ok (.ireturn, 1) := by decide +kernel
theorem dX11_text_39 : decode cX11_text 39 = .ok (.aload_n 0, 1) := by decide +kernel
theorem dX11_text_40 : decode cX11_text 40 = .ok (.getfield 132, 3) := by decide +kernel
theorem dX11_text_43 : decode cX11_text 43 = .ok (.istore_n 2, 1) := by decide +kernel
theorem dX11_text_44 : decode cX11_text 44 = .ok (.aload_n 0, 1) := by decide +kernel
theorem dX11_text_45 : decode cX11_text 45 = .ok (.iconst 0, 1) := by decide +kernel
theorem dX11_text_46 : decode cX11_text 46 = .ok (.putfield 132, 3) := by decide +kernel
theorem dX11_text_49 : decode cX11_text 49 = .ok (.iload_n 1, 1) := by decide +kernel
theorem dX11_text_50 : decode cX11_text 50 = .ok (.iconst 1, 1) := by decide +kernel
theorem dX11_text_51 : decode cX11_text 51 = .ok (.if_icmp .ne 64, 3) := by decide +kernel
theorem dX11_text_54 : decode cX11_text 54 = .ok (.iconst 0, 1) := by decide +kernel
theorem dX11_text_55 : decode cX11_text 55 = .ok (.istore_n 3, 1) := by decide +kernel
theorem dX11_text_56 : decode cX11_text 56 = .ok (.iload_n 3, 1) := by decide +kernel
theorem dX11_text_57 : decode cX11_text 57 = .ok (.iload_n 2, 1) := by decide +kernel
theorem dX11_text_58 : decode cX11_text 58 = .ok (.if_icmp .ge 30, 3) := by decide +kernel
theorem dX11_text_61 : decode cX11_text 61 = .ok (.aload_n 0, 1) := by decide +kernel
theorem dX11_text_62 : decode cX11_text 62 = .ok (.getfield 13, 3) := by decide +kernel
theorem dX11_text_65 : decode cX11_text 65 = .ok (.sipush 160, 3) := by decide +kernel
theorem dX11_text_68 : decode cX11_text 68 = .ok (.aload_n 0, 1) := by decide +kernel
theorem dX11_text_69 : decode cX11_text 69 = .ok (.getfield 284, 3) := by decide +kernel
theorem dX11_text_72 : decode cX11_text 72 = .ok (.imul, 1) := by decide +kernel
theorem dX11_text_73 : decode cX11_text 73 = .ok (.iload_n 3, 1) := by decide +kernel
theorem dX11_text_74 : decode cX11_text 74 = .ok (.iadd, 1) := by decide +kernel
theorem dX11_text_75 : decode cX11_text 75 = .ok (.aload_n 0, 1) := by decide +kernel
theorem dX11_text_76 : decode cX11_text 76 = .ok (.getfield 9, 3) := by decide +kernel
theorem dX11_text_79 : decode cX11_text 79 = .ok (.iload_n 3, 1) := by decide +kernel
theorem dX11_text_80 : decode cX11_text 80 = .ok (.baload, 1) := by decide +kernel
theorem dX11_text_81 : decode cX11_text 81 = .ok (.bastore, 1) := by decide +kernel
theorem dX11_text_82 : decode cX11_text 82 = .ok (.iinc 3 1, 3) := by decide +kernel
theorem dX11_text_85 : decode cX11_text 85 = .ok (.goto (-29), 3) := by decide +kernel
theorem dX11_text_88 : decode cX11_text 88 = .ok (.aload_n 0, 1) := by decide +kernel
theorem dX11_text_89 : decode cX11_text 89 = .ok (.getfield 16, 3) := by decide +kernel
theorem dX11_text_92 : decode cX11_text 92 = .ok (.aload_n 0, 1) := by decide +kernel
theorem dX11_text_93 : decode cX11_text 93 = .ok (.getfield 284, 3) := by decide +kernel
theorem dX11_text_96 : decode cX11_text 96 = .ok (.iload_n 2, 1) := by decide +kernel
theorem dX11_text_97 : decode cX11_text 97 = .ok (.iastore, 1) := by decide +kernel
theorem dX11_text_98 : decode cX11_text 98 = .ok (.aload_n 0, 1) := by decide +kernel
theorem dX11_text_99 : decode cX11_text 99 = .ok (.dup, 1) := by decide +kernel
theorem dX11_text_100 : decode cX11_text 100 = .ok (.getfield 284, 3) := by decide +kernel
theorem dX11_text_103 : decode cX11_text 103 = .ok (.iconst 1, 1) := by decide +kernel
theorem dX11_text_104 : decode cX11_text 104 = .ok (.iadd, 1) := by decide +kernel
theorem dX11_text_105 : decode cX11_text 105 = .ok (.putfield 284, 3) := by decide +kernel
theorem dX11_text_108 : decode cX11_text 108 = .ok (.aload_n 0, 1) := by decide +kernel
theorem dX11_text_109 : decode cX11_text 109 = .ok (.getfield 284, 3) := by decide +kernel
theorem dX11_text_112 : decode cX11_text 112 = .ok (.iconst 1, 1) := by decide +kernel
theorem dX11_text_113 : decode cX11_text 113 = .ok (.isub, 1) := by decide +kernel
theorem dX11_text_114 : decode cX11_text 114 = .ok (.ireturn, 1) := by decide +kernel
theorem dX11_text_115 : decode cX11_text 115 = .ok (.aload_n 0, 1) := by decide +kernel
theorem dX11_text_116 : decode cX11_text 116 = .ok (.aload_n 0, 1) := by decide +kernel
theorem dX11_text_117 : decode cX11_text 117 = .ok (.getfield 244, 3) := by decide +kernel
theorem dX11_text_120 : decode cX11_text 120 = .ok (.putfield 289, 3) := by decide +kernel
theorem dX11_text_123 : decode cX11_text 123 = .ok (.iconst 0, 1) := by decide +kernel
theorem dX11_text_124 : decode cX11_text 124 = .ok (.istore_n 3, 1) := by decide +kernel
theorem dX11_text_125 : decode cX11_text 125 = .ok (.iload_n 3, 1) := by decide +kernel
theorem dX11_text_126 : decode cX11_text 126 = .ok (.iconst 5, 1) := by decide +kernel
theorem dX11_text_127 : decode cX11_text 127 = .ok (.if_icmp .ge 21, 3) := by decide +kernel
theorem dX11_text_130 : decode cX11_text 130 = .ok (.aload_n 0, 1) := by decide +kernel
theorem dX11_text_131 : decode cX11_text 131 = .ok (.getfield 37, 3) := by decide +kernel
theorem dX11_text_134 : decode cX11_text 134 = .ok (.iload_n 3, 1) := by decide +kernel
theorem dX11_text_135 : decode cX11_text 135 = .ok (.aload_n 0, 1) := by decide +kernel
theorem dX11_text_136 : decode cX11_text 136 = .ok (.getfield 40, 3) := by decide +kernel
theorem dX11_text_139 : decode cX11_text 139 = .ok (.iload_n 3, 1) := by decide +kernel
theorem dX11_text_140 : decode cX11_text 140 = .ok (.iaload, 1) := by decide +kernel
theorem dX11_text_141 : decode cX11_text 141 = .ok (.iastore, 1) := by decide +kernel
theorem dX11_text_142 : decode cX11_text 142 = .ok (.iinc 3 1, 3) := by decide +kernel
theorem dX11_text_145 : decode cX11_text 145 = .ok (.goto (-20), 3) := by decide +kernel
theorem dX11_text_148 : decode cX11_text 148 = .ok (.iconst 0, 1) := by decide +kernel
theorem dX11_text_149 : decode cX11_text 149 = .ok (.istore_n 3, 1) := by decide +kernel
theorem dX11_text_150 : decode cX11_text 150 = .ok (.iload_n 3, 1) := by decide +kernel
theorem dX11_text_151 : decode cX11_text 151 = .ok (.bipush 48, 2) := by decide +kernel
theorem dX11_text_153 : decode cX11_text 153 = .ok (.if_icmp .ge 21, 3) := by decide +kernel
theorem dX11_text_156 : decode cX11_text 156 = .ok (.aload_n 0, 1) := by decide +kernel
theorem dX11_text_157 : decode cX11_text 157 = .ok (.getfield 43, 3) := by decide +kernel
theorem dX11_text_160 : decode cX11_text 160 = .ok (.iload_n 3, 1) := by decide +kernel
theorem dX11_text_161 : decode cX11_text 161 = .ok (.aload_n 0, 1) := by decide +kernel
theorem dX11_text_162 : decode cX11_text 162 = .ok (.getfield 46, 3) := by decide +kernel
theorem dX11_text_165 : decode cX11_text 165 = .ok (.iload_n 3, 1) := by decide +kernel
theorem dX11_text_166 : decode cX11_text 166 = .ok (.iaload, 1) := by decide +kernel
theorem dX11_text_167 : decode cX11_text 167 = .ok (.iastore, 1) := by decide +kernel
theorem dX11_text_168 : decode cX11_text 168 = .ok (.iinc 3 1, 3) := by decide +kernel
theorem dX11_text_171 : decode cX11_text 171 = .ok (.goto (-21), 3) := by decide +kernel
theorem dX11_text_174 : decode cX11_text 174 = .ok (.iconst 0, 1) := by decide +kernel
theorem dX11_text_175 : decode cX11_text 175 = .ok (.istore_n 3, 1) := by decide +kernel
theorem dX11_text_176 : decode cX11_text 176 = .ok (.iload_n 3, 1) := by decide +kernel
theorem dX11_text_177 : decode cX11_text 177 = .ok (.iconst 3, 1) := by decide +kernel
theorem dX11_text_178 : decode cX11_text 178 = .ok (.if_icmp .ge 21, 3) := by decide +kernel
theorem dX11_text_181 : decode cX11_text 181 = .ok (.aload_n 0, 1) := by decide +kernel
theorem dX11_text_182 : decode cX11_text 182 = .ok (.getfield 49, 3) := by decide +kernel
theorem dX11_text_185 : decode cX11_text 185 = .ok (.iload_n 3, 1) := by decide +kernel
theorem dX11_text_186 : decode cX11_text 186 = .ok (.aload_n 0, 1) := by decide +kernel
theorem dX11_text_187 : decode cX11_text 187 = .ok (.getfield 52, 3) := by decide +kernel
theorem dX11_text_190 : decode cX11_text 190 = .ok (.iload_n 3, 1) := by decide +kernel
theorem dX11_text_191 : decode cX11_text 191 = .ok (.iaload, 1) := by decide +kernel
theorem dX11_text_192 : decode cX11_text 192 = .ok (.iastore, 1) := by decide +kernel
theorem dX11_text_193 : decode cX11_text 193 = .ok (.iinc 3 1, 3) := by decide +kernel
theorem dX11_text_196 : decode cX11_text 196 = .ok (.goto (-20), 3) := by decide +kernel
theorem dX11_text_199 : decode cX11_text 199 = .ok (.iconst 0, 1) := by decide +kernel
theorem dX11_text_200 : decode cX11_text 200 = .ok (.istore_n 3, 1) := by decide +kernel
theorem dX11_text_201 : decode cX11_text 201 = .ok (.iload_n 3, 1) := by decide +kernel
theorem dX11_text_202 : decode cX11_text 202 = .ok (.bipush 6, 2) := by decide +kernel
theorem dX11_text_204 : decode cX11_text 204 = .ok (.if_icmp .ge 31, 3) := by decide +kernel
theorem dX11_text_207 : decode cX11_text 207 = .ok (.aload_n 0, 1) := by decide +kernel
theorem dX11_text_208 : decode cX11_text 208 = .ok (.getfield 55, 3) := by decide +kernel
theorem dX11_text_211 : decode cX11_text 211 = .ok (.iload_n 3, 1) := by decide +kernel
theorem dX11_text_212 : decode cX11_text 212 = .ok (.iload_n 3, 1) := by decide +kernel
theorem dX11_text_213 : decode cX11_text 213 = .ok (.iastore, 1) := by decide +kernel
theorem dX11_text_214 : decode cX11_text 214 = .ok (.aload_n 0, 1) := by decide +kernel
theorem dX11_text_215 : decode cX11_text 215 = .ok (.getfield 58, 3) := by decide +kernel
theorem dX11_text_218 : decode cX11_text 218 = .ok (.iload_n 3, 1) := by decide +kernel
theorem dX11_text_219 : decode cX11_text 219 = .ok (.bipush 9, 2) := by decide +kernel
theorem dX11_text_221 : decode cX11_text 221 = .ok (.iastore, 1) := by decide +kernel
theorem dX11_text_222 : decode cX11_text 222 = .ok (.aload_n 0, 1) := by decide +kernel
theorem dX11_text_223 : decode cX11_text 223 = .ok (.getfield 61, 3) := by decide +kernel
theorem dX11_text_226 : decode cX11_text 226 = .ok (.iload_n 3, 1) := by decide +kernel
theorem dX11_text_227 : decode cX11_text 227 = .ok (.iconst 0, 1) := by decide +kernel
theorem dX11_text_228 : decode cX11_text 228 = .ok (.iastore, 1) := by decide +kernel
theorem dX11_text_229 : decode cX11_text 229 = .ok (.iinc 3 1, 3) := by decide +kernel
theorem dX11_text_232 : decode cX11_text 232 = .ok (.goto (-31), 3) := by decide +kernel
theorem dX11_text_235 : decode cX11_text 235 = .ok (.aload_n 0, 1) := by decide +kernel
theorem dX11_text_236 : decode cX11_text 236 = .ok (.iconst (-1), 1) := by decide +kernel
theorem dX11_text_237 : decode cX11_text 237 = .ok (.putfield 64, 3) := by decide +kernel
theorem dX11_text_240 : decode cX11_text 240 = .ok (.aload_n 0, 1) := by decide +kernel
theorem dX11_text_241 : decode cX11_text 241 = .ok (.iconst 0, 1) := by decide +kernel
theorem dX11_text_242 : decode cX11_text 242 = .ok (.putfield 292, 3) := by decide +kernel
theorem dX11_text_245 : decode cX11_text 245 = .ok (.aload_n 0, 1) := by decide +kernel
theorem dX11_text_246 : decode cX11_text 246 = .ok (.iconst 0, 1) := by decide +kernel
theorem dX11_text_247 : decode cX11_text 247 = .ok (.putfield 295, 3) := by decide +kernel
theorem dX11_text_250 : decode cX11_text 250 = .ok (.aload_n 0, 1) := by decide +kernel
theorem dX11_text_251 : decode cX11_text 251 = .ok (.iconst 0, 1) := by decide +kernel
theorem dX11_text_252 : decode cX11_text 252 = .ok (.putfield 298, 3) := by decide +kernel
theorem dX11_text_255 : decode cX11_text 255 = .ok (.aload_n 0, 1) := by decide +kernel
theorem dX11_text_256 : decode cX11_text 256 = .ok (.getfield 289, 3) := by decide +kernel
theorem dX11_text_259 : decode cX11_text 259 = .ok (.ireturn, 1) := by decide +kernel
theorem dX11_isHouse_0 : decode cX11_isHouse 0 = .ok (.iload_n 1, 1) := by decide +kernel
theorem dX11_isHouse_1 : decode cX11_isHouse 1 = .ok (.ifCond .lt 15, 3) := by decide +kernel
theorem dX11_isHouse_4 : decode cX11_isHouse 4 = .ok (.iload_n 1, 1) := by decide +kernel
theorem dX11_isHouse_5 : decode cX11_isHouse 5 = .ok (.aload_n 0, 1) := by decide +kernel
theorem dX11_isHouse_6 : decode cX11_isHouse 6 = .ok (.getfield 289, 3) := by decide +kernel
theorem dX11_isHouse_9 : decode cX11_isHouse 9 = .ok (.if_icmp .ge 7, 3) := by decide +kernel
theorem dX11_isHouse_12 : decode cX11_isHouse 12 = .ok (.iconst 1, 1) := by decide +kernel
theorem dX11_isHouse_13 : decode cX11_isHouse 13 = .ok (.goto 4, 3) := by decide +kernel
theorem dX11_isHouse_16 : decode cX11_isHouse 16 = .ok (.iconst 0, 1) := by decide +kernel
theorem dX11_isHouse_17 : decode cX11_isHouse 17 = .ok (.ireturn, 1) := by decide +kernel
theorem dX11_isStuff_0 : decode cX11_isStuff 0 = .ok (.iload_n 0, 1) := by decide +kernel
theorem dX11_isStuff_1 : decode cX11_isStuff 1 = .ok (.ifCond .lt 12, 3) := by decide +kernel
theorem dX11_isStuff_4 : decode cX11_isStuff 4 = .ok (.iload_n 0, 1) := by decide +kernel
theorem dX11_isStuff_5 : decode cX11_isStuff 5 = .ok (.iconst 5, 1) := by decide +kernel
theorem dX11_isStuff_6 : decode cX11_isStuff 6 = .ok (.if_icmp .ge 7, 3) := by decide +kernel
theorem dX11_isStuff_9 : decode cX11_isStuff 9 = .ok (.iconst 1, 1) := by decide +kernel
theorem dX11_isStuff_10 : decode cX11_isStuff 10 = .ok (.goto 4, 3) := by decide +kernel
theorem dX11_isStuff_13 : decode cX11_isStuff 13 = .ok (.iconst 0, 1) := by decide +kernel
theorem dX11_isStuff_14 : decode cX11_isStuff 14 = .ok (.ireturn, 1) := by decide +kernel
theorem dX11_placeIn_0 : decode cX11_placeIn 0 = .ok (.iconst 0, 1) := by decide +kernel
theorem dX11_placeIn_1 : decode cX11_placeIn 1 = .ok (.istore_n 2, 1) := by decide +kernel
theorem dX11_placeIn_2 : decode cX11_placeIn 2 = .ok (.aload_n 0, 1) := by decide +kernel
theorem dX11_placeIn_3 : decode cX11_placeIn 3 = .ok (.getfield 55, 3) := by decide +kernel
theorem dX11_placeIn_6 : decode cX11_placeIn 6 = .ok (.iload_n 2, 1) := by decide +kernel
theorem dX11_placeIn_7 : decode cX11_placeIn 7 = .ok (.iaload, 1) := by decide +kernel
theorem dX11_placeIn_8 : decode cX11_placeIn 8 = .ok (.iload_n 1, 1) := by decide +kernel
theorem dX11_placeIn_9 : decode cX11_placeIn 9 = .ok (.if_icmp .eq 9, 3) := by decide +kernel
theorem dX11_placeIn_12 : decode cX11_placeIn 12 = .ok (.iinc 2 1, 3) := by decide +kernel
theorem dX11_placeIn_15 : decode cX11_placeIn 15 = .ok (.goto (-13), 3) := by decide +kernel
theorem dX11_placeIn_18 : decode cX11_placeIn 18 = .ok (.iload_n 2, 1) := by decide +kernel
theorem dX11_placeIn_19 : decode cX11_placeIn 19 = .ok (.ireturn, 1) := by decide +kernel
theorem dX11_house_0 : decode cX11_house 0 = .ok (.aload_n 0, 1) := by decide +kernel
theorem dX11_house_1 : decode cX11_house 1 = .ok (.aload_n 0, 1) := by decide +kernel
theorem dX11_house_2 : decode cX11_house 2 = .ok (.iload_n 1, 1) := by decide +kernel
theorem dX11_house_3 : decode cX11_house 3 = .ok (.invokevirtual 301, 3) := by decide +kernel
theorem dX11_house_6 : decode cX11_house 6 = .ok (.ifCond .eq 19, 3) := by decide +kernel
theorem dX11_house_9 : decode cX11_house 9 = .ok (.iload_n 2, 1) := by decide +kernel
theorem dX11_house_10 : decode cX11_house 10 = .ok (.i2l, 1) := by decide +kernel
theorem dX11_house_11 : decode cX11_house 11 = .ok (.lconst 0, 1) := by decide +kernel
theorem dX11_house_12 : decode cX11_house 12 = .ok (.ldc2_w 304, 3) := by decide +kernel
theorem dX11_house_15 : decode cX11_house 15 = .ok (.invokestatic 240, 3) := by decide +kernel
theorem dX11_house_18 : decode cX11_house 18 = .ok (.ifCond .eq 7, 3) := by decide +kernel
theorem dX11_house_21 : decode cX11_house 21 = .ok (.iconst 0, 1) := by decide +kernel
theorem dX11_house_22 : decode cX11_house 22 = .ok (.goto 4, 3) := by decide +kernel
theorem dX11_house_25 : decode cX11_house 25 = .ok (.iconst 1, 1) := by decide +kernel
theorem dX11_house_26 : decode cX11_house 26 = .ok (.putfield 119, 3) := by decide +kernel
theorem dX11_house_29 : decode cX11_house 29 = .ok (.aload_n 0, 1) := by decide +kernel
theorem dX11_house_30 : decode cX11_house 30 = .ok (.getfield 119, 3) := by decide +kernel
theorem dX11_house_33 : decode cX11_house 33 = .ok (.ifCond .le 5, 3) := by decide +kernel
theorem dX11_house_36 : decode cX11_house 36 = .ok (.iconst 0, 1) := by decide +kernel
theorem dX11_house_37 : decode cX11_house 37 = .ok (.ireturn, 1) := by decide +kernel
theorem dX11_house_38 : decode cX11_house 38 = .ok (.iload_n 2, 1) := by decide +kernel
theorem dX11_house_39 : decode cX11_house 39 = .ok (.bipush 8, 2) := by decide +kernel
theorem dX11_house_41 : decode cX11_house 41 = .ok (.if_icmp .ge 17, 3) := by decide +kernel
theorem dX11_house_44 : decode cX11_house 44 = .ok (.aload_n 0, 1) := by decide +kernel
theorem dX11_house_45 : decode cX11_house 45 = .ok (.getfield 43, 3) := by decide +kernel
theorem dX11_house_48 : decode cX11_house 48 = .ok (.bipush 8, 2) := by decide +kernel
theorem dX11_house_50 : decode cX11_house 50 = .ok (.iload_n 1, 1) := by decide +kernel
theorem dX11_house_51 : decode cX11_house 51 = .ok (.imul, 1) := by decide +kernel
theorem dX11_house_52 : decode cX11_house 52 = .ok (.iload_n 2, 1) := by decide +kernel
theorem dX11_house_53 : decode cX11_house 53 = .ok (.iadd, 1) := by decide +kernel
theorem dX11_house_54 : decode cX11_house 54 = .ok (.iaload, 1) := by decide +kernel
theorem dX11_house_55 : decode cX11_house 55 = .ok (.goto 23, 3) := by decide +kernel
theorem dX11_house_58 : decode cX11_house 58 = .ok (.iload_n 2, 1) := by decide +kernel
theorem dX11_house_59 : decode cX11_house 59 = .ok (.bipush 8, 2) := by decide +kernel
theorem dX11_house_61 : decode cX11_house 61 = .ok (.if_icmp .ne 12, 3) := by decide +kernel
theorem dX11_house_64 : decode cX11_house 64 = .ok (.aload_n 0, 1) := by decide +kernel
theorem dX11_house_65 : decode cX11_house 65 = .ok (.getfield 58, 3) := by decide +kernel
theorem dX11_house_68 : decode cX11_house 68 = .ok (.iload_n 1, 1) := by decide +kernel
theorem dX11_house_69 : decode cX11_house 69 = .ok (.iaload, 1) := by decide +kernel
theorem dX11_house_70 : decode cX11_house 70 = .ok (.goto 8, 3) := by decide +kernel
theorem dX11_house_73 : decode cX11_house 73 = .ok (.aload_n 0, 1) := by decide +kernel
theorem dX11_house_74 : decode cX11_house 74 = .ok (.iload_n 1, 1) := by decide +kernel
theorem dX11_house_75 : decode cX11_house 75 = .ok (.invokevirtual 306, 3) := by decide +kernel
theorem dX11_house_78 : decode cX11_house 78 = .ok (.ireturn, 1) := by decide +kernel
theorem dX11_liking_0 : decode cX11_liking 0 = .ok (.aload_n 0, 1) := by decide +kernel
theorem dX11_liking_1 : decode cX11_liking 1 = .ok (.iconst 0, 1) := by decide +kernel
theorem dX11_liking_2 : decode cX11_liking 2 = .ok (.putfield 119, 3) := by decide +kernel
theorem dX11_liking_5 : decode cX11_liking 5 = .ok (.aload_n 0, 1) := by decide +kernel
theorem dX11_liking_6 : decode cX11_liking 6 = .ok (.getfield 289, 3) := by decide +kernel
theorem dX11_liking_9 : decode cX11_liking 9 = .ok (.ifCond .eq 24, 3) := by decide +kernel
theorem dX11_liking_12 : decode cX11_liking 12 = .ok (.iload_n 1, 1) := by decide +kernel
theorem dX11_liking_13 : decode cX11_liking 13 = .ok (.iconst (-1), 1) := by decide +kernel
theorem dX11_liking_14 : decode cX11_liking 14 = .ok (.if_icmp .eq 21, 3) := by decide +kernel
theorem dX11_liking_17 : decode cX11_liking 17 = .ok (.iload_n 1, 1) := by decide +kernel
theorem dX11_liking_18 : decode cX11_liking 18 = .ok (.i2l, 1) := by decide +kernel
theorem dX11_liking_19 : decode cX11_liking 19 = .ok (.lconst 0, 1) := by decide +kernel
theorem dX11_liking_20 : decode cX11_liking 20 = .ok (.aload_n 0, 1) := by decide +kernel
theorem dX11_liking_21 : decode cX11_liking 21 = .ok (.getfield 284, 3) := by decide +kernel
theorem dX11_liking_24 : decode cX11_liking 24 = .ok (.iconst 1, 1) := by decide +kernel
theorem dX11_liking_25 : decode cX11_liking 25 = .ok (.isub, 1) := by decide +kernel
theorem dX11_liking_26 : decode cX11_liking 26 = .ok (.i2l, 1) := by decide +kernel
theorem dX11_liking_27 : decode cX11_liking 27 = .ok (.invokestatic 240, 3) := by decide +kernel
theorem dX11_liking_30 : decode cX11_liking 30 = .ok (.ifCond .ne 5, 3) := by decide +kernel
theorem dX11_liking_33 : decode cX11_liking 33 = .ok (.iconst 0, 1) := by decide +kernel
theorem dX11_liking_34 : decode cX11_liking 34 = .ok (.ireturn, 1) := by decide +kernel
theorem dX11_liking_35 : decode cX11_liking 35 = .ok (.aload_n 0, 1) := by decide +kernel
theorem dX11_liking_36 : decode cX11_liking 36 = .ok (.iload_n 1, 1) := by decide +kernel
theorem dX11_liking_37 : decode cX11_liking 37 = .ok (.putfield 64, 3) := by decide +kernel
theorem dX11_liking_40 : decode cX11_liking 40 = .ok (.iconst 1, 1) := by decide +kernel
theorem dX11_liking_41 : decode cX11_liking 41 = .ok (.ireturn, 1) := by decide +kernel
theorem dX11_order_0 : decode cX11_order 0 = .ok (.aload_n 0, 1) := by decide +kernel
theorem dX11_order_1 : decode cX11_order 1 = .ok (.iconst 0, 1) := by decide +kernel
theorem dX11_order_2 : decode cX11_order 2 = .ok (.putfield 119, 3) := by decide +kernel
theorem dX11_order_5 : decode cX11_order 5 = .ok (.iload_n 1, 1) := by decide +kernel
theorem dX11_order_6 : decode cX11_order 6 = .ok (.istore_n 2, 1) := by decide +kernel
theorem dX11_order_7 : decode cX11_order 7 = .ok (.iconst 0, 1) := by decide +kernel
theorem dX11_order_8 : decode cX11_order 8 = .ok (.istore_n 3, 1) := by decide +kernel
theorem dX11_order_9 : decode cX11_order 9 = .ok (.aload_n 0, 1) := by decide +kernel
theorem dX11_order_10 : decode cX11_order 10 = .ok (.getfield 289, 3) := by decide +kernel
theorem dX11_order_13 : decode cX11_order 13 = .ok (.ifCond .eq 7, 3) := by decide +kernel
theorem dX11_order_16 : decode cX11_order 16 = .ok (.iload_n 1, 1) := by decide +kernel
theorem dX11_order_17 : decode cX11_order 17 = .ok (.ifCond .ge 5, 3) := by decide +kernel
theorem dX11_order_20 : decode cX11_order 20 = .ok (.iconst 0, 1) := by decide +kernel
theorem dX11_order_21 : decode cX11_order 21 = .ok (.ireturn, 1) := by decide +kernel
theorem dX11_order_22 : decode cX11_order 22 = .ok (.aload_n 0, 1) := by decide +kernel
theorem dX11_order_23 : decode cX11_order 23 = .ok (.getfield 289, 3) := by decide +kernel
theorem dX11_order_26 : decode cX11_order 26 = .ok (.iconst 1, 1) := by decide +kernel
theorem dX11_order_27 : decode cX11_order 27 = .ok (.isub, 1) := by decide +kernel
theorem dX11_order_28 : decode cX11_order 28 = .ok (.istore 4, 2) := by decide +kernel
theorem dX11_order_30 : decode cX11_order 30 = .ok (.iload 4, 2) := by decide +kernel
theorem dX11_order_32 : decode cX11_order 32 = .ok (.ifCond .lt 67, 3) := by decide +kernel
theorem dX11_order_35 : decode cX11_order 35 = .ok (.aload_n 0, 1) := by decide +kernel
theorem dX11_order_36 : decode cX11_order 36 = .ok (.getfield 68, 3) := by decide +kernel
theorem dX11_order_39 : decode cX11_order 39 = .ok (.iload 4, 2) := by decide +kernel
theorem dX11_order_41 : decode cX11_order 41 = .ok (.iload_n 2, 1) := by decide +kernel
theorem dX11_order_42 : decode cX11_order 42 = .ok (.bipush 10, 2) := by decide +kernel
theorem dX11_order_44 : decode cX11_order 44 = .ok (.irem, 1) := by decide +kernel
theorem dX11_order_45 : decode cX11_order 45 = .ok (.iastore, 1) := by decide +kernel
theorem dX11_order_46 : decode cX11_order 46 = .ok (.iload_n 2, 1) := by decide +kernel
theorem dX11_order_47 : decode cX11_order 47 = .ok (.bipush 10, 2) := by decide +kernel
theorem dX11_order_49 : decode cX11_order 49 = .ok (.idiv, 1) := by decide +kernel
theorem dX11_order_50 : decode cX11_order 50 = .ok (.istore_n 2, 1) := by decide +kernel
theorem dX11_order_51 : decode cX11_order 51 = .ok (.aload_n 0, 1) := by decide +kernel
theorem dX11_order_52 : decode cX11_order 52 = .ok (.aload_n 0, 1) := by decide +kernel
theorem dX11_order_53 : decode cX11_order 53 = .ok (.getfield 68, 3) := by decide +kernel
theorem dX11_order_56 : decode cX11_order 56 = .ok (.iload 4, 2) := by decide +kernel
theorem dX11_order_58 : decode cX11_order 58 = .ok (.iaload, 1) := by decide +kernel
theorem dX11_order_59 : decode cX11_order 59 = .ok (.invokevirtual 301, 3) := by decide +kernel
theorem dX11_order_62 : decode cX11_order 62 = .ok (.ifCond .eq 17, 3) := by decide +kernel
theorem dX11_order_65 : decode cX11_order 65 = .ok (.iload_n 3, 1) := by decide +kernel
theorem dX11_order_66 : decode cX11_order 66 = .ok (.aload_n 0, 1) := by decide +kernel
theorem dX11_order_67 : decode cX11_order 67 = .ok (.getfield 68, 3) := by decide +kernel
theorem dX11_order_70 : decode cX11_order 70 = .ok (.iload 4, 2) := by decide +kernel
theorem dX11_order_72 : decode cX11_order 72 = .ok (.iaload, 1) := by decide +kernel
theorem dX11_order_73 : decode cX11_order 73 = .ok (.invokestatic 263, 3) := by decide +kernel
theorem dX11_order_76 : decode cX11_order 76 = .ok (.ifCond .eq 5, 3) := by decide +kernel
theorem dX11_order_79 : decode cX11_order 79 = .ok (.iconst 0, 1) := by decide +kernel
theorem dX11_order_80 : decode cX11_order 80 = .ok (.ireturn, 1) := by decide +kernel
theorem dX11_order_81 : decode cX11_order 81 = .ok (.iload_n 3, 1) := by decide +kernel
theorem dX11_order_82 : decode cX11_order 82 = .ok (.iconst 1, 1) := by decide +kernel
theorem dX11_order_83 : decode cX11_order 83 = .ok (.aload_n 0, 1) := by decide +kernel
theorem dX11_order_84 : decode cX11_order 84 = .ok (.getfield 68, 3) := by decide +kernel
theorem dX11_order_87 : decode cX11_order 87 = .ok (.iload 4, 2) := by decide +kernel
theorem dX11_order_89 : decode cX11_order 89 = .ok (.iaload, 1) := by decide +kernel
theorem dX11_order_90 : decode cX11_order 90 = .ok (.ishl, 1) := by decide +kernel
theorem dX11_order_91 : decode cX11_order 91 = .ok (.ior, 1) := by decide +kernel
theorem dX11_order_92 : decode cX11_order 92 = .ok (.istore_n 3, 1) := by decide +kernel
theorem dX11_order_93 : decode cX11_order 93 = .ok (.iinc 4 (-1), 3) := by decide +kernel
theorem dX11_order_96 : decode cX11_order 96 = .ok (.goto (-66), 3) := by decide +kernel
theorem dX11_order_99 : decode cX11_order 99 = .ok (.iload_n 2, 1) := by decide +kernel
theorem dX11_order_100 : decode cX11_order 100 = .ok (.ifCond .eq 5, 3) := by decide +kernel
theorem dX11_order_103 : decode cX11_order 103 = .ok (.iconst 0, 1) := by decide +kernel
theorem dX11_order_104 : decode cX11_order 104 = .ok (.ireturn, 1) := by decide +kernel
theorem dX11_order_105 : decode cX11_order 105 = .ok (.iconst 0, 1) := by decide +kernel
theorem dX11_order_106 : decode cX11_order 106 = .ok (.istore 4, 2) := by decide +kernel
theorem dX11_order_108 : decode cX11_order 108 = .ok (.iload 4, 2) := by decide +kernel
theorem dX11_order_110 : decode cX11_order 110 = .ok (.aload_n 0, 1) := by decide +kernel
theorem dX11_order_111 : decode cX11_order 111 = .ok (.getfield 289, 3) := by decide +kernel
theorem dX11_order_114 : decode cX11_order 114 = .ok (.if_icmp .ge 23, 3) := by decide +kernel
theorem dX11_order_117 : decode cX11_order 117 = .ok (.aload_n 0, 1) := by decide +kernel
theorem dX11_order_118 : decode cX11_order 118 = .ok (.getfield 55, 3) := by decide +kernel
theorem dX11_order_121 : decode cX11_order 121 = .ok (.iload 4, 2) := by decide +kernel
theorem dX11_order_123 : decode cX11_order 123 = .ok (.aload_n 0, 1) := by decide +kernel
theorem dX11_order_124 : decode cX11_order 124 = .ok (.getfield 68, 3) := by decide +kernel
theorem dX11_order_127 : decode cX11_order 127 = .ok (.iload 4, 2) := by decide +kernel
theorem dX11_order_129 : decode cX11_order 129 = .ok (.iaload, 1) := by decide +kernel
theorem dX11_order_130 : decode cX11_order 130 = .ok (.iastore, 1) := by decide +kernel
theorem dX11_order_131 : decode cX11_order 131 = .ok (.iinc 4 1, 3) := by decide +kernel
theorem dX11_order_134 : decode cX11_order 134 = .ok (.goto (-26), 3) := by decide +kernel
theorem dX11_order_137 : decode cX11_order 137 = .ok (.iconst 1, 1) := by decide +kernel
theorem dX11_order_138 : decode cX11_order 138 = .ok (.ireturn, 1) := by decide +kernel
theorem dX11_put_0 : decode cX11_put 0 = .ok (.aload_n 0, 1) := by decide +kernel
theorem dX11_put_1 : decode cX11_put 1 = .ok (.iconst 0, 1) := by decide +kernel
theorem dX11_put_2 : decode cX11_put 2 = .ok (.putfield 119, 3) := by decide +kernel
theorem dX11_put_5 : decode cX11_put 5 = .ok (.aload_n 0, 1) := by decide +kernel
theorem dX11_put_6 : decode cX11_put 6 = .ok (.iload_n 1, 1) := by decide +kernel
theorem dX11_put_7 : decode cX11_put 7 = .ok (.invokevirtual 301, 3) := by decide +kernel
theorem dX11_put_10 : decode cX11_put 10 = .ok (.ifCond .eq 16, 3) := by decide +kernel
theorem dX11_put_13 : decode cX11_put 13 = .ok (.iload_n 2, 1) := by decide +kernel
theorem dX11_put_14 : decode cX11_put 14 = .ok (.invokestatic 309, 3) := by decide +kernel
theorem dX11_put_17 : decode cX11_put 17 = .ok (.ifCond .ne 11, 3) := by decide +kernel
theorem dX11_put_20 : decode cX11_put 20 = .ok (.iload_n 2, 1) := by decide +kernel
theorem dX11_put_21 : decode cX11_put 21 = .ok (.bipush 9, 2) := by decide +kernel
theorem dX11_put_23 : decode cX11_put 23 = .ok (.if_icmp .eq 5, 3) := by decide +kernel
theorem dX11_put_26 : decode cX11_put 26 = .ok (.iconst 0, 1) := by decide +kernel
theorem dX11_put_27 : decode cX11_put 27 = .ok (.ireturn, 1) := by decide +kernel
theorem dX11_put_28 : decode cX11_put 28 = .ok (.aload_n 0, 1) := by decide +kernel
theorem dX11_put_29 : decode cX11_put 29 = .ok (.getfield 58, 3) := by decide +kernel
theorem dX11_put_32 : decode cX11_put 32 = .ok (.iload_n 1, 1) := by decide +kernel
theorem dX11_put_33 : decode cX11_put 33 = .ok (.iload_n 2, 1) := by decide +kernel
theorem dX11_put_34 : decode cX11_put 34 = .ok (.iastore, 1) := by decide +kernel
theorem dX11_put_35 : decode cX11_put 35 = .ok (.iconst 1, 1) := by decide +kernel
theorem dX11_put_36 : decode cX11_put 36 = .ok (.ireturn, 1) := by decide +kernel
theorem dX11_fill_0 : decode cX11_fill 0 = .ok (.aload_n 0, 1) := by decide +kernel
theorem dX11_fill_1 : decode cX11_fill 1 = .ok (.iconst 0, 1) := by decide +kernel
theorem dX11_fill_2 : decode cX11_fill 2 = .ok (.putfield 119, 3) := by decide +kernel
theorem dX11_fill_5 : decode cX11_fill 5 = .ok (.aload_n 0, 1) := by decide +kernel
theorem dX11_fill_6 : decode cX11_fill 6 = .ok (.iload_n 1, 1) := by decide +kernel
theorem dX11_fill_7 : decode cX11_fill 7 = .ok (.invokevirtual 301, 3) := by decide +kernel
theorem dX11_fill_10 : decode cX11_fill 10 = .ok (.ifCond .eq 22, 3) := by decide +kernel
theorem dX11_fill_13 : decode cX11_fill 13 = .ok (.iload_n 2, 1) := by decide +kernel
theorem dX11_fill_14 : decode cX11_fill 14 = .ok (.invokestatic 309, 3) := by decide +kernel
theorem dX11_fill_17 : decode cX11_fill 17 = .ok (.ifCond .eq 15, 3) := by decide +kernel
theorem dX11_fill_20 : decode cX11_fill 20 = .ok (.iload_n 3, 1) := by decide +kernel
theorem dX11_fill_21 : decode cX11_fill 21 = .ok (.i2l, 1) := by decide +kernel
theorem dX11_fill_22 : decode cX11_fill 22 = .ok (.lconst 0, 1) := by decide +kernel
theorem dX11_fill_23 : decode cX11_fill 23 = .ok (.ldc2_w 312, 3) := by decide +kernel
theorem dX11_fill_26 : decode cX11_fill 26 = .ok (.invokestatic 240, 3) := by decide +kernel
theorem dX11_fill_29 : decode cX11_fill 29 = .ok (.ifCond .ne 5, 3) := by decide +kernel
theorem dX11_fill_32 : decode cX11_fill 32 = .ok (.iconst 0, 1) := by decide +kernel
theorem dX11_fill_33 : decode cX11_fill 33 = .ok (.ireturn, 1) := by decide +kernel
theorem dX11_fill_34 : decode cX11_fill 34 = .ok (.aload_n 0, 1) := by decide +kernel
theorem dX11_fill_35 : decode cX11_fill 35 = .ok (.getfield 43, 3) := by decide +kernel
theorem dX11_fill_38 : decode cX11_fill 38 = .ok (.bipush 8, 2) := by decide +kernel
theorem dX11_fill_40 : decode cX11_fill 40 = .ok (.iload_n 1, 1) := by decide +kernel
theorem dX11_fill_41 : decode cX11_fill 41 = .ok (.imul, 1) := by decide +kernel
theorem dX11_fill_42 : decode cX11_fill 42 = .ok (.iload_n 2, 1) := by decide +kernel
theorem dX11_fill_43 : decode cX11_fill 43 = .ok (.iadd, 1) := by decide +kernel
theorem dX11_fill_44 : decode cX11_fill 44 = .ok (.iload_n 3, 1) := by decide +kernel
theorem dX11_fill_45 : decode cX11_fill 45 = .ok (.iastore, 1) := by decide +kernel
theorem dX11_fill_46 : decode cX11_fill 46 = .ok (.iconst 1, 1) := by decide +kernel
theorem dX11_fill_47 : decode cX11_fill 47 = .ok (.ireturn, 1) := by decide +kernel
theorem dX11_allIn_0 : decode cX11_allIn 0 = .ok (.iconst 0, 1) := by decide +kernel
theorem dX11_allIn_1 : decode cX11_allIn 1 = .ok (.istore_n 1, 1) := by decide +kernel
theorem dX11_allIn_2 : decode cX11_allIn 2 = .ok (.iconst 0, 1) := by decide +kernel
theorem dX11_allIn_3 : decode cX11_allIn 3 = .ok (.istore_n 2, 1) := by decide +kernel
theorem dX11_allIn_4 : decode cX11_allIn 4 = .ok (.iload_n 2, 1) := by decide +kernel
theorem dX11_allIn_5 : decode cX11_allIn 5 = .ok (.iconst 5, 1) := by decide +kernel
theorem dX11_allIn_6 : decode cX11_allIn 6 = .ok (.if_icmp .gt 18, 3) := by decide +kernel
theorem dX11_allIn_9 : decode cX11_allIn 9 = .ok (.iload_n 1, 1) := by decide +kernel
theorem dX11_allIn_10 : decode cX11_allIn 10 = .ok (.aload_n 0, 1) := by decide +kernel
theorem dX11_allIn_11 : decode cX11_allIn 11 = .ok (.getfield 71, 3) := by decide +kernel
theorem dX11_allIn_14 : decode cX11_allIn 14 = .ok (.iload_n 2, 1) := by decide +kernel
theorem dX11_allIn_15 : decode cX11_allIn 15 = .ok (.iaload, 1) := by decide +kernel
theorem dX11_allIn_16 : decode cX11_allIn 16 = .ok (.iadd, 1) := by decide +kernel
theorem dX11_allIn_17 : decode cX11_allIn 17 = .ok (.istore_n 1, 1) := by decide +kernel
theorem dX11_allIn_18 : decode cX11_allIn 18 = .ok (.iinc 2 1, 3) := by decide +kernel
theorem dX11_allIn_21 : decode cX11_allIn 21 = .ok (.goto (-17), 3) := by decide +kernel
theorem dX11_allIn_24 : decode cX11_allIn 24 = .ok (.iload_n 1, 1) := by decide +kernel
theorem dX11_allIn_25 : decode cX11_allIn 25 = .ok (.ireturn, 1) := by decide +kernel
theorem dX11_ladle_0 : decode cX11_ladle 0 = .ok (.aload_n 0, 1) := by decide +kernel
theorem dX11_ladle_1 : decode cX11_ladle 1 = .ok (.invokevirtual 314, 3) := by decide +kernel
theorem dX11_ladle_4 : decode cX11_ladle 4 = .ok (.istore 5, 2) := by decide +kernel
theorem dX11_ladle_6 : decode cX11_ladle 6 = .ok (.iconst 0, 1) := by decide +kernel
theorem dX11_ladle_7 : decode cX11_ladle 7 = .ok (.istore 6, 2) := by decide +kernel
theorem dX11_ladle_9 : decode cX11_ladle 9 = .ok (.iload 6, 2) := by decide +kernel
theorem dX11_ladle_11 : decode cX11_ladle 11 = .ok (.iconst 5, 1) := by decide +kernel
theorem dX11_ladle_12 : decode cX11_ladle 12 = .ok (.if_icmp .gt 52, 3) := by decide +kernel
theorem dX11_ladle_15 : decode cX11_ladle 15 = .ok (.iload 4, 2) := by decide +kernel
theorem dX11_ladle_17 : decode cX11_ladle 17 = .ok (.ifCond .ne 9, 3) := by decide +kernel
theorem dX11_ladle_20 : decode cX11_ladle 20 = .ok (.iload 5, 2) := by decide +kernel
theorem dX11_ladle_22 : decode cX11_ladle 22 = .ok (.iload_n 1, 1) := by decide +kernel
theorem dX11_ladle_23 : decode cX11_ladle 23 = .ok (.if_icmp .gt 13, 3) := by decide +kernel
theorem dX11_ladle_26 : decode cX11_ladle 26 = .ok (.aload_n 0, 1) := by decide +kernel
theorem dX11_ladle_27 : decode cX11_ladle 27 = .ok (.getfield 71, 3) := by decide +kernel
theorem dX11_ladle_30 : decode cX11_ladle 30 = .ok (.iload 6, 2) := by decide +kernel
theorem dX11_ladle_32 : decode cX11_ladle 32 = .ok (.iaload, 1) := by decide +kernel
theorem dX11_ladle_33 : decode cX11_ladle 33 = .ok (.goto 15, 3) := by decide +kernel
theorem dX11_ladle_36 : decode cX11_ladle 36 = .ok (.aload_n 0, 1) := by decide +kernel
theorem dX11_ladle_37 : decode cX11_ladle 37 = .ok (.getfield 71, 3) := by decide +kernel
theorem dX11_ladle_40 : decode cX11_ladle 40 = .ok (.iload 6, 2) := by decide +kernel
theorem dX11_ladle_42 : decode cX11_ladle 42 = .ok (.iaload, 1) := by decide +kernel
theorem dX11_ladle_43 : decode cX11_ladle 43 = .ok (.iload_n 1, 1) := by decide +kernel
theorem dX11_ladle_44 : decode cX11_ladle 44 = .ok (.imul, 1) := by decide +kernel
theorem dX11_ladle_45 : decode cX11_ladle 45 = .ok (.iload 5, 2) := by decide +kernel
theorem dX11_ladle_47 : decode cX11_ladle 47 = .ok (.idiv, 1) := by decide +kernel
theorem dX11_ladle_48 : decode cX11_ladle 48 = .ok (.istore 7, 2) := by decide +kernel
theorem dX11_ladle_50 : decode cX11_ladle 50 = .ok (.aload_n 2, 1) := by decide +kernel
theorem dX11_ladle_51 : decode cX11_ladle 51 = .ok (.iload_n 3, 1) := by decide +kernel
theorem dX11_ladle_52 : decode cX11_ladle 52 = .ok (.iload 6, 2) := by decide +kernel
theorem dX11_ladle_54 : decode cX11_ladle 54 = .ok (.iadd, 1) := by decide +kernel
theorem dX11_ladle_55 : decode cX11_ladle 55 = .ok (.iload 7, 2) := by decide +kernel
theorem dX11_ladle_57 : decode cX11_ladle 57 = .ok (.iastore, 1) := by decide +kernel
theorem dX11_ladle_58 : decode cX11_ladle 58 = .ok (.iinc 6 1, 3) := by decide +kernel
theorem dX11_ladle_61 : decode cX11_ladle 61 = .ok (.goto (-52), 3) := by decide +kernel
theorem dX11_ladle_64 : decode cX11_ladle 64 = .ok (.iconst 0, 1) := by decide +kernel
theorem dX11_ladle_65 : decode cX11_ladle 65 = .ok (.istore 6, 2) := by decide +kernel
theorem dX11_ladle_67 : decode cX11_ladle 67 = .ok (.iload 6, 2) := by decide +kernel
theorem dX11_ladle_69 : decode cX11_ladle 69 = .ok (.iconst 5, 1) := by decide +kernel
theorem dX11_ladle_70 : decode cX11_ladle 70 = .ok (.if_icmp .gt 25, 3) := by decide +kernel
theorem dX11_ladle_73 : decode cX11_ladle 73 = .ok (.aload_n 0, 1) := by decide +kernel
theorem dX11_ladle_74 : decode cX11_ladle 74 = .ok (.getfield 71, 3) := by decide +kernel
theorem dX11_ladle_77 : decode cX11_ladle 77 = .ok (.iload 6, 2) := by decide +kernel
theorem dX11_ladle_79 : decode cX11_ladle 79 = .ok (.dup2, 1) := by decide +kernel
theorem dX11_ladle_80 : decode cX11_ladle 80 = .ok (.iaload, 1) := by decide +kernel
theorem dX11_ladle_81 : decode cX11_ladle 81 = .ok (.aload_n 2, 1) := by decide +kernel
theorem dX11_ladle_82 : decode cX11_ladle 82 = .ok (.iload_n 3, 1) := by decide +kernel
theorem dX11_ladle_83 : decode cX11_ladle 83 = .ok (.iload 6, 2) := by decide +kernel
theorem dX11_ladle_85 : decode cX11_ladle 85 = .ok (.iadd, 1) := by decide +kernel
theorem dX11_ladle_86 : decode cX11_ladle 86 = .ok (.iaload, 1) := by decide +kernel
theorem dX11_ladle_87 : decode cX11_ladle 87 = .ok (.isub, 1) := by decide +kernel
theorem dX11_ladle_88 : decode cX11_ladle 88 = .ok (.iastore, 1) := by decide +kernel
theorem dX11_ladle_89 : decode cX11_ladle 89 = .ok (.iinc 6 1, 3) := by decide +kernel
theorem dX11_ladle_92 : decode cX11_ladle 92 = .ok (.goto (-25), 3) := by decide +kernel
theorem dX11_ladle_95 : decode cX11_ladle 95 = .ok (.return_, 1) := by decide +kernel
theorem dX11_noon_0 : decode cX11_noon 0 = .ok (.iconst 0, 1) := by decide +kernel
theorem dX11_noon_1 : decode cX11_noon 1 = .ok (.istore_n 2, 1) := by decide +kernel
theorem dX11_noon_2 : decode cX11_noon 2 = .ok (.iload_n 2, 1) := by decide +kernel
theorem dX11_noon_3 : decode cX11_noon 3 = .ok (.iconst 5, 1) := by decide +kernel
theorem dX11_noon_4 : decode cX11_noon 4 = .ok (.if_icmp .ge 36, 3) := by decide +kernel
theorem dX11_noon_7 : decode cX11_noon 7 = .ok (.aload_n 0, 1) := by decide +kernel
theorem dX11_noon_8 : decode cX11_noon 8 = .ok (.getfield 71, 3) := by decide +kernel
theorem dX11_noon_11 : decode cX11_noon 11 = .ok (.iload_n 2, 1) := by decide +kernel
theorem dX11_noon_12 : decode cX11_noon 12 = .ok (.aload_n 0, 1) := by decide +kernel
theorem dX11_noon_13 : decode cX11_noon 13 = .ok (.getfield 37, 3) := by decide +kernel
theorem dX11_noon_16 : decode cX11_noon 16 = .ok (.iload_n 2, 1) := by decide +kernel
theorem dX11_noon_17 : decode cX11_noon 17 = .ok (.iaload, 1) := by decide +kernel
theorem dX11_noon_18 : decode cX11_noon 18 = .ok (.iload_n 1, 1) := by decide +kernel
theorem dX11_noon_19 : decode cX11_noon 19 = .ok (.iconst 1, 1) := by decide +kernel
theorem dX11_noon_20 : decode cX11_noon 20 = .ok (.iadd, 1) := by decide +kernel
theorem dX11_noon_21 : decode cX11_noon 21 = .ok (.bipush 7, 2) := by decide +kernel
theorem dX11_noon_23 : decode cX11_noon 23 = .ok (.irem, 1) := by decide +kernel
theorem dX11_noon_24 : decode cX11_noon 24 = .ok (.ifCond .ne 7, 3) := by decide +kernel
theorem dX11_noon_27 : decode cX11_noon 27 = .ok (.iconst 2, 1) := by decide +kernel
theorem dX11_noon_28 : decode cX11_noon 28 = .ok (.goto 4, 3) := by decide +kernel
theorem dX11_noon_31 : decode cX11_noon 31 = .ok (.iconst 1, 1) := by decide +kernel
theorem dX11_noon_32 : decode cX11_noon 32 = .ok (.imul, 1) := by decide +kernel
theorem dX11_noon_33 : decode cX11_noon 33 = .ok (.iastore, 1) := by decide +kernel
theorem dX11_noon_34 : decode cX11_noon 34 = .ok (.iinc 2 1, 3) := by decide +kernel
theorem dX11_noon_37 : decode cX11_noon 37 = .ok (.goto (-35), 3) := by decide +kernel
theorem dX11_noon_40 : decode cX11_noon 40 = .ok (.aload_n 0, 1) := by decide +kernel
theorem dX11_noon_41 : decode cX11_noon 41 = .ok (.getfield 71, 3) := by decide +kernel
theorem dX11_noon_44 : decode cX11_noon 44 = .ok (.iconst 5, 1) := by decide +kernel
theorem dX11_noon_45 : decode cX11_noon 45 = .ok (.iconst 0, 1) := by decide +kernel
theorem dX11_noon_46 : decode cX11_noon 46 = .ok (.iastore, 1) := by decide +kernel
theorem dX11_noon_47 : decode cX11_noon 47 = .ok (.aload_n 0, 1) := by decide +kernel
theorem dX11_noon_48 : decode cX11_noon 48 = .ok (.iconst (-1), 1) := by decide +kernel
theorem dX11_noon_49 : decode cX11_noon 49 = .ok (.putfield 317, 3) := by decide +kernel
theorem dX11_noon_52 : decode cX11_noon 52 = .ok (.bipush 100, 2) := by decide +kernel
theorem dX11_noon_54 : decode cX11_noon 54 = .ok (.istore_n 2, 1) := by decide +kernel
theorem dX11_noon_55 : decode cX11_noon 55 = .ok (.iconst 0, 1) := by decide +kernel
theorem dX11_noon_56 : decode cX11_noon 56 = .ok (.istore_n 3, 1) := by decide +kernel
theorem dX11_noon_57 : decode cX11_noon 57 = .ok (.iconst 0, 1) := by decide +kernel
theorem dX11_noon_58 : decode cX11_noon 58 = .ok (.istore 4, 2) := by decide +kernel
theorem dX11_noon_60 : decode cX11_noon 60 = .ok (.iload 4, 2) := by decide +kernel
theorem dX11_noon_62 : decode cX11_noon 62 = .ok (.aload_n 0, 1) := by decide +kernel
theorem dX11_noon_63 : decode cX11_noon 63 = .ok (.getfield 289, 3) := by decide +kernel
theorem dX11_noon_66 : decode cX11_noon 66 = .ok (.if_icmp .ge 270, 3) := by decide +kernel
theorem dX11_noon_69 : decode cX11_noon 69 = .ok (.aload_n 0, 1) := by decide +kernel
theorem dX11_noon_70 : decode cX11_noon 70 = .ok (.getfield 55, 3) := by decide +kernel
theorem dX11_noon_73 : decode cX11_noon 73 = .ok (.iload 4, 2) := by decide +kernel
theorem dX11_noon_75 : decode cX11_noon 75 = .ok (.iaload, 1) := by decide +kernel
theorem dX11_noon_76 : decode cX11_noon 76 = .ok (.istore 5, 2) := by decide +kernel
theorem dX11_noon_78 : decode cX11_noon 78 = .ok (.iload 4, 2) := by decide +kernel
theorem dX11_noon_80 : decode cX11_noon 80 = .ok (.aload_n 0, 1) := by decide +kernel
theorem dX11_noon_81 : decode cX11_noon 81 = .ok (.getfield 289, 3) := by decide +kernel
theorem dX11_noon_84 : decode cX11_noon 84 = .ok (.iconst 1, 1) := by decide +kernel
theorem dX11_noon_85 : decode cX11_noon 85 = .ok (.isub, 1) := by decide +kernel
