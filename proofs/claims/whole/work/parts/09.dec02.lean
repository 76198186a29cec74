theorem d_m_fits_46 : decode (mz_c M_m_fits) 46 = .ok (.aload_n 0, 1) := by decide +kernel
theorem d_m_fits_47 : decode (mz_c M_m_fits) 47 = .ok (.getfield 85, 3) := by decide +kernel
theorem d_m_fits_50 : decode (mz_c M_m_fits) 50 = .ok (.iload_n 2, 1) := by decide +kernel
theorem d_m_fits_51 : decode (mz_c M_m_fits) 51 = .ok (.iaload, 1) := by decide +kernel
theorem d_m_fits_52 : decode (mz_c M_m_fits) 52 = .ok (.iconst 0, 1) := by decide +kernel
theorem d_m_fits_53 : decode (mz_c M_m_fits) 53 = .ok (.iconst 1, 1) := by decide +kernel
theorem d_m_fits_54 : decode (mz_c M_m_fits) 54 = .ok (.invokevirtual 182, 3) := by decide +kernel
theorem d_m_fits_57 : decode (mz_c M_m_fits) 57 = .ok (.istore 5, 2) := by decide +kernel
theorem d_m_fits_59 : decode (mz_c M_m_fits) 59 = .ok (.aload_n 0, 1) := by decide +kernel
theorem d_m_fits_60 : decode (mz_c M_m_fits) 60 = .ok (.iload_n 1, 1) := by decide +kernel
theorem d_m_fits_61 : decode (mz_c M_m_fits) 61 = .ok (.iload_n 2, 1) := by decide +kernel
theorem d_m_fits_62 : decode (mz_c M_m_fits) 62 = .ok (.aload_n 0, 1) := by decide +kernel
theorem d_m_fits_63 : decode (mz_c M_m_fits) 63 = .ok (.getfield 85, 3) := by decide +kernel
theorem d_m_fits_66 : decode (mz_c M_m_fits) 66 = .ok (.iload_n 2, 1) := by decide +kernel
theorem d_m_fits_67 : decode (mz_c M_m_fits) 67 = .ok (.iaload, 1) := by decide +kernel
theorem d_m_fits_68 : decode (mz_c M_m_fits) 68 = .ok (.iconst 1, 1) := by decide +kernel
theorem d_m_fits_69 : decode (mz_c M_m_fits) 69 = .ok (.iconst 1, 1) := by decide +kernel
theorem d_m_fits_70 : decode (mz_c M_m_fits) 70 = .ok (.invokevirtual 182, 3) := by decide +kernel
theorem d_m_fits_73 : decode (mz_c M_m_fits) 73 = .ok (.istore 6, 2) := by decide +kernel
theorem d_m_fits_75 : decode (mz_c M_m_fits) 75 = .ok (.aload_n 0, 1) := by decide +kernel
theorem d_m_fits_76 : decode (mz_c M_m_fits) 76 = .ok (.getfield 88, 3) := by decide +kernel
theorem d_m_fits_79 : decode (mz_c M_m_fits) 79 = .ok (.iload_n 2, 1) := by decide +kernel
theorem d_m_fits_80 : decode (mz_c M_m_fits) 80 = .ok (.iload 5, 2) := by decide +kernel
theorem d_m_fits_82 : decode (mz_c M_m_fits) 82 = .ok (.iload 6, 2) := by decide +kernel
theorem d_m_fits_84 : decode (mz_c M_m_fits) 84 = .ok (.if_icmp .ge 8, 3) := by decide +kernel
theorem d_m_fits_87 : decode (mz_c M_m_fits) 87 = .ok (.iload 5, 2) := by decide +kernel
theorem d_m_fits_89 : decode (mz_c M_m_fits) 89 = .ok (.goto 5, 3) := by decide +kernel
theorem d_m_fits_92 : decode (mz_c M_m_fits) 92 = .ok (.iload 6, 2) := by decide +kernel
theorem d_m_fits_94 : decode (mz_c M_m_fits) 94 = .ok (.iastore, 1) := by decide +kernel
theorem d_m_fits_95 : decode (mz_c M_m_fits) 95 = .ok (.iinc 2 1, 3) := by decide +kernel
theorem d_m_fits_98 : decode (mz_c M_m_fits) 98 = .ok (.goto (-96), 3) := by decide +kernel
theorem d_m_fits_101 : decode (mz_c M_m_fits) 101 = .ok (.iconst 0, 1) := by decide +kernel
theorem d_m_fits_102 : decode (mz_c M_m_fits) 102 = .ok (.istore_n 2, 1) := by decide +kernel
theorem d_m_fits_103 : decode (mz_c M_m_fits) 103 = .ok (.iload_n 2, 1) := by decide +kernel
theorem d_m_fits_104 : decode (mz_c M_m_fits) 104 = .ok (.aload_n 0, 1) := by decide +kernel
theorem d_m_fits_105 : decode (mz_c M_m_fits) 105 = .ok (.getfield 175, 3) := by decide +kernel
theorem d_m_fits_108 : decode (mz_c M_m_fits) 108 = .ok (.if_icmp .ge 122, 3) := by decide +kernel
theorem d_m_fits_111 : decode (mz_c M_m_fits) 111 = .ok (.aload_n 0, 1) := by decide +kernel
theorem d_m_fits_112 : decode (mz_c M_m_fits) 112 = .ok (.getfield 79, 3) := by decide +kernel
theorem d_m_fits_115 : decode (mz_c M_m_fits) 115 = .ok (.iload_n 2, 1) := by decide +kernel
theorem d_m_fits_116 : decode (mz_c M_m_fits) 116 = .ok (.iaload, 1) := by decide +kernel
theorem d_m_fits_117 : decode (mz_c M_m_fits) 117 = .ok (.istore_n 3, 1) := by decide +kernel
theorem d_m_fits_118 : decode (mz_c M_m_fits) 118 = .ok (.iconst 0, 1) := by decide +kernel
theorem d_m_fits_119 : decode (mz_c M_m_fits) 119 = .ok (.istore 4, 2) := by decide +kernel
theorem d_m_fits_121 : decode (mz_c M_m_fits) 121 = .ok (.iconst 0, 1) := by decide +kernel
theorem d_m_fits_122 : decode (mz_c M_m_fits) 122 = .ok (.istore 5, 2) := by decide +kernel
theorem d_m_fits_124 : decode (mz_c M_m_fits) 124 = .ok (.iload 5, 2) := by decide +kernel
theorem d_m_fits_126 : decode (mz_c M_m_fits) 126 = .ok (.iconst 3, 1) := by decide +kernel
theorem d_m_fits_127 : decode (mz_c M_m_fits) 127 = .ok (.if_icmp .ge 46, 3) := by decide +kernel
theorem d_m_fits_130 : decode (mz_c M_m_fits) 130 = .ok (.iload 4, 2) := by decide +kernel
theorem d_m_fits_132 : decode (mz_c M_m_fits) 132 = .ok (.aload_n 0, 1) := by decide +kernel
theorem d_m_fits_133 : decode (mz_c M_m_fits) 133 = .ok (.getfield 24, 3) := by decide +kernel
theorem d_m_fits_136 : decode (mz_c M_m_fits) 136 = .ok (.iload_n 3, 1) := by decide +kernel
theorem d_m_fits_137 : decode (mz_c M_m_fits) 137 = .ok (.iaload, 1) := by decide +kernel
theorem d_m_fits_138 : decode (mz_c M_m_fits) 138 = .ok (.iload 5, 2) := by decide +kernel
theorem d_m_fits_140 : decode (mz_c M_m_fits) 140 = .ok (.invokestatic 178, 3) := by decide +kernel
theorem d_m_fits_143 : decode (mz_c M_m_fits) 143 = .ok (.ifCond .eq 20, 3) := by decide +kernel
theorem d_m_fits_146 : decode (mz_c M_m_fits) 146 = .ok (.aload_n 0, 1) := by decide +kernel
theorem d_m_fits_147 : decode (mz_c M_m_fits) 147 = .ok (.getfield 85, 3) := by decide +kernel
theorem d_m_fits_150 : decode (mz_c M_m_fits) 150 = .ok (.iload 5, 2) := by decide +kernel
theorem d_m_fits_152 : decode (mz_c M_m_fits) 152 = .ok (.iaload, 1) := by decide +kernel
theorem d_m_fits_153 : decode (mz_c M_m_fits) 153 = .ok (.aload_n 0, 1) := by decide +kernel
theorem d_m_fits_154 : decode (mz_c M_m_fits) 154 = .ok (.getfield 33, 3) := by decide +kernel
theorem d_m_fits_157 : decode (mz_c M_m_fits) 157 = .ok (.iload_n 3, 1) := by decide +kernel
theorem d_m_fits_158 : decode (mz_c M_m_fits) 158 = .ok (.iaload, 1) := by decide +kernel
theorem d_m_fits_159 : decode (mz_c M_m_fits) 159 = .ok (.isub, 1) := by decide +kernel
theorem d_m_fits_160 : decode (mz_c M_m_fits) 160 = .ok (.goto 4, 3) := by decide +kernel
theorem d_m_fits_163 : decode (mz_c M_m_fits) 163 = .ok (.iconst 0, 1) := by decide +kernel
theorem d_m_fits_164 : decode (mz_c M_m_fits) 164 = .ok (.iadd, 1) := by decide +kernel
theorem d_m_fits_165 : decode (mz_c M_m_fits) 165 = .ok (.istore 4, 2) := by decide +kernel
theorem d_m_fits_167 : decode (mz_c M_m_fits) 167 = .ok (.iinc 5 1, 3) := by decide +kernel
theorem d_m_fits_170 : decode (mz_c M_m_fits) 170 = .ok (.goto (-46), 3) := by decide +kernel
theorem d_m_fits_173 : decode (mz_c M_m_fits) 173 = .ok (.aload_n 0, 1) := by decide +kernel
theorem d_m_fits_174 : decode (mz_c M_m_fits) 174 = .ok (.getfield 27, 3) := by decide +kernel
theorem d_m_fits_177 : decode (mz_c M_m_fits) 177 = .ok (.iload_n 3, 1) := by decide +kernel
theorem d_m_fits_178 : decode (mz_c M_m_fits) 178 = .ok (.iaload, 1) := by decide +kernel
theorem d_m_fits_179 : decode (mz_c M_m_fits) 179 = .ok (.iconst 1, 1) := by decide +kernel
theorem d_m_fits_180 : decode (mz_c M_m_fits) 180 = .ok (.if_icmp .ne 16, 3) := by decide +kernel
theorem d_m_fits_183 : decode (mz_c M_m_fits) 183 = .ok (.iload 4, 2) := by decide +kernel
theorem d_m_fits_185 : decode (mz_c M_m_fits) 185 = .ok (.ifCond .ge 7, 3) := by decide +kernel
theorem d_m_fits_188 : decode (mz_c M_m_fits) 188 = .ok (.iconst 1, 1) := by decide +kernel
theorem d_m_fits_189 : decode (mz_c M_m_fits) 189 = .ok (.goto 17, 3) := by decide +kernel
theorem d_m_fits_192 : decode (mz_c M_m_fits) 192 = .ok (.iconst 0, 1) := by decide +kernel
theorem d_m_fits_193 : decode (mz_c M_m_fits) 193 = .ok (.goto 13, 3) := by decide +kernel
theorem d_m_fits_196 : decode (mz_c M_m_fits) 196 = .ok (.iload 4, 2) := by decide +kernel
theorem d_m_fits_198 : decode (mz_c M_m_fits) 198 = .ok (.ifCond .le 7, 3) := by decide +kernel
theorem d_m_fits_201 : decode (mz_c M_m_fits) 201 = .ok (.iconst 1, 1) := by decide +kernel
theorem d_m_fits_202 : decode (mz_c M_m_fits) 202 = .ok (.goto 4, 3) := by decide +kernel
theorem d_m_fits_205 : decode (mz_c M_m_fits) 205 = .ok (.iconst 0, 1) := by decide +kernel
theorem d_m_fits_206 : decode (mz_c M_m_fits) 206 = .ok (.istore 5, 2) := by decide +kernel
theorem d_m_fits_208 : decode (mz_c M_m_fits) 208 = .ok (.iload_n 1, 1) := by decide +kernel
theorem d_m_fits_209 : decode (mz_c M_m_fits) 209 = .ok (.iload_n 2, 1) := by decide +kernel
theorem d_m_fits_210 : decode (mz_c M_m_fits) 210 = .ok (.ishr, 1) := by decide +kernel
theorem d_m_fits_211 : decode (mz_c M_m_fits) 211 = .ok (.iconst 1, 1) := by decide +kernel
theorem d_m_fits_212 : decode (mz_c M_m_fits) 212 = .ok (.iand, 1) := by decide +kernel
theorem d_m_fits_213 : decode (mz_c M_m_fits) 213 = .ok (.iconst 1, 1) := by decide +kernel
theorem d_m_fits_214 : decode (mz_c M_m_fits) 214 = .ok (.if_icmp .ne 10, 3) := by decide +kernel
theorem d_m_fits_217 : decode (mz_c M_m_fits) 217 = .ok (.iload 5, 2) := by decide +kernel
theorem d_m_fits_219 : decode (mz_c M_m_fits) 219 = .ok (.ifCond .eq 5, 3) := by decide +kernel
theorem d_m_fits_222 : decode (mz_c M_m_fits) 222 = .ok (.iconst 0, 1) := by decide +kernel
theorem d_m_fits_223 : decode (mz_c M_m_fits) 223 = .ok (.ireturn, 1) := by decide +kernel
theorem d_m_fits_224 : decode (mz_c M_m_fits) 224 = .ok (.iinc 2 1, 3) := by decide +kernel
theorem d_m_fits_227 : decode (mz_c M_m_fits) 227 = .ok (.goto (-124), 3) := by decide +kernel
theorem d_m_fits_230 : decode (mz_c M_m_fits) 230 = .ok (.iconst 0, 1) := by decide +kernel
theorem d_m_fits_231 : decode (mz_c M_m_fits) 231 = .ok (.istore_n 2, 1) := by decide +kernel
theorem d_m_fits_232 : decode (mz_c M_m_fits) 232 = .ok (.iload_n 2, 1) := by decide +kernel
theorem d_m_fits_233 : decode (mz_c M_m_fits) 233 = .ok (.iconst 3, 1) := by decide +kernel
theorem d_m_fits_234 : decode (mz_c M_m_fits) 234 = .ok (.if_icmp .ge 23, 3) := by decide +kernel
theorem d_m_fits_237 : decode (mz_c M_m_fits) 237 = .ok (.aload_n 0, 1) := by decide +kernel
theorem d_m_fits_238 : decode (mz_c M_m_fits) 238 = .ok (.iload_n 1, 1) := by decide +kernel
theorem d_m_fits_239 : decode (mz_c M_m_fits) 239 = .ok (.iload_n 2, 1) := by decide +kernel
theorem d_m_fits_240 : decode (mz_c M_m_fits) 240 = .ok (.iconst 0, 1) := by decide +kernel
theorem d_m_fits_241 : decode (mz_c M_m_fits) 241 = .ok (.invokevirtual 196, 3) := by decide +kernel
theorem d_m_fits_244 : decode (mz_c M_m_fits) 244 = .ok (.aload_n 0, 1) := by decide +kernel
theorem d_m_fits_245 : decode (mz_c M_m_fits) 245 = .ok (.iload_n 1, 1) := by decide +kernel
theorem d_m_fits_246 : decode (mz_c M_m_fits) 246 = .ok (.iload_n 2, 1) := by decide +kernel
theorem d_m_fits_247 : decode (mz_c M_m_fits) 247 = .ok (.iconst 1, 1) := by decide +kernel
theorem d_m_fits_248 : decode (mz_c M_m_fits) 248 = .ok (.invokevirtual 196, 3) := by decide +kernel
theorem d_m_fits_251 : decode (mz_c M_m_fits) 251 = .ok (.iinc 2 1, 3) := by decide +kernel
theorem d_m_fits_254 : decode (mz_c M_m_fits) 254 = .ok (.goto (-22), 3) := by decide +kernel
theorem d_m_fits_257 : decode (mz_c M_m_fits) 257 = .ok (.iconst 1, 1) := by decide +kernel
theorem d_m_fits_258 : decode (mz_c M_m_fits) 258 = .ok (.ireturn, 1) := by decide +kernel
theorem d_m_share_0 : decode (mz_c M_m_share) 0 = .ok (.aload_n 0, 1) := by decide +kernel
theorem d_m_share_1 : decode (mz_c M_m_share) 1 = .ok (.getfield 85, 3) := by decide +kernel
theorem d_m_share_4 : decode (mz_c M_m_share) 4 = .ok (.iload_n 2, 1) := by decide +kernel
theorem d_m_share_5 : decode (mz_c M_m_share) 5 = .ok (.iaload, 1) := by decide +kernel
theorem d_m_share_6 : decode (mz_c M_m_share) 6 = .ok (.istore 4, 2) := by decide +kernel
theorem d_m_share_8 : decode (mz_c M_m_share) 8 = .ok (.aload_n 0, 1) := by decide +kernel
theorem d_m_share_9 : decode (mz_c M_m_share) 9 = .ok (.getfield 88, 3) := by decide +kernel
theorem d_m_share_12 : decode (mz_c M_m_share) 12 = .ok (.iload_n 2, 1) := by decide +kernel
theorem d_m_share_13 : decode (mz_c M_m_share) 13 = .ok (.iaload, 1) := by decide +kernel
theorem d_m_share_14 : decode (mz_c M_m_share) 14 = .ok (.aload_n 0, 1) := by decide +kernel
theorem d_m_share_15 : decode (mz_c M_m_share) 15 = .ok (.iload_n 1, 1) := by decide +kernel
theorem d_m_share_16 : decode (mz_c M_m_share) 16 = .ok (.iload_n 2, 1) := by decide +kernel
theorem d_m_share_17 : decode (mz_c M_m_share) 17 = .ok (.iload 4, 2) := by decide +kernel
theorem d_m_share_19 : decode (mz_c M_m_share) 19 = .ok (.iload_n 3, 1) := by decide +kernel
theorem d_m_share_20 : decode (mz_c M_m_share) 20 = .ok (.iconst 0, 1) := by decide +kernel
theorem d_m_share_21 : decode (mz_c M_m_share) 21 = .ok (.invokevirtual 182, 3) := by decide +kernel
theorem d_m_share_24 : decode (mz_c M_m_share) 24 = .ok (.isub, 1) := by decide +kernel
theorem d_m_share_25 : decode (mz_c M_m_share) 25 = .ok (.i2l, 1) := by decide +kernel
theorem d_m_share_26 : decode (mz_c M_m_share) 26 = .ok (.lstore 5, 2) := by decide +kernel
theorem d_m_share_28 : decode (mz_c M_m_share) 28 = .ok (.lload 5, 2) := by decide +kernel
theorem d_m_share_30 : decode (mz_c M_m_share) 30 = .ok (.lstore 7, 2) := by decide +kernel
theorem d_m_share_32 : decode (mz_c M_m_share) 32 = .ok (.aload_n 0, 1) := by decide +kernel
theorem d_m_share_33 : decode (mz_c M_m_share) 33 = .ok (.iload_n 1, 1) := by decide +kernel
theorem d_m_share_34 : decode (mz_c M_m_share) 34 = .ok (.iload_n 2, 1) := by decide +kernel
theorem d_m_share_35 : decode (mz_c M_m_share) 35 = .ok (.iload 4, 2) := by decide +kernel
theorem d_m_share_37 : decode (mz_c M_m_share) 37 = .ok (.iload_n 3, 1) := by decide +kernel
theorem d_m_share_38 : decode (mz_c M_m_share) 38 = .ok (.iconst 1, 1) := by decide +kernel
theorem d_m_share_39 : decode (mz_c M_m_share) 39 = .ok (.invokevirtual 182, 3) := by decide +kernel
theorem d_m_share_42 : decode (mz_c M_m_share) 42 = .ok (.aload_n 0, 1) := by decide +kernel
theorem d_m_share_43 : decode (mz_c M_m_share) 43 = .ok (.iload_n 1, 1) := by decide +kernel
theorem d_m_share_44 : decode (mz_c M_m_share) 44 = .ok (.iload_n 2, 1) := by decide +kernel
theorem d_m_share_45 : decode (mz_c M_m_share) 45 = .ok (.iload 4, 2) := by decide +kernel
theorem d_m_share_47 : decode (mz_c M_m_share) 47 = .ok (.iload_n 3, 1) := by decide +kernel
theorem d_m_share_48 : decode (mz_c M_m_share) 48 = .ok (.iconst 0, 1) := by decide +kernel
theorem d_m_share_49 : decode (mz_c M_m_share) 49 = .ok (.invokevirtual 182, 3) := by decide +kernel
theorem d_m_share_52 : decode (mz_c M_m_share) 52 = .ok (.isub, 1) := by decide +kernel
theorem d_m_share_53 : decode (mz_c M_m_share) 53 = .ok (.i2l, 1) := by decide +kernel
theorem d_m_share_54 : decode (mz_c M_m_share) 54 = .ok (.lstore 9, 2) := by decide +kernel
theorem d_m_share_56 : decode (mz_c M_m_share) 56 = .ok (.iconst 0, 1) := by decide +kernel
theorem d_m_share_57 : decode (mz_c M_m_share) 57 = .ok (.istore 11, 2) := by decide +kernel
theorem d_m_share_59 : decode (mz_c M_m_share) 59 = .ok (.iload 11, 2) := by decide +kernel
theorem d_m_share_61 : decode (mz_c M_m_share) 61 = .ok (.aload_n 0, 1) := by decide +kernel
theorem d_m_share_62 : decode (mz_c M_m_share) 62 = .ok (.getfield 172, 3) := by decide +kernel
theorem d_m_share_65 : decode (mz_c M_m_share) 65 = .ok (.if_icmp .ge 202, 3) := by decide +kernel
theorem d_m_share_68 : decode (mz_c M_m_share) 68 = .ok (.aload_n 0, 1) := by decide +kernel
theorem d_m_share_69 : decode (mz_c M_m_share) 69 = .ok (.getfield 73, 3) := by decide +kernel
theorem d_m_share_72 : decode (mz_c M_m_share) 72 = .ok (.iload 11, 2) := by decide +kernel
theorem d_m_share_74 : decode (mz_c M_m_share) 74 = .ok (.iaload, 1) := by decide +kernel
theorem d_m_share_75 : decode (mz_c M_m_share) 75 = .ok (.istore 12, 2) := by decide +kernel
theorem d_m_share_77 : decode (mz_c M_m_share) 77 = .ok (.aload_n 0, 1) := by decide +kernel
theorem d_m_share_78 : decode (mz_c M_m_share) 78 = .ok (.getfield 27, 3) := by decide +kernel
theorem d_m_share_81 : decode (mz_c M_m_share) 81 = .ok (.iload 12, 2) := by decide +kernel
theorem d_m_share_83 : decode (mz_c M_m_share) 83 = .ok (.iaload, 1) := by decide +kernel
theorem d_m_share_84 : decode (mz_c M_m_share) 84 = .ok (.iload_n 3, 1) := by decide +kernel
theorem d_m_share_85 : decode (mz_c M_m_share) 85 = .ok (.if_icmp .ne 176, 3) := by decide +kernel
theorem d_m_share_88 : decode (mz_c M_m_share) 88 = .ok (.aload_n 0, 1) := by decide +kernel
theorem d_m_share_89 : decode (mz_c M_m_share) 89 = .ok (.getfield 24, 3) := by decide +kernel
theorem d_m_share_92 : decode (mz_c M_m_share) 92 = .ok (.iload 12, 2) := by decide +kernel
theorem d_m_share_94 : decode (mz_c M_m_share) 94 = .ok (.iaload, 1) := by decide +kernel
theorem d_m_share_95 : decode (mz_c M_m_share) 95 = .ok (.iload_n 2, 1) := by decide +kernel
theorem d_m_share_96 : decode (mz_c M_m_share) 96 = .ok (.if_icmp .ne 165, 3) := by decide +kernel
theorem d_m_share_99 : decode (mz_c M_m_share) 99 = .ok (.aload_n 0, 1) := by decide +kernel
theorem d_m_share_100 : decode (mz_c M_m_share) 100 = .ok (.getfield 33, 3) := by decide +kernel
theorem d_m_share_103 : decode (mz_c M_m_share) 103 = .ok (.iload 12, 2) := by decide +kernel
theorem d_m_share_105 : decode (mz_c M_m_share) 105 = .ok (.iaload, 1) := by decide +kernel
theorem d_m_share_106 : decode (mz_c M_m_share) 106 = .ok (.iload 4, 2) := by decide +kernel
theorem d_m_share_108 : decode (mz_c M_m_share) 108 = .ok (.if_icmp .ne 7, 3) := by decide +kernel
theorem d_m_share_111 : decode (mz_c M_m_share) 111 = .ok (.iconst 1, 1) := by decide +kernel
theorem d_m_share_112 : decode (mz_c M_m_share) 112 = .ok (.goto 4, 3) := by decide +kernel
theorem d_m_share_115 : decode (mz_c M_m_share) 115 = .ok (.iconst 0, 1) := by decide +kernel
theorem d_m_share_116 : decode (mz_c M_m_share) 116 = .ok (.istore 13, 2) := by decide +kernel
theorem d_m_share_118 : decode (mz_c M_m_share) 118 = .ok (.iload_n 3, 1) := by decide +kernel
theorem d_m_share_119 : decode (mz_c M_m_share) 119 = .ok (.ifCond .ne 23, 3) := by decide +kernel
theorem d_m_share_122 : decode (mz_c M_m_share) 122 = .ok (.aload_n 0, 1) := by decide +kernel
theorem d_m_share_123 : decode (mz_c M_m_share) 123 = .ok (.getfield 33, 3) := by decide +kernel
theorem d_m_share_126 : decode (mz_c M_m_share) 126 = .ok (.iload 12, 2) := by decide +kernel
theorem d_m_share_128 : decode (mz_c M_m_share) 128 = .ok (.iaload, 1) := by decide +kernel
theorem d_m_share_129 : decode (mz_c M_m_share) 129 = .ok (.iload 4, 2) := by decide +kernel
theorem d_m_share_131 : decode (mz_c M_m_share) 131 = .ok (.if_icmp .le 7, 3) := by decide +kernel
theorem d_m_share_134 : decode (mz_c M_m_share) 134 = .ok (.iconst 1, 1) := by decide +kernel
theorem d_m_share_135 : decode (mz_c M_m_share) 135 = .ok (.goto 24, 3) := by decide +kernel
theorem d_m_share_138 : decode (mz_c M_m_share) 138 = .ok (.iconst 0, 1) := by decide +kernel
theorem d_m_share_139 : decode (mz_c M_m_share) 139 = .ok (.goto 20, 3) := by decide +kernel
theorem d_m_share_142 : decode (mz_c M_m_share) 142 = .ok (.aload_n 0, 1) := by decide +kernel
theorem d_m_share_143 : decode (mz_c M_m_share) 143 = .ok (.getfield 33, 3) := by decide +kernel
theorem d_m_share_146 : decode (mz_c M_m_share) 146 = .ok (.iload 12, 2) := by decide +kernel
theorem d_m_share_148 : decode (mz_c M_m_share) 148 = .ok (.iaload, 1) := by decide +kernel
theorem d_m_share_149 : decode (mz_c M_m_share) 149 = .ok (.iload 4, 2) := by decide +kernel
theorem d_m_share_151 : decode (mz_c M_m_share) 151 = .ok (.if_icmp .ge 7, 3) := by decide +kernel
theorem d_m_share_154 : decode (mz_c M_m_share) 154 = .ok (.iconst 1, 1) := by decide +kernel
theorem d_m_share_155 : decode (mz_c M_m_share) 155 = .ok (.goto 4, 3) := by decide +kernel
theorem d_m_share_158 : decode (mz_c M_m_share) 158 = .ok (.iconst 0, 1) := by decide +kernel
theorem d_m_share_159 : decode (mz_c M_m_share) 159 = .ok (.istore 14, 2) := by decide +kernel
theorem d_m_share_161 : decode (mz_c M_m_share) 161 = .ok (.aload_n 0, 1) := by decide +kernel
theorem d_m_share_162 : decode (mz_c M_m_share) 162 = .ok (.getfield 91, 3) := by decide +kernel
theorem d_m_share_165 : decode (mz_c M_m_share) 165 = .ok (.iload 11, 2) := by decide +kernel
theorem d_m_share_167 : decode (mz_c M_m_share) 167 = .ok (.iload 14, 2) := by decide +kernel
theorem d_m_share_169 : decode (mz_c M_m_share) 169 = .ok (.ifCond .eq 13, 3) := by decide +kernel
theorem d_m_share_172 : decode (mz_c M_m_share) 172 = .ok (.aload_n 0, 1) := by decide +kernel
theorem d_m_share_173 : decode (mz_c M_m_share) 173 = .ok (.getfield 30, 3) := by decide +kernel
theorem d_m_share_176 : decode (mz_c M_m_share) 176 = .ok (.iload 12, 2) := by decide +kernel
theorem d_m_share_178 : decode (mz_c M_m_share) 178 = .ok (.iaload, 1) := by decide +kernel
theorem d_m_share_179 : decode (mz_c M_m_share) 179 = .ok (.goto 27, 3) := by decide +kernel
theorem d_m_share_182 : decode (mz_c M_m_share) 182 = .ok (.iload 13, 2) := by decide +kernel
theorem d_m_share_184 : decode (mz_c M_m_share) 184 = .ok (.ifCond .eq 21, 3) := by decide +kernel
theorem d_m_share_187 : decode (mz_c M_m_share) 187 = .ok (.aload_n 0, 1) := by decide +kernel
theorem d_m_share_188 : decode (mz_c M_m_share) 188 = .ok (.getfield 30, 3) := by decide +kernel
theorem d_m_share_191 : decode (mz_c M_m_share) 191 = .ok (.iload 12, 2) := by decide +kernel
theorem d_m_share_193 : decode (mz_c M_m_share) 193 = .ok (.iaload, 1) := by decide +kernel
theorem d_m_share_194 : decode (mz_c M_m_share) 194 = .ok (.i2l, 1) := by decide +kernel
theorem d_m_share_195 : decode (mz_c M_m_share) 195 = .ok (.lload 7, 2) := by decide +kernel
theorem d_m_share_197 : decode (mz_c M_m_share) 197 = .ok (.lmul, 1) := by decide +kernel
theorem d_m_share_198 : decode (mz_c M_m_share) 198 = .ok (.lload 9, 2) := by decide +kernel
theorem d_m_share_200 : decode (mz_c M_m_share) 200 = .ok (.ldiv, 1) := by decide +kernel
theorem d_m_share_201 : decode (mz_c M_m_share) 201 = .ok (.l2i, 1) := by decide +kernel
theorem d_m_share_202 : decode (mz_c M_m_share) 202 = .ok (.goto 4, 3) := by decide +kernel
theorem d_m_share_205 : decode (mz_c M_m_share) 205 = .ok (.iconst 0, 1) := by decide +kernel
theorem d_m_share_206 : decode (mz_c M_m_share) 206 = .ok (.iastore, 1) := by decide +kernel
theorem d_m_share_207 : decode (mz_c M_m_share) 207 = .ok (.aload_n 0, 1) := by decide +kernel
theorem d_m_share_208 : decode (mz_c M_m_share) 208 = .ok (.getfield 94, 3) := by decide +kernel
theorem d_m_share_211 : decode (mz_c M_m_share) 211 = .ok (.iload 11, 2) := by decide +kernel
theorem d_m_share_213 : decode (mz_c M_m_share) 213 = .ok (.iload 13, 2) := by decide +kernel
theorem d_m_share_215 : decode (mz_c M_m_share) 215 = .ok (.ifCond .eq 20, 3) := by decide +kernel
theorem d_m_share_218 : decode (mz_c M_m_share) 218 = .ok (.aload_n 0, 1) := by decide +kernel
theorem d_m_share_219 : decode (mz_c M_m_share) 219 = .ok (.getfield 30, 3) := by decide +kernel
theorem d_m_share_222 : decode (mz_c M_m_share) 222 = .ok (.iload 12, 2) := by decide +kernel
theorem d_m_share_224 : decode (mz_c M_m_share) 224 = .ok (.iaload, 1) := by decide +kernel
theorem d_m_share_225 : decode (mz_c M_m_share) 225 = .ok (.i2l, 1) := by decide +kernel
theorem d_m_share_226 : decode (mz_c M_m_share) 226 = .ok (.lload 7, 2) := by decide +kernel
theorem d_m_share_228 : decode (mz_c M_m_share) 228 = .ok (.lmul, 1) := by decide +kernel
theorem d_m_share_229 : decode (mz_c M_m_share) 229 = .ok (.lload 9, 2) := by decide +kernel
theorem d_m_share_231 : decode (mz_c M_m_share) 231 = .ok (.lrem, 1) := by decide +kernel
theorem d_m_share_232 : decode (mz_c M_m_share) 232 = .ok (.goto 6, 3) := by decide +kernel
theorem d_m_share_235 : decode (mz_c M_m_share) 235 = .ok (.ldc2_w 123, 3) := by decide +kernel
theorem d_m_share_238 : decode (mz_c M_m_share) 238 = .ok (.lastore, 1) := by decide +kernel
theorem d_m_share_239 : decode (mz_c M_m_share) 239 = .ok (.lload 5, 2) := by decide +kernel
theorem d_m_share_241 : decode (mz_c M_m_share) 241 = .ok (.iload 13, 2) := by decide +kernel
theorem d_m_share_243 : decode (mz_c M_m_share) 243 = .ok (.ifCond .eq 14, 3) := by decide +kernel
theorem d_m_share_246 : decode (mz_c M_m_share) 246 = .ok (.aload_n 0, 1) := by decide +kernel
theorem d_m_share_247 : decode (mz_c M_m_share) 247 = .ok (.getfield 91, 3) := by decide +kernel
theorem d_m_share_250 : decode (mz_c M_m_share) 250 = .ok (.iload 11, 2) := by decide +kernel
theorem d_m_share_252 : decode (mz_c M_m_share) 252 = .ok (.iaload, 1) := by decide +kernel
theorem d_m_share_253 : decode (mz_c M_m_share) 253 = .ok (.i2l, 1) := by decide +kernel
theorem d_m_share_254 : decode (mz_c M_m_share) 254 = .ok (.goto 4, 3) := by decide +kernel
theorem d_m_share_257 : decode (mz_c M_m_share) 257 = .ok (.lconst 0, 1) := by decide +kernel
theorem d_m_share_258 : decode (mz_c M_m_share) 258 = .ok (.lsub, 1) := by decide +kernel
theorem d_m_share_259 : decode (mz_c M_m_share) 259 = .ok (.lstore 5, 2) := by decide +kernel
theorem d_m_share_261 : decode (mz_c M_m_share) 261 = .ok (.iinc 11 1, 3) := by decide +kernel
theorem d_m_share_264 : decode (mz_c M_m_share) 264 = .ok (.goto (-205), 3) := by decide +kernel
theorem d_m_share_267 : decode (mz_c M_m_share) 267 = .ok (.lload 5, 2) := by decide +kernel
theorem d_m_share_269 : decode (mz_c M_m_share) 269 = .ok (.lconst 0, 1) := by decide +kernel
theorem d_m_share_270 : decode (mz_c M_m_share) 270 = .ok (.lcmp, 1) := by decide +kernel
theorem d_m_share_271 : decode (mz_c M_m_share) 271 = .ok (.ifCond .le 141, 3) := by decide +kernel
theorem d_m_share_274 : decode (mz_c M_m_share) 274 = .ok (.iconst (-1), 1) := by decide +kernel
theorem d_m_share_275 : decode (mz_c M_m_share) 275 = .ok (.istore 11, 2) := by decide +kernel
theorem d_m_share_277 : decode (mz_c M_m_share) 277 = .ok (.iconst 0, 1) := by decide +kernel
theorem d_m_share_278 : decode (mz_c M_m_share) 278 = .ok (.istore 12, 2) := by decide +kernel
theorem d_m_share_280 : decode (mz_c M_m_share) 280 = .ok (.iload 12, 2) := by decide +kernel
theorem d_m_share_282 : decode (mz_c M_m_share) 282 = .ok (.aload_n 0, 1) := by decide +kernel
theorem d_m_share_283 : decode (mz_c M_m_share) 283 = .ok (.getfield 172, 3) := by decide +kernel
theorem d_m_share_286 : decode (mz_c M_m_share) 286 = .ok (.if_icmp .ge 96, 3) := by decide +kernel
theorem d_m_share_289 : decode (mz_c M_m_share) 289 = .ok (.aload_n 0, 1) := by decide +kernel
theorem d_m_share_290 : decode (mz_c M_m_share) 290 = .ok (.getfield 73, 3) := by decide +kernel
theorem d_m_share_293 : decode (mz_c M_m_share) 293 = .ok (.iload 12, 2) := by decide +kernel
theorem d_m_share_295 : decode (mz_c M_m_share) 295 = .ok (.iaload, 1) := by decide +kernel
theorem d_m_share_296 : decode (mz_c M_m_share) 296 = .ok (.istore 13, 2) := by decide +kernel
theorem d_m_share_298 : decode (mz_c M_m_share) 298 = .ok (.aload_n 0, 1) := by decide +kernel
theorem d_m_share_299 : decode (mz_c M_m_share) 299 = .ok (.getfield 27, 3) := by decide +kernel
theorem d_m_share_302 : decode (mz_c M_m_share) 302 = .ok (.iload 13, 2) := by decide +kernel
theorem d_m_share_304 : decode (mz_c M_m_share) 304 = .ok (.iaload, 1) := by decide +kernel
theorem d_m_share_305 : decode (mz_c M_m_share) 305 = .ok (.iload_n 3, 1) := by decide +kernel
theorem d_m_share_306 : decode (mz_c M_m_share) 306 = .ok (.if_icmp .ne 53, 3) := by decide +kernel
theorem d_m_share_309 : decode (mz_c M_m_share) 309 = .ok (.aload_n 0, 1) := by decide +kernel
theorem d_m_share_310 : decode (mz_c M_m_share) 310 = .ok (.getfield 24, 3) := by decide +kernel
theorem d_m_share_313 : decode (mz_c M_m_share) 313 = .ok (.iload 13, 2) := by decide +kernel
theorem d_m_share_315 : decode (mz_c M_m_share) 315 = .ok (.iaload, 1) := by decide +kernel
theorem d_m_share_316 : decode (mz_c M_m_share) 316 = .ok (.iload_n 2, 1) := by decide +kernel
theorem d_m_share_317 : decode (mz_c M_m_share) 317 = .ok (.if_icmp .ne 42, 3) := by decide +kernel
theorem d_m_share_320 : decode (mz_c M_m_share) 320 = .ok (.aload_n 0, 1) := by decide +kernel
theorem d_m_share_321 : decode (mz_c M_m_share) 321 = .ok (.getfield 94, 3) := by decide +kernel
theorem d_m_share_324 : decode (mz_c M_m_share) 324 = .ok (.iload 12, 2) := by decide +kernel
theorem d_m_share_326 : decode (mz_c M_m_share) 326 = .ok (.laload, 1) := by decide +kernel
theorem d_m_share_327 : decode (mz_c M_m_share) 327 = .ok (.lconst 0, 1) := by decide +kernel
theorem d_m_share_328 : decode (mz_c M_m_share) 328 = .ok (.lcmp, 1) := by decide +kernel
theorem d_m_share_329 : decode (mz_c M_m_share) 329 = .ok (.ifCond .lt 30, 3) := by decide +kernel
theorem d_m_share_332 : decode (mz_c M_m_share) 332 = .ok (.iload 11, 2) := by decide +kernel
theorem d_m_share_334 : decode (mz_c M_m_share) 334 = .ok (.ifCond .lt 21, 3) := by decide +kernel
theorem d_m_share_337 : decode (mz_c M_m_share) 337 = .ok (.aload_n 0, 1) := by decide +kernel
theorem d_m_share_338 : decode (mz_c M_m_share) 338 = .ok (.getfield 94, 3) := by decide +kernel
theorem d_m_share_341 : decode (mz_c M_m_share) 341 = .ok (.iload 12, 2) := by decide +kernel
theorem d_m_share_343 : decode (mz_c M_m_share) 343 = .ok (.laload, 1) := by decide +kernel
theorem d_m_share_344 : decode (mz_c M_m_share) 344 = .ok (.aload_n 0, 1) := by decide +kernel
theorem d_m_share_345 : decode (mz_c M_m_share) 345 = .ok (.getfield 94, 3) := by decide +kernel
theorem d_m_share_348 : decode (mz_c M_m_share) 348 = .ok (.iload 11, 2) := by decide +kernel
theorem d_m_share_350 : decode (mz_c M_m_share) 350 = .ok (.laload, 1) := by decide +kernel
theorem d_m_share_351 : decode (mz_c M_m_share) 351 = .ok (.lcmp, 1) := by decide +kernel
theorem d_m_share_352 : decode (mz_c M_m_share) 352 = .ok (.ifCond .le 7, 3) := by decide +kernel
theorem d_m_share_355 : decode (mz_c M_m_share) 355 = .ok (.iconst 1, 1) := by decide +kernel
theorem d_m_share_356 : decode (mz_c M_m_share) 356 = .ok (.goto 4, 3) := by decide +kernel
theorem d_m_share_359 : decode (mz_c M_m_share) 359 = .ok (.iconst 0, 1) := by decide +kernel
theorem d_m_share_360 : decode (mz_c M_m_share) 360 = .ok (.istore 14, 2) := by decide +kernel
theorem d_m_share_362 : decode (mz_c M_m_share) 362 = .ok (.iload 14, 2) := by decide +kernel
theorem d_m_share_364 : decode (mz_c M_m_share) 364 = .ok (.ifCond .eq 8, 3) := by decide +kernel
theorem d_m_share_367 : decode (mz_c M_m_share) 367 = .ok (.iload 12, 2) := by decide +kernel
theorem d_m_share_369 : decode (mz_c M_m_share) 369 = .ok (.goto 5, 3) := by decide +kernel
theorem d_m_share_372 : decode (mz_c M_m_share) 372 = .ok (.iload 11, 2) := by decide +kernel
theorem d_m_share_374 : decode (mz_c M_m_share) 374 = .ok (.istore 11, 2) := by decide +kernel
theorem d_m_share_376 : decode (mz_c M_m_share) 376 = .ok (.iinc 12 1, 3) := by decide +kernel
theorem d_m_share_379 : decode (mz_c M_m_share) 379 = .ok (.goto (-99), 3) := by decide +kernel
theorem d_m_share_382 : decode (mz_c M_m_share) 382 = .ok (.aload_n 0, 1) := by decide +kernel
theorem d_m_share_383 : decode (mz_c M_m_share) 383 = .ok (.getfield 91, 3) := by decide +kernel
theorem d_m_share_386 : decode (mz_c M_m_share) 386 = .ok (.iload 11, 2) := by decide +kernel
theorem d_m_share_388 : decode (mz_c M_m_share) 388 = .ok (.dup2, 1) := by decide +kernel
theorem d_m_share_389 : decode (mz_c M_m_share) 389 = .ok (.iaload, 1) := by decide +kernel
theorem d_m_share_390 : decode (mz_c M_m_share) 390 = .ok (.iconst 1, 1) := by decide +kernel
theorem d_m_share_391 : decode (mz_c M_m_share) 391 = .ok (.iadd, 1) := by decide +kernel
theorem d_m_share_392 : decode (mz_c M_m_share) 392 = .ok (.iastore, 1) := by decide +kernel
theorem d_m_share_393 : decode (mz_c M_m_share) 393 = .ok (.aload_n 0, 1) := by decide +kernel
theorem d_m_share_394 : decode (mz_c M_m_share) 394 = .ok (.getfield 94, 3) := by decide +kernel
theorem d_m_share_397 : decode (mz_c M_m_share) 397 = .ok (.iload 11, 2) := by decide +kernel
theorem d_m_share_399 : decode (mz_c M_m_share) 399 = .ok (.ldc2_w 123, 3) := by decide +kernel
theorem d_m_share_402 : decode (mz_c M_m_share) 402 = .ok (.lastore, 1) := by decide +kernel
theorem d_m_share_403 : decode (mz_c M_m_share) 403 = .ok (.lload 5, 2) := by decide +kernel
theorem d_m_share_405 : decode (mz_c M_m_share) 405 = .ok (.lconst 1, 1) := by decide +kernel
theorem d_m_share_406 : decode (mz_c M_m_share) 406 = .ok (.lsub, 1) := by decide +kernel
theorem d_m_share_407 : decode (mz_c M_m_share) 407 = .ok (.lstore 5, 2) := by decide +kernel
theorem d_m_share_409 : decode (mz_c M_m_share) 409 = .ok (.goto (-142), 3) := by decide +kernel
theorem d_m_share_412 : decode (mz_c M_m_share) 412 = .ok (.return_, 1) := by decide +kernel
theorem d_m_welfareOf_0 : decode (mz_c M_m_welfareOf) 0 = .ok (.lconst 0, 1) := by decide +kernel
theorem d_m_welfareOf_1 : decode (mz_c M_m_welfareOf) 1 = .ok (.lstore_n 2, 1) := by decide +kernel
theorem d_m_welfareOf_2 : decode (mz_c M_m_welfareOf) 2 = .ok (.iconst 0, 1) := by decide +kernel
theorem d_m_welfareOf_3 : decode (mz_c M_m_welfareOf) 3 = .ok (.istore 4, 2) := by decide +kernel
theorem d_m_welfareOf_5 : decode (mz_c M_m_welfareOf) 5 = .ok (.iload 4, 2) := by decide +kernel
theorem d_m_welfareOf_7 : decode (mz_c M_m_welfareOf) 7 = .ok (.aload_n 0, 1) := by decide +kernel
theorem d_m_welfareOf_8 : decode (mz_c M_m_welfareOf) 8 = .ok (.getfield 172, 3) := by decide +kernel
theorem d_m_welfareOf_11 : decode (mz_c M_m_welfareOf) 11 = .ok (.if_icmp .ge 58, 3) := by decide +kernel
theorem d_m_welfareOf_14 : decode (mz_c M_m_welfareOf) 14 = .ok (.aload_n 0, 1) := by decide +kernel
theorem d_m_welfareOf_15 : decode (mz_c M_m_welfareOf) 15 = .ok (.getfield 73, 3) := by decide +kernel
theorem d_m_welfareOf_18 : decode (mz_c M_m_welfareOf) 18 = .ok (.iload 4, 2) := by decide +kernel
theorem d_m_welfareOf_20 : decode (mz_c M_m_welfareOf) 20 = .ok (.iaload, 1) := by decide +kernel
theorem d_m_welfareOf_21 : decode (mz_c M_m_welfareOf) 21 = .ok (.istore 5, 2) := by decide +kernel
theorem d_m_welfareOf_23 : decode (mz_c M_m_welfareOf) 23 = .ok (.aload_n 0, 1) := by decide +kernel
theorem d_m_welfareOf_24 : decode (mz_c M_m_welfareOf) 24 = .ok (.getfield 91, 3) := by decide +kernel
theorem d_m_welfareOf_27 : decode (mz_c M_m_welfareOf) 27 = .ok (.iload 4, 2) := by decide +kernel
theorem d_m_welfareOf_29 : decode (mz_c M_m_welfareOf) 29 = .ok (.iaload, 1) := by decide +kernel
theorem d_m_welfareOf_30 : decode (mz_c M_m_welfareOf) 30 = .ok (.i2l, 1) := by decide +kernel
theorem d_m_welfareOf_31 : decode (mz_c M_m_welfareOf) 31 = .ok (.aload_n 0, 1) := by decide +kernel
theorem d_m_welfareOf_32 : decode (mz_c M_m_welfareOf) 32 = .ok (.getfield 33, 3) := by decide +kernel
theorem d_m_welfareOf_35 : decode (mz_c M_m_welfareOf) 35 = .ok (.iload 5, 2) := by decide +kernel
theorem d_m_welfareOf_37 : decode (mz_c M_m_welfareOf) 37 = .ok (.iaload, 1) := by decide +kernel
theorem d_m_welfareOf_38 : decode (mz_c M_m_welfareOf) 38 = .ok (.i2l, 1) := by decide +kernel
theorem d_m_welfareOf_39 : decode (mz_c M_m_welfareOf) 39 = .ok (.lmul, 1) := by decide +kernel
theorem d_m_welfareOf_40 : decode (mz_c M_m_welfareOf) 40 = .ok (.lstore 6, 2) := by decide +kernel
theorem d_m_welfareOf_42 : decode (mz_c M_m_welfareOf) 42 = .ok (.lload_n 2, 1) := by decide +kernel
theorem d_m_welfareOf_43 : decode (mz_c M_m_welfareOf) 43 = .ok (.aload_n 0, 1) := by decide +kernel
theorem d_m_welfareOf_44 : decode (mz_c M_m_welfareOf) 44 = .ok (.getfield 27, 3) := by decide +kernel
theorem d_m_welfareOf_47 : decode (mz_c M_m_welfareOf) 47 = .ok (.iload 5, 2) := by decide +kernel
theorem d_m_welfareOf_49 : decode (mz_c M_m_welfareOf) 49 = .ok (.iaload, 1) := by decide +kernel
theorem d_m_welfareOf_50 : decode (mz_c M_m_welfareOf) 50 = .ok (.ifCond .ne 8, 3) := by decide +kernel
theorem d_m_welfareOf_53 : decode (mz_c M_m_welfareOf) 53 = .ok (.lload 6, 2) := by decide +kernel
theorem d_m_welfareOf_55 : decode (mz_c M_m_welfareOf) 55 = .ok (.goto 6, 3) := by decide +kernel
theorem d_m_welfareOf_58 : decode (mz_c M_m_welfareOf) 58 = .ok (.lload 6, 2) := by decide +kernel
theorem d_m_welfareOf_60 : decode (mz_c M_m_welfareOf) 60 = .ok (.lneg, 1) := by decide +kernel
theorem d_m_welfareOf_61 : decode (mz_c M_m_welfareOf) 61 = .ok (.ladd, 1) := by decide +kernel
theorem d_m_welfareOf_62 : decode (mz_c M_m_welfareOf) 62 = .ok (.lstore_n 2, 1) := by decide +kernel
theorem d_m_welfareOf_63 : decode (mz_c M_m_welfareOf) 63 = .ok (.iinc 4 1, 3) := by decide +kernel
theorem d_m_welfareOf_66 : decode (mz_c M_m_welfareOf) 66 = .ok (.goto (-61), 3) := by decide +kernel
theorem d_m_welfareOf_69 : decode (mz_c M_m_welfareOf) 69 = .ok (.iconst 0, 1) := by decide +kernel
theorem d_m_welfareOf_70 : decode (mz_c M_m_welfareOf) 70 = .ok (.istore 4, 2) := by decide +kernel
theorem d_m_welfareOf_72 : decode (mz_c M_m_welfareOf) 72 = .ok (.iload 4, 2) := by decide +kernel
theorem d_m_welfareOf_74 : decode (mz_c M_m_welfareOf) 74 = .ok (.aload_n 0, 1) := by decide +kernel
theorem d_m_welfareOf_75 : decode (mz_c M_m_welfareOf) 75 = .ok (.getfield 175, 3) := by decide +kernel
theorem d_m_welfareOf_78 : decode (mz_c M_m_welfareOf) 78 = .ok (.if_icmp .ge 94, 3) := by decide +kernel
theorem d_m_welfareOf_81 : decode (mz_c M_m_welfareOf) 81 = .ok (.aload_n 0, 1) := by decide +kernel
theorem d_m_welfareOf_82 : decode (mz_c M_m_welfareOf) 82 = .ok (.getfield 79, 3) := by decide +kernel
theorem d_m_welfareOf_85 : decode (mz_c M_m_welfareOf) 85 = .ok (.iload 4, 2) := by decide +kernel
theorem d_m_welfareOf_87 : decode (mz_c M_m_welfareOf) 87 = .ok (.iaload, 1) := by decide +kernel
theorem d_m_welfareOf_88 : decode (mz_c M_m_welfareOf) 88 = .ok (.istore 5, 2) := by decide +kernel
theorem d_m_welfareOf_90 : decode (mz_c M_m_welfareOf) 90 = .ok (.aload_n 0, 1) := by decide +kernel
theorem d_m_welfareOf_91 : decode (mz_c M_m_welfareOf) 91 = .ok (.getfield 30, 3) := by decide +kernel
theorem d_m_welfareOf_94 : decode (mz_c M_m_welfareOf) 94 = .ok (.iload 5, 2) := by decide +kernel
theorem d_m_welfareOf_96 : decode (mz_c M_m_welfareOf) 96 = .ok (.iaload, 1) := by decide +kernel
theorem d_m_welfareOf_97 : decode (mz_c M_m_welfareOf) 97 = .ok (.i2l, 1) := by decide +kernel
theorem d_m_welfareOf_98 : decode (mz_c M_m_welfareOf) 98 = .ok (.aload_n 0, 1) := by decide +kernel
theorem d_m_welfareOf_99 : decode (mz_c M_m_welfareOf) 99 = .ok (.getfield 33, 3) := by decide +kernel
theorem d_m_welfareOf_102 : decode (mz_c M_m_welfareOf) 102 = .ok (.iload 5, 2) := by decide +kernel
theorem d_m_welfareOf_104 : decode (mz_c M_m_welfareOf) 104 = .ok (.iaload, 1) := by decide +kernel
theorem d_m_welfareOf_105 : decode (mz_c M_m_welfareOf) 105 = .ok (.i2l, 1) := by decide +kernel
theorem d_m_welfareOf_106 : decode (mz_c M_m_welfareOf) 106 = .ok (.lmul, 1) := by decide +kernel
theorem d_m_welfareOf_107 : decode (mz_c M_m_welfareOf) 107 = .ok (.aload_n 0, 1) := by decide +kernel
theorem d_m_welfareOf_108 : decode (mz_c M_m_welfareOf) 108 = .ok (.getfield 24, 3) := by decide +kernel
theorem d_m_welfareOf_111 : decode (mz_c M_m_welfareOf) 111 = .ok (.iload 5, 2) := by decide +kernel
theorem d_m_welfareOf_113 : decode (mz_c M_m_welfareOf) 113 = .ok (.iaload, 1) := by decide +kernel
theorem d_m_welfareOf_114 : decode (mz_c M_m_welfareOf) 114 = .ok (.iconst 4, 1) := by decide +kernel
theorem d_m_welfareOf_115 : decode (mz_c M_m_welfareOf) 115 = .ok (.irem, 1) := by decide +kernel
theorem d_m_welfareOf_116 : decode (mz_c M_m_welfareOf) 116 = .ok (.aload_n 0, 1) := by decide +kernel
theorem d_m_welfareOf_117 : decode (mz_c M_m_welfareOf) 117 = .ok (.getfield 24, 3) := by decide +kernel
theorem d_m_welfareOf_120 : decode (mz_c M_m_welfareOf) 120 = .ok (.iload 5, 2) := by decide +kernel
theorem d_m_welfareOf_122 : decode (mz_c M_m_welfareOf) 122 = .ok (.iaload, 1) := by decide +kernel
theorem d_m_welfareOf_123 : decode (mz_c M_m_welfareOf) 123 = .ok (.iconst 4, 1) := by decide +kernel
theorem d_m_welfareOf_124 : decode (mz_c M_m_welfareOf) 124 = .ok (.idiv, 1) := by decide +kernel
theorem d_m_welfareOf_125 : decode (mz_c M_m_welfareOf) 125 = .ok (.isub, 1) := by decide +kernel
theorem d_m_welfareOf_126 : decode (mz_c M_m_welfareOf) 126 = .ok (.iconst 1, 1) := by decide +kernel
theorem d_m_welfareOf_127 : decode (mz_c M_m_welfareOf) 127 = .ok (.iadd, 1) := by decide +kernel
theorem d_m_welfareOf_128 : decode (mz_c M_m_welfareOf) 128 = .ok (.i2l, 1) := by decide +kernel
theorem d_m_welfareOf_129 : decode (mz_c M_m_welfareOf) 129 = .ok (.lmul, 1) := by decide +kernel
theorem d_m_welfareOf_130 : decode (mz_c M_m_welfareOf) 130 = .ok (.lstore 6, 2) := by decide +kernel
theorem d_m_welfareOf_132 : decode (mz_c M_m_welfareOf) 132 = .ok (.lload_n 2, 1) := by decide +kernel
theorem d_m_welfareOf_133 : decode (mz_c M_m_welfareOf) 133 = .ok (.iload_n 1, 1) := by decide +kernel
theorem d_m_welfareOf_134 : decode (mz_c M_m_welfareOf) 134 = .ok (.iload 4, 2) := by decide +kernel
theorem d_m_welfareOf_136 : decode (mz_c M_m_welfareOf) 136 = .ok (.ishr, 1) := by decide +kernel
theorem d_m_welfareOf_137 : decode (mz_c M_m_welfareOf) 137 = .ok (.iconst 1, 1) := by decide +kernel
theorem d_m_welfareOf_138 : decode (mz_c M_m_welfareOf) 138 = .ok (.iand, 1) := by decide +kernel
theorem d_m_welfareOf_139 : decode (mz_c M_m_welfareOf) 139 = .ok (.ifCond .ne 7, 3) := by decide +kernel
theorem d_m_welfareOf_142 : decode (mz_c M_m_welfareOf) 142 = .ok (.lconst 0, 1) := by decide +kernel
theorem d_m_welfareOf_143 : decode (mz_c M_m_welfareOf) 143 = .ok (.goto 21, 3) := by decide +kernel
theorem d_m_welfareOf_146 : decode (mz_c M_m_welfareOf) 146 = .ok (.aload_n 0, 1) := by decide +kernel
theorem d_m_welfareOf_147 : decode (mz_c M_m_welfareOf) 147 = .ok (.getfield 27, 3) := by decide +kernel
theorem d_m_welfareOf_150 : decode (mz_c M_m_welfareOf) 150 = .ok (.iload 5, 2) := by decide +kernel
theorem d_m_welfareOf_152 : decode (mz_c M_m_welfareOf) 152 = .ok (.iaload, 1) := by decide +kernel
theorem d_m_welfareOf_153 : decode (mz_c M_m_welfareOf) 153 = .ok (.ifCond .ne 8, 3) := by decide +kernel
theorem d_m_welfareOf_156 : decode (mz_c M_m_welfareOf) 156 = .ok (.lload 6, 2) := by decide +kernel
theorem d_m_welfareOf_158 : decode (mz_c M_m_welfareOf) 158 = .ok (.goto 6, 3) := by decide +kernel
theorem d_m_welfareOf_161 : decode (mz_c M_m_welfareOf) 161 = .ok (.lload 6, 2) := by decide +kernel
theorem d_m_welfareOf_163 : decode (mz_c M_m_welfareOf) 163 = .ok (.lneg, 1) := by decide +kernel
theorem d_m_welfareOf_164 : decode (mz_c M_m_welfareOf) 164 = .ok (.ladd, 1) := by decide +kernel
theorem d_m_welfareOf_165 : decode (mz_c M_m_welfareOf) 165 = .ok (.lstore_n 2, 1) := by decide +kernel
theorem d_m_welfareOf_166 : decode (mz_c M_m_welfareOf) 166 = .ok (.iinc 4 1, 3) := by decide +kernel
theorem d_m_welfareOf_169 : decode (mz_c M_m_welfareOf) 169 = .ok (.goto (-97), 3) := by decide +kernel
theorem d_m_welfareOf_172 : decode (mz_c M_m_welfareOf) 172 = .ok (.lload_n 2, 1) := by decide +kernel
theorem d_m_welfareOf_173 : decode (mz_c M_m_welfareOf) 173 = .ok (.lreturn, 1) := by decide +kernel
theorem d_m_clear_0 : decode (mz_c M_m_clear) 0 = .ok (.iload_n 1, 1) := by decide +kernel
theorem d_m_clear_1 : decode (mz_c M_m_clear) 1 = .ok (.i2l, 1) := by decide +kernel
theorem d_m_clear_2 : decode (mz_c M_m_clear) 2 = .ok (.lconst 0, 1) := by decide +kernel
theorem d_m_clear_3 : decode (mz_c M_m_clear) 3 = .ok (.ldc2_w 125, 3) := by decide +kernel
theorem d_m_clear_6 : decode (mz_c M_m_clear) 6 = .ok (.invokestatic 106, 3) := by decide +kernel
theorem d_m_clear_9 : decode (mz_c M_m_clear) 9 = .ok (.ifCond .ne 7, 3) := by decide +kernel
theorem d_m_clear_12 : decode (mz_c M_m_clear) 12 = .ok (.iconst 1, 1) := by decide +kernel
theorem d_m_clear_13 : decode (mz_c M_m_clear) 13 = .ok (.goto 4, 3) := by decide +kernel
theorem d_m_clear_16 : decode (mz_c M_m_clear) 16 = .ok (.iconst 0, 1) := by decide +kernel
theorem d_m_clear_17 : decode (mz_c M_m_clear) 17 = .ok (.istore_n 2, 1) := by decide +kernel
theorem d_m_clear_18 : decode (mz_c M_m_clear) 18 = .ok (.aload_n 0, 1) := by decide +kernel
theorem d_m_clear_19 : decode (mz_c M_m_clear) 19 = .ok (.iload_n 2, 1) := by decide +kernel
theorem d_m_clear_20 : decode (mz_c M_m_clear) 20 = .ok (.iload_n 2, 1) := by decide +kernel
theorem d_m_clear_21 : decode (mz_c M_m_clear) 21 = .ok (.ifCond .ne 15, 3) := by decide +kernel
theorem d_m_clear_24 : decode (mz_c M_m_clear) 24 = .ok (.aload_n 0, 1) := by decide +kernel
theorem d_m_clear_25 : decode (mz_c M_m_clear) 25 = .ok (.getfield 110, 3) := by decide +kernel
theorem d_m_clear_28 : decode (mz_c M_m_clear) 28 = .ok (.iconst 3, 1) := by decide +kernel
theorem d_m_clear_29 : decode (mz_c M_m_clear) 29 = .ok (.if_icmp .ge 7, 3) := by decide +kernel
theorem d_m_clear_32 : decode (mz_c M_m_clear) 32 = .ok (.iconst 1, 1) := by decide +kernel
theorem d_m_clear_33 : decode (mz_c M_m_clear) 33 = .ok (.goto 4, 3) := by decide +kernel
theorem d_m_clear_36 : decode (mz_c M_m_clear) 36 = .ok (.iconst 0, 1) := by decide +kernel
theorem d_m_clear_37 : decode (mz_c M_m_clear) 37 = .ok (.invokevirtual 119, 3) := by decide +kernel
theorem d_m_clear_40 : decode (mz_c M_m_clear) 40 = .ok (.ifCond .eq 5, 3) := by decide +kernel
theorem d_m_clear_43 : decode (mz_c M_m_clear) 43 = .ok (.iconst 0, 1) := by decide +kernel
theorem d_m_clear_44 : decode (mz_c M_m_clear) 44 = .ok (.ireturn, 1) := by decide +kernel
theorem d_m_clear_45 : decode (mz_c M_m_clear) 45 = .ok (.aload_n 0, 1) := by decide +kernel
theorem d_m_clear_46 : decode (mz_c M_m_clear) 46 = .ok (.iload_n 1, 1) := by decide +kernel
theorem d_m_clear_47 : decode (mz_c M_m_clear) 47 = .ok (.invokevirtual 200, 3) := by decide +kernel
theorem d_m_clear_50 : decode (mz_c M_m_clear) 50 = .ok (.iconst (-1), 1) := by decide +kernel
theorem d_m_clear_51 : decode (mz_c M_m_clear) 51 = .ok (.istore_n 3, 1) := by decide +kernel
theorem d_m_clear_52 : decode (mz_c M_m_clear) 52 = .ok (.lconst 0, 1) := by decide +kernel
theorem d_m_clear_53 : decode (mz_c M_m_clear) 53 = .ok (.lstore 4, 2) := by decide +kernel
theorem d_m_clear_55 : decode (mz_c M_m_clear) 55 = .ok (.iconst 0, 1) := by decide +kernel
theorem d_m_clear_56 : decode (mz_c M_m_clear) 56 = .ok (.istore 6, 2) := by decide +kernel
theorem d_m_clear_58 : decode (mz_c M_m_clear) 58 = .ok (.iload 6, 2) := by decide +kernel
theorem d_m_clear_60 : decode (mz_c M_m_clear) 60 = .ok (.iconst 1, 1) := by decide +kernel
theorem d_m_clear_61 : decode (mz_c M_m_clear) 61 = .ok (.aload_n 0, 1) := by decide +kernel
theorem d_m_clear_62 : decode (mz_c M_m_clear) 62 = .ok (.getfield 175, 3) := by decide +kernel
theorem d_m_clear_65 : decode (mz_c M_m_clear) 65 = .ok (.ishl, 1) := by decide +kernel
theorem d_m_clear_66 : decode (mz_c M_m_clear) 66 = .ok (.if_icmp .ge 45, 3) := by decide +kernel
theorem d_m_clear_69 : decode (mz_c M_m_clear) 69 = .ok (.aload_n 0, 1) := by decide +kernel
theorem d_m_clear_70 : decode (mz_c M_m_clear) 70 = .ok (.iload 6, 2) := by decide +kernel
theorem d_m_clear_72 : decode (mz_c M_m_clear) 72 = .ok (.invokevirtual 204, 3) := by decide +kernel
theorem d_m_clear_75 : decode (mz_c M_m_clear) 75 = .ok (.ifCond .eq 30, 3) := by decide +kernel
theorem d_m_clear_78 : decode (mz_c M_m_clear) 78 = .ok (.aload_n 0, 1) := by decide +kernel
theorem d_m_clear_79 : decode (mz_c M_m_clear) 79 = .ok (.iload 6, 2) := by decide +kernel
theorem d_m_clear_81 : decode (mz_c M_m_clear) 81 = .ok (.invokevirtual 207, 3) := by decide +kernel
theorem d_m_clear_84 : decode (mz_c M_m_clear) 84 = .ok (.lstore 7, 2) := by decide +kernel
theorem d_m_clear_86 : decode (mz_c M_m_clear) 86 = .ok (.iload_n 3, 1) := by decide +kernel
theorem d_m_clear_87 : decode (mz_c M_m_clear) 87 = .ok (.ifCond .lt 11, 3) := by decide +kernel
theorem d_m_clear_90 : decode (mz_c M_m_clear) 90 = .ok (.lload 7, 2) := by decide +kernel
theorem d_m_clear_92 : decode (mz_c M_m_clear) 92 = .ok (.lload 4, 2) := by decide +kernel
theorem d_m_clear_94 : decode (mz_c M_m_clear) 94 = .ok (.lcmp, 1) := by decide +kernel
theorem d_m_clear_95 : decode (mz_c M_m_clear) 95 = .ok (.ifCond .le 10, 3) := by decide +kernel
theorem d_m_clear_98 : decode (mz_c M_m_clear) 98 = .ok (.iload 6, 2) := by decide +kernel
theorem d_m_clear_100 : decode (mz_c M_m_clear) 100 = .ok (.istore_n 3, 1) := by decide +kernel
theorem d_m_clear_101 : decode (mz_c M_m_clear) 101 = .ok (.lload 7, 2) := by decide +kernel
theorem d_m_clear_103 : decode (mz_c M_m_clear) 103 = .ok (.lstore 4, 2) := by decide +kernel
theorem d_m_clear_105 : decode (mz_c M_m_clear) 105 = .ok (.iinc 6 1, 3) := by decide +kernel
theorem d_m_clear_108 : decode (mz_c M_m_clear) 108 = .ok (.goto (-50), 3) := by decide +kernel
theorem d_m_clear_111 : decode (mz_c M_m_clear) 111 = .ok (.aload_n 0, 1) := by decide +kernel
theorem d_m_clear_112 : decode (mz_c M_m_clear) 112 = .ok (.iload_n 3, 1) := by decide +kernel
theorem d_m_clear_113 : decode (mz_c M_m_clear) 113 = .ok (.invokevirtual 204, 3) := by decide +kernel
theorem d_m_clear_116 : decode (mz_c M_m_clear) 116 = .ok (.pop, 1) := by decide +kernel
theorem d_m_clear_117 : decode (mz_c M_m_clear) 117 = .ok (.aload_n 0, 1) := by decide +kernel
theorem d_m_clear_118 : decode (mz_c M_m_clear) 118 = .ok (.getfield 58, 3) := by decide +kernel
theorem d_m_clear_121 : decode (mz_c M_m_clear) 121 = .ok (.iload_n 1, 1) := by decide +kernel
theorem d_m_clear_122 : decode (mz_c M_m_clear) 122 = .ok (.iconst 1, 1) := by decide +kernel
theorem d_m_clear_123 : decode (mz_c M_m_clear) 123 = .ok (.bastore, 1) := by decide +kernel
theorem d_m_clear_124 : decode (mz_c M_m_clear) 124 = .ok (.aload_n 0, 1) := by decide +kernel
theorem d_m_clear_125 : decode (mz_c M_m_clear) 125 = .ok (.getfield 70, 3) := by decide +kernel
theorem d_m_clear_128 : decode (mz_c M_m_clear) 128 = .ok (.iload_n 1, 1) := by decide +kernel
theorem d_m_clear_129 : decode (mz_c M_m_clear) 129 = .ok (.lload 4, 2) := by decide +kernel
theorem d_m_clear_131 : decode (mz_c M_m_clear) 131 = .ok (.lastore, 1) := by decide +kernel
theorem d_m_clear_132 : decode (mz_c M_m_clear) 132 = .ok (.iconst 0, 1) := by decide +kernel
theorem d_m_clear_133 : decode (mz_c M_m_clear) 133 = .ok (.istore 6, 2) := by decide +kernel
theorem d_m_clear_135 : decode (mz_c M_m_clear) 135 = .ok (.iload 6, 2) := by decide +kernel
theorem d_m_clear_137 : decode (mz_c M_m_clear) 137 = .ok (.iconst 3, 1) := by decide +kernel
theorem d_m_clear_138 : decode (mz_c M_m_clear) 138 = .ok (.if_icmp .ge 45, 3) := by decide +kernel
theorem d_m_clear_141 : decode (mz_c M_m_clear) 141 = .ok (.aload_n 0, 1) := by decide +kernel
theorem d_m_clear_142 : decode (mz_c M_m_clear) 142 = .ok (.getfield 61, 3) := by decide +kernel
theorem d_m_clear_145 : decode (mz_c M_m_clear) 145 = .ok (.iconst 3, 1) := by decide +kernel
theorem d_m_clear_146 : decode (mz_c M_m_clear) 146 = .ok (.iload_n 1, 1) := by decide +kernel
theorem d_m_clear_147 : decode (mz_c M_m_clear) 147 = .ok (.imul, 1) := by decide +kernel
theorem d_m_clear_148 : decode (mz_c M_m_clear) 148 = .ok (.iload 6, 2) := by decide +kernel
theorem d_m_clear_150 : decode (mz_c M_m_clear) 150 = .ok (.iadd, 1) := by decide +kernel
theorem d_m_clear_151 : decode (mz_c M_m_clear) 151 = .ok (.aload_n 0, 1) := by decide +kernel
theorem d_m_clear_152 : decode (mz_c M_m_clear) 152 = .ok (.getfield 85, 3) := by decide +kernel
theorem d_m_clear_155 : decode (mz_c M_m_clear) 155 = .ok (.iload 6, 2) := by decide +kernel
theorem d_m_clear_157 : decode (mz_c M_m_clear) 157 = .ok (.iaload, 1) := by decide +kernel
theorem d_m_clear_158 : decode (mz_c M_m_clear) 158 = .ok (.iastore, 1) := by decide +kernel
theorem d_m_clear_159 : decode (mz_c M_m_clear) 159 = .ok (.aload_n 0, 1) := by decide +kernel
theorem d_m_clear_160 : decode (mz_c M_m_clear) 160 = .ok (.getfield 64, 3) := by decide +kernel
theorem d_m_clear_163 : decode (mz_c M_m_clear) 163 = .ok (.iconst 3, 1) := by decide +kernel
theorem d_m_clear_164 : decode (mz_c M_m_clear) 164 = .ok (.iload_n 1, 1) := by decide +kernel
theorem d_m_clear_165 : decode (mz_c M_m_clear) 165 = .ok (.imul, 1) := by decide +kernel
theorem d_m_clear_166 : decode (mz_c M_m_clear) 166 = .ok (.iload 6, 2) := by decide +kernel
theorem d_m_clear_168 : decode (mz_c M_m_clear) 168 = .ok (.iadd, 1) := by decide +kernel
theorem d_m_clear_169 : decode (mz_c M_m_clear) 169 = .ok (.aload_n 0, 1) := by decide +kernel
theorem d_m_clear_170 : decode (mz_c M_m_clear) 170 = .ok (.getfield 88, 3) := by decide +kernel
theorem d_m_clear_173 : decode (mz_c M_m_clear) 173 = .ok (.iload 6, 2) := by decide +kernel
theorem d_m_clear_175 : decode (mz_c M_m_clear) 175 = .ok (.iaload, 1) := by decide +kernel
theorem d_m_clear_176 : decode (mz_c M_m_clear) 176 = .ok (.iastore, 1) := by decide +kernel
theorem d_m_clear_177 : decode (mz_c M_m_clear) 177 = .ok (.iinc 6 1, 3) := by decide +kernel
theorem d_m_clear_180 : decode (mz_c M_m_clear) 180 = .ok (.goto (-45), 3) := by decide +kernel
theorem d_m_clear_183 : decode (mz_c M_m_clear) 183 = .ok (.iconst 0, 1) := by decide +kernel
theorem d_m_clear_184 : decode (mz_c M_m_clear) 184 = .ok (.istore 6, 2) := by decide +kernel
theorem d_m_clear_186 : decode (mz_c M_m_clear) 186 = .ok (.iload 6, 2) := by decide +kernel
theorem d_m_clear_188 : decode (mz_c M_m_clear) 188 = .ok (.bipush 60, 2) := by decide +kernel
theorem d_m_clear_190 : decode (mz_c M_m_clear) 190 = .ok (.if_icmp .ge 22, 3) := by decide +kernel
theorem d_m_clear_193 : decode (mz_c M_m_clear) 193 = .ok (.aload_n 0, 1) := by decide +kernel
theorem d_m_clear_194 : decode (mz_c M_m_clear) 194 = .ok (.getfield 67, 3) := by decide +kernel
theorem d_m_clear_197 : decode (mz_c M_m_clear) 197 = .ok (.bipush 60, 2) := by decide +kernel
theorem d_m_clear_199 : decode (mz_c M_m_clear) 199 = .ok (.iload_n 1, 1) := by decide +kernel
theorem d_m_clear_200 : decode (mz_c M_m_clear) 200 = .ok (.imul, 1) := by decide +kernel
theorem d_m_clear_201 : decode (mz_c M_m_clear) 201 = .ok (.iload 6, 2) := by decide +kernel
theorem d_m_clear_203 : decode (mz_c M_m_clear) 203 = .ok (.iadd, 1) := by decide +kernel
theorem d_m_clear_204 : decode (mz_c M_m_clear) 204 = .ok (.iconst 0, 1) := by decide +kernel
theorem d_m_clear_205 : decode (mz_c M_m_clear) 205 = .ok (.iastore, 1) := by decide +kernel
theorem d_m_clear_206 : decode (mz_c M_m_clear) 206 = .ok (.iinc 6 1, 3) := by decide +kernel
theorem d_m_clear_209 : decode (mz_c M_m_clear) 209 = .ok (.goto (-23), 3) := by decide +kernel
theorem d_m_clear_212 : decode (mz_c M_m_clear) 212 = .ok (.iconst 0, 1) := by decide +kernel
theorem d_m_clear_213 : decode (mz_c M_m_clear) 213 = .ok (.istore 6, 2) := by decide +kernel
theorem d_m_clear_215 : decode (mz_c M_m_clear) 215 = .ok (.iload 6, 2) := by decide +kernel
theorem d_m_clear_217 : decode (mz_c M_m_clear) 217 = .ok (.aload_n 0, 1) := by decide +kernel
theorem d_m_clear_218 : decode (mz_c M_m_clear) 218 = .ok (.getfield 172, 3) := by decide +kernel
theorem d_m_clear_221 : decode (mz_c M_m_clear) 221 = .ok (.if_icmp .ge 28, 3) := by decide +kernel
theorem d_m_clear_224 : decode (mz_c M_m_clear) 224 = .ok (.aload_n 0, 1) := by decide +kernel
theorem d_m_clear_225 : decode (mz_c M_m_clear) 225 = .ok (.getfield 67, 3) := by decide +kernel
theorem d_m_clear_228 : decode (mz_c M_m_clear) 228 = .ok (.aload_n 0, 1) := by decide +kernel
theorem d_m_clear_229 : decode (mz_c M_m_clear) 229 = .ok (.getfield 76, 3) := by decide +kernel
theorem d_m_clear_232 : decode (mz_c M_m_clear) 232 = .ok (.iload 6, 2) := by decide +kernel
theorem d_m_clear_234 : decode (mz_c M_m_clear) 234 = .ok (.iaload, 1) := by decide +kernel
theorem d_m_clear_235 : decode (mz_c M_m_clear) 235 = .ok (.aload_n 0, 1) := by decide +kernel
theorem d_m_clear_236 : decode (mz_c M_m_clear) 236 = .ok (.getfield 91, 3) := by decide +kernel
theorem d_m_clear_239 : decode (mz_c M_m_clear) 239 = .ok (.iload 6, 2) := by decide +kernel
theorem d_m_clear_241 : decode (mz_c M_m_clear) 241 = .ok (.iaload, 1) := by decide +kernel
theorem d_m_clear_242 : decode (mz_c M_m_clear) 242 = .ok (.iastore, 1) := by decide +kernel
theorem d_m_clear_243 : decode (mz_c M_m_clear) 243 = .ok (.iinc 6 1, 3) := by decide +kernel
theorem d_m_clear_246 : decode (mz_c M_m_clear) 246 = .ok (.goto (-31), 3) := by decide +kernel
theorem d_m_clear_249 : decode (mz_c M_m_clear) 249 = .ok (.iconst 0, 1) := by decide +kernel
theorem d_m_clear_250 : decode (mz_c M_m_clear) 250 = .ok (.istore 6, 2) := by decide +kernel
theorem d_m_clear_252 : decode (mz_c M_m_clear) 252 = .ok (.iload 6, 2) := by decide +kernel
theorem d_m_clear_254 : decode (mz_c M_m_clear) 254 = .ok (.aload_n 0, 1) := by decide +kernel
theorem d_m_clear_255 : decode (mz_c M_m_clear) 255 = .ok (.getfield 175, 3) := by decide +kernel
theorem d_m_clear_258 : decode (mz_c M_m_clear) 258 = .ok (.if_icmp .ge 47, 3) := by decide +kernel
theorem d_m_clear_261 : decode (mz_c M_m_clear) 261 = .ok (.aload_n 0, 1) := by decide +kernel
theorem d_m_clear_262 : decode (mz_c M_m_clear) 262 = .ok (.getfield 67, 3) := by decide +kernel
theorem d_m_clear_265 : decode (mz_c M_m_clear) 265 = .ok (.aload_n 0, 1) := by decide +kernel
theorem d_m_clear_266 : decode (mz_c M_m_clear) 266 = .ok (.getfield 82, 3) := by decide +kernel
theorem d_m_clear_269 : decode (mz_c M_m_clear) 269 = .ok (.iload 6, 2) := by decide +kernel
theorem d_m_clear_271 : decode (mz_c M_m_clear) 271 = .ok (.iaload, 1) := by decide +kernel
theorem d_m_clear_272 : decode (mz_c M_m_clear) 272 = .ok (.iload_n 3, 1) := by decide +kernel
theorem d_m_clear_273 : decode (mz_c M_m_clear) 273 = .ok (.iload 6, 2) := by decide +kernel
theorem d_m_clear_275 : decode (mz_c M_m_clear) 275 = .ok (.ishr, 1) := by decide +kernel
theorem d_m_clear_276 : decode (mz_c M_m_clear) 276 = .ok (.iconst 1, 1) := by decide +kernel
theorem d_m_clear_277 : decode (mz_c M_m_clear) 277 = .ok (.iand, 1) := by decide +kernel
theorem d_m_clear_278 : decode (mz_c M_m_clear) 278 = .ok (.iconst 1, 1) := by decide +kernel
theorem d_m_clear_279 : decode (mz_c M_m_clear) 279 = .ok (.if_icmp .ne 18, 3) := by decide +kernel
theorem d_m_clear_282 : decode (mz_c M_m_clear) 282 = .ok (.aload_n 0, 1) := by decide +kernel
theorem d_m_clear_283 : decode (mz_c M_m_clear) 283 = .ok (.getfield 30, 3) := by decide +kernel
theorem d_m_clear_286 : decode (mz_c M_m_clear) 286 = .ok (.aload_n 0, 1) := by decide +kernel
theorem d_m_clear_287 : decode (mz_c M_m_clear) 287 = .ok (.getfield 79, 3) := by decide +kernel
theorem d_m_clear_290 : decode (mz_c M_m_clear) 290 = .ok (.iload 6, 2) := by decide +kernel
theorem d_m_clear_292 : decode (mz_c M_m_clear) 292 = .ok (.iaload, 1) := by decide +kernel
theorem d_m_clear_293 : decode (mz_c M_m_clear) 293 = .ok (.iaload, 1) := by decide +kernel
theorem d_m_clear_294 : decode (mz_c M_m_clear) 294 = .ok (.goto 4, 3) := by decide +kernel
theorem d_m_clear_297 : decode (mz_c M_m_clear) 297 = .ok (.iconst 0, 1) := by decide +kernel
theorem d_m_clear_298 : decode (mz_c M_m_clear) 298 = .ok (.iastore, 1) := by decide +kernel
theorem d_m_clear_299 : decode (mz_c M_m_clear) 299 = .ok (.iinc 6 1, 3) := by decide +kernel
theorem d_m_clear_302 : decode (mz_c M_m_clear) 302 = .ok (.goto (-50), 3) := by decide +kernel
theorem d_m_clear_305 : decode (mz_c M_m_clear) 305 = .ok (.iload_n 3, 1) := by decide +kernel
theorem d_m_clear_306 : decode (mz_c M_m_clear) 306 = .ok (.ireturn, 1) := by decide +kernel
theorem d_m_isUncleared_0 : decode (mz_c M_m_isUncleared) 0 = .ok (.aload_n 0, 1) := by decide +kernel
theorem d_m_isUncleared_1 : decode (mz_c M_m_isUncleared) 1 = .ok (.iload_n 1, 1) := by decide +kernel
theorem d_m_isUncleared_2 : decode (mz_c M_m_isUncleared) 2 = .ok (.iload_n 1, 1) := by decide +kernel
theorem d_m_isUncleared_3 : decode (mz_c M_m_isUncleared) 3 = .ok (.ifCond .ne 16, 3) := by decide +kernel
theorem d_m_isUncleared_6 : decode (mz_c M_m_isUncleared) 6 = .ok (.aload_n 0, 1) := by decide +kernel
theorem d_m_isUncleared_7 : decode (mz_c M_m_isUncleared) 7 = .ok (.getfield 58, 3) := by decide +kernel
theorem d_m_isUncleared_10 : decode (mz_c M_m_isUncleared) 10 = .ok (.iload_n 2, 1) := by decide +kernel
theorem d_m_isUncleared_11 : decode (mz_c M_m_isUncleared) 11 = .ok (.baload, 1) := by decide +kernel
theorem d_m_isUncleared_12 : decode (mz_c M_m_isUncleared) 12 = .ok (.ifCond .ne 7, 3) := by decide +kernel
theorem d_m_isUncleared_15 : decode (mz_c M_m_isUncleared) 15 = .ok (.iconst 1, 1) := by decide +kernel
theorem d_m_isUncleared_16 : decode (mz_c M_m_isUncleared) 16 = .ok (.goto 4, 3) := by decide +kernel
theorem d_m_isUncleared_19 : decode (mz_c M_m_isUncleared) 19 = .ok (.iconst 0, 1) := by decide +kernel
theorem d_m_isUncleared_20 : decode (mz_c M_m_isUncleared) 20 = .ok (.invokevirtual 119, 3) := by decide +kernel
theorem d_m_isUncleared_23 : decode (mz_c M_m_isUncleared) 23 = .ok (.ireturn, 1) := by decide +kernel
theorem d_m_price_0 : decode (mz_c M_m_price) 0 = .ok (.aload_n 0, 1) := by decide +kernel
theorem d_m_price_1 : decode (mz_c M_m_price) 1 = .ok (.iload_n 1, 1) := by decide +kernel
theorem d_m_price_2 : decode (mz_c M_m_price) 2 = .ok (.i2l, 1) := by decide +kernel
theorem d_m_price_3 : decode (mz_c M_m_price) 3 = .ok (.lconst 0, 1) := by decide +kernel
theorem d_m_price_4 : decode (mz_c M_m_price) 4 = .ok (.ldc2_w 125, 3) := by decide +kernel
theorem d_m_price_7 : decode (mz_c M_m_price) 7 = .ok (.invokestatic 106, 3) := by decide +kernel
theorem d_m_price_10 : decode (mz_c M_m_price) 10 = .ok (.ifCond .eq 15, 3) := by decide +kernel
theorem d_m_price_13 : decode (mz_c M_m_price) 13 = .ok (.iload_n 2, 1) := by decide +kernel
theorem d_m_price_14 : decode (mz_c M_m_price) 14 = .ok (.i2l, 1) := by decide +kernel
theorem d_m_price_15 : decode (mz_c M_m_price) 15 = .ok (.lconst 0, 1) := by decide +kernel
theorem d_m_price_16 : decode (mz_c M_m_price) 16 = .ok (.ldc2_w 137, 3) := by decide +kernel
theorem d_m_price_19 : decode (mz_c M_m_price) 19 = .ok (.invokestatic 106, 3) := by decide +kernel
theorem d_m_price_22 : decode (mz_c M_m_price) 22 = .ok (.ifCond .ne 7, 3) := by decide +kernel
theorem d_m_price_25 : decode (mz_c M_m_price) 25 = .ok (.iconst 1, 1) := by decide +kernel
theorem d_m_price_26 : decode (mz_c M_m_price) 26 = .ok (.goto 4, 3) := by decide +kernel
theorem d_m_price_29 : decode (mz_c M_m_price) 29 = .ok (.iconst 0, 1) := by decide +kernel
theorem d_m_price_30 : decode (mz_c M_m_price) 30 = .ok (.iload_n 1, 1) := by decide +kernel
theorem d_m_price_31 : decode (mz_c M_m_price) 31 = .ok (.invokevirtual 211, 3) := by decide +kernel
theorem d_m_price_34 : decode (mz_c M_m_price) 34 = .ok (.ifCond .eq 5, 3) := by decide +kernel
theorem d_m_price_37 : decode (mz_c M_m_price) 37 = .ok (.iconst 0, 1) := by decide +kernel
theorem d_m_price_38 : decode (mz_c M_m_price) 38 = .ok (.ireturn, 1) := by decide +kernel
theorem d_m_price_39 : decode (mz_c M_m_price) 39 = .ok (.aload_n 0, 1) := by decide +kernel
theorem d_m_price_40 : decode (mz_c M_m_price) 40 = .ok (.getfield 61, 3) := by decide +kernel
theorem d_m_price_43 : decode (mz_c M_m_price) 43 = .ok (.iconst 3, 1) := by decide +kernel
theorem d_m_price_44 : decode (mz_c M_m_price) 44 = .ok (.iload_n 1, 1) := by decide +kernel
theorem d_m_price_45 : decode (mz_c M_m_price) 45 = .ok (.imul, 1) := by decide +kernel
theorem d_m_price_46 : decode (mz_c M_m_price) 46 = .ok (.iload_n 2, 1) := by decide +kernel
theorem d_m_price_47 : decode (mz_c M_m_price) 47 = .ok (.iadd, 1) := by decide +kernel
theorem d_m_price_48 : decode (mz_c M_m_price) 48 = .ok (.iaload, 1) := by decide +kernel
theorem d_m_price_49 : decode (mz_c M_m_price) 49 = .ok (.ireturn, 1) := by decide +kernel
theorem d_m_traded_0 : decode (mz_c M_m_traded) 0 = .ok (.aload_n 0, 1) := by decide +kernel
theorem d_m_traded_1 : decode (mz_c M_m_traded) 1 = .ok (.iload_n 1, 1) := by decide +kernel
theorem d_m_traded_2 : decode (mz_c M_m_traded) 2 = .ok (.i2l, 1) := by decide +kernel
theorem d_m_traded_3 : decode (mz_c M_m_traded) 3 = .ok (.lconst 0, 1) := by decide +kernel
theorem d_m_traded_4 : decode (mz_c M_m_traded) 4 = .ok (.ldc2_w 125, 3) := by decide +kernel
theorem d_m_traded_7 : decode (mz_c M_m_traded) 7 = .ok (.invokestatic 106, 3) := by decide +kernel
theorem d_m_traded_10 : decode (mz_c M_m_traded) 10 = .ok (.ifCond .eq 15, 3) := by decide +kernel
theorem d_m_traded_13 : decode (mz_c M_m_traded) 13 = .ok (.iload_n 2, 1) := by decide +kernel
theorem d_m_traded_14 : decode (mz_c M_m_traded) 14 = .ok (.i2l, 1) := by decide +kernel
theorem d_m_traded_15 : decode (mz_c M_m_traded) 15 = .ok (.lconst 0, 1) := by decide +kernel
theorem d_m_traded_16 : decode (mz_c M_m_traded) 16 = .ok (.ldc2_w 137, 3) := by decide +kernel
theorem d_m_traded_19 : decode (mz_c M_m_traded) 19 = .ok (.invokestatic 106, 3) := by decide +kernel
theorem d_m_traded_22 : decode (mz_c M_m_traded) 22 = .ok (.ifCond .ne 7, 3) := by decide +kernel
theorem d_m_traded_25 : decode (mz_c M_m_traded) 25 = .ok (.iconst 1, 1) := by decide +kernel
theorem d_m_traded_26 : decode (mz_c M_m_traded) 26 = .ok (.goto 4, 3) := by decide +kernel
theorem d_m_traded_29 : decode (mz_c M_m_traded) 29 = .ok (.iconst 0, 1) := by decide +kernel
theorem d_m_traded_30 : decode (mz_c M_m_traded) 30 = .ok (.iload_n 1, 1) := by decide +kernel
theorem d_m_traded_31 : decode (mz_c M_m_traded) 31 = .ok (.invokevirtual 211, 3) := by decide +kernel
theorem d_m_traded_34 : decode (mz_c M_m_traded) 34 = .ok (.ifCond .eq 5, 3) := by decide +kernel
theorem d_m_traded_37 : decode (mz_c M_m_traded) 37 = .ok (.iconst 0, 1) := by decide +kernel
theorem d_m_traded_38 : decode (mz_c M_m_traded) 38 = .ok (.ireturn, 1) := by decide +kernel
theorem d_m_traded_39 : decode (mz_c M_m_traded) 39 = .ok (.aload_n 0, 1) := by decide +kernel
theorem d_m_traded_40 : decode (mz_c M_m_traded) 40 = .ok (.getfield 64, 3) := by decide +kernel
theorem d_m_traded_43 : decode (mz_c M_m_traded) 43 = .ok (.iconst 3, 1) := by decide +kernel
theorem d_m_traded_44 : decode (mz_c M_m_traded) 44 = .ok (.iload_n 1, 1) := by decide +kernel
theorem d_m_traded_45 : decode (mz_c M_m_traded) 45 = .ok (.imul, 1) := by decide +kernel
theorem d_m_traded_46 : decode (mz_c M_m_traded) 46 = .ok (.iload_n 2, 1) := by decide +kernel
theorem d_m_traded_47 : decode (mz_c M_m_traded) 47 = .ok (.iadd, 1) := by decide +kernel
theorem d_m_traded_48 : decode (mz_c M_m_traded) 48 = .ok (.iaload, 1) := by decide +kernel
theorem d_m_traded_49 : decode (mz_c M_m_traded) 49 = .ok (.ireturn, 1) := by decide +kernel
theorem d_m_fill_0 : decode (mz_c M_m_fill) 0 = .ok (.aload_n 0, 1) := by decide +kernel
theorem d_m_fill_1 : decode (mz_c M_m_fill) 1 = .ok (.iload_n 1, 1) := by decide +kernel
theorem d_m_fill_2 : decode (mz_c M_m_fill) 2 = .ok (.i2l, 1) := by decide +kernel
theorem d_m_fill_3 : decode (mz_c M_m_fill) 3 = .ok (.lconst 0, 1) := by decide +kernel
theorem d_m_fill_4 : decode (mz_c M_m_fill) 4 = .ok (.ldc2_w 125, 3) := by decide +kernel
theorem d_m_fill_7 : decode (mz_c M_m_fill) 7 = .ok (.invokestatic 106, 3) := by decide +kernel
theorem d_m_fill_10 : decode (mz_c M_m_fill) 10 = .ok (.ifCond .eq 23, 3) := by decide +kernel
theorem d_m_fill_13 : decode (mz_c M_m_fill) 13 = .ok (.aload_n 0, 1) := by decide +kernel
theorem d_m_fill_14 : decode (mz_c M_m_fill) 14 = .ok (.iload_n 2, 1) := by decide +kernel
theorem d_m_fill_15 : decode (mz_c M_m_fill) 15 = .ok (.invokevirtual 113, 3) := by decide +kernel
theorem d_m_fill_18 : decode (mz_c M_m_fill) 18 = .ok (.ifCond .eq 15, 3) := by decide +kernel
theorem d_m_fill_21 : decode (mz_c M_m_fill) 21 = .ok (.iload_n 3, 1) := by decide +kernel
theorem d_m_fill_22 : decode (mz_c M_m_fill) 22 = .ok (.i2l, 1) := by decide +kernel
theorem d_m_fill_23 : decode (mz_c M_m_fill) 23 = .ok (.lconst 0, 1) := by decide +kernel
theorem d_m_fill_24 : decode (mz_c M_m_fill) 24 = .ok (.ldc2_w 215, 3) := by decide +kernel
theorem d_m_fill_27 : decode (mz_c M_m_fill) 27 = .ok (.invokestatic 106, 3) := by decide +kernel
theorem d_m_fill_30 : decode (mz_c M_m_fill) 30 = .ok (.ifCond .ne 7, 3) := by decide +kernel
theorem d_m_fill_33 : decode (mz_c M_m_fill) 33 = .ok (.iconst 1, 1) := by decide +kernel
theorem d_m_fill_34 : decode (mz_c M_m_fill) 34 = .ok (.goto 4, 3) := by decide +kernel
theorem d_m_fill_37 : decode (mz_c M_m_fill) 37 = .ok (.iconst 0, 1) := by decide +kernel
theorem d_m_fill_38 : decode (mz_c M_m_fill) 38 = .ok (.iload_n 1, 1) := by decide +kernel
theorem d_m_fill_39 : decode (mz_c M_m_fill) 39 = .ok (.invokevirtual 211, 3) := by decide +kernel
theorem d_m_fill_42 : decode (mz_c M_m_fill) 42 = .ok (.ifCond .eq 5, 3) := by decide +kernel
theorem d_m_fill_45 : decode (mz_c M_m_fill) 45 = .ok (.iconst 0, 1) := by decide +kernel
theorem d_m_fill_46 : decode (mz_c M_m_fill) 46 = .ok (.ireturn, 1) := by decide +kernel
theorem d_m_fill_47 : decode (mz_c M_m_fill) 47 = .ok (.aload_n 0, 1) := by decide +kernel
theorem d_m_fill_48 : decode (mz_c M_m_fill) 48 = .ok (.iload_n 3, 1) := by decide +kernel
theorem d_m_fill_49 : decode (mz_c M_m_fill) 49 = .ok (.aload_n 0, 1) := by decide +kernel
theorem d_m_fill_50 : decode (mz_c M_m_fill) 50 = .ok (.aload_n 0, 1) := by decide +kernel
theorem d_m_fill_51 : decode (mz_c M_m_fill) 51 = .ok (.getfield 52, 3) := by decide +kernel
theorem d_m_fill_54 : decode (mz_c M_m_fill) 54 = .ok (.bipush 6, 2) := by decide +kernel
theorem d_m_fill_56 : decode (mz_c M_m_fill) 56 = .ok (.iload_n 1, 1) := by decide +kernel
theorem d_m_fill_57 : decode (mz_c M_m_fill) 57 = .ok (.imul, 1) := by decide +kernel
theorem d_m_fill_58 : decode (mz_c M_m_fill) 58 = .ok (.iload_n 2, 1) := by decide +kernel
theorem d_m_fill_59 : decode (mz_c M_m_fill) 59 = .ok (.iadd, 1) := by decide +kernel
theorem d_m_fill_60 : decode (mz_c M_m_fill) 60 = .ok (.iaload, 1) := by decide +kernel
theorem d_m_fill_61 : decode (mz_c M_m_fill) 61 = .ok (.invokevirtual 151, 3) := by decide +kernel
theorem d_m_fill_64 : decode (mz_c M_m_fill) 64 = .ok (.if_icmp .lt 7, 3) := by decide +kernel
theorem d_m_fill_67 : decode (mz_c M_m_fill) 67 = .ok (.iconst 1, 1) := by decide +kernel
theorem d_m_fill_68 : decode (mz_c M_m_fill) 68 = .ok (.goto 4, 3) := by decide +kernel
theorem d_m_fill_71 : decode (mz_c M_m_fill) 71 = .ok (.iconst 0, 1) := by decide +kernel
theorem d_m_fill_72 : decode (mz_c M_m_fill) 72 = .ok (.iconst 0, 1) := by decide +kernel
theorem d_m_fill_73 : decode (mz_c M_m_fill) 73 = .ok (.invokevirtual 119, 3) := by decide +kernel
theorem d_m_fill_76 : decode (mz_c M_m_fill) 76 = .ok (.ifCond .eq 5, 3) := by decide +kernel
theorem d_m_fill_79 : decode (mz_c M_m_fill) 79 = .ok (.iconst 0, 1) := by decide +kernel
theorem d_m_fill_80 : decode (mz_c M_m_fill) 80 = .ok (.ireturn, 1) := by decide +kernel
theorem d_m_fill_81 : decode (mz_c M_m_fill) 81 = .ok (.aload_n 0, 1) := by decide +kernel
theorem d_m_fill_82 : decode (mz_c M_m_fill) 82 = .ok (.getfield 67, 3) := by decide +kernel
theorem d_m_fill_85 : decode (mz_c M_m_fill) 85 = .ok (.bipush 60, 2) := by decide +kernel
theorem d_m_fill_87 : decode (mz_c M_m_fill) 87 = .ok (.iload_n 1, 1) := by decide +kernel
theorem d_m_fill_88 : decode (mz_c M_m_fill) 88 = .ok (.imul, 1) := by decide +kernel
theorem d_m_fill_89 : decode (mz_c M_m_fill) 89 = .ok (.bipush 10, 2) := by decide +kernel
theorem d_m_fill_91 : decode (mz_c M_m_fill) 91 = .ok (.iload_n 2, 1) := by decide +kernel
theorem d_m_fill_92 : decode (mz_c M_m_fill) 92 = .ok (.imul, 1) := by decide +kernel
theorem d_m_fill_93 : decode (mz_c M_m_fill) 93 = .ok (.iadd, 1) := by decide +kernel
theorem d_m_fill_94 : decode (mz_c M_m_fill) 94 = .ok (.iload_n 3, 1) := by decide +kernel
theorem d_m_fill_95 : decode (mz_c M_m_fill) 95 = .ok (.iadd, 1) := by decide +kernel
theorem d_m_fill_96 : decode (mz_c M_m_fill) 96 = .ok (.iaload, 1) := by decide +kernel
theorem d_m_fill_97 : decode (mz_c M_m_fill) 97 = .ok (.ireturn, 1) := by decide +kernel
theorem d_m_welfare_0 : decode (mz_c M_m_welfare) 0 = .ok (.aload_n 0, 1) := by decide +kernel
theorem d_m_welfare_1 : decode (mz_c M_m_welfare) 1 = .ok (.iload_n 1, 1) := by decide +kernel
theorem d_m_welfare_2 : decode (mz_c M_m_welfare) 2 = .ok (.i2l, 1) := by decide +kernel
theorem d_m_welfare_3 : decode (mz_c M_m_welfare) 3 = .ok (.lconst 0, 1) := by decide +kernel
theorem d_m_welfare_4 : decode (mz_c M_m_welfare) 4 = .ok (.ldc2_w 125, 3) := by decide +kernel
theorem d_m_welfare_7 : decode (mz_c M_m_welfare) 7 = .ok (.invokestatic 106, 3) := by decide +kernel
theorem d_m_welfare_10 : decode (mz_c M_m_welfare) 10 = .ok (.ifCond .ne 7, 3) := by decide +kernel
theorem d_m_welfare_13 : decode (mz_c M_m_welfare) 13 = .ok (.iconst 1, 1) := by decide +kernel
theorem d_m_welfare_14 : decode (mz_c M_m_welfare) 14 = .ok (.goto 4, 3) := by decide +kernel
theorem d_m_welfare_17 : decode (mz_c M_m_welfare) 17 = .ok (.iconst 0, 1) := by decide +kernel
theorem d_m_welfare_18 : decode (mz_c M_m_welfare) 18 = .ok (.iload_n 1, 1) := by decide +kernel
theorem d_m_welfare_19 : decode (mz_c M_m_welfare) 19 = .ok (.invokevirtual 211, 3) := by decide +kernel
theorem d_m_welfare_22 : decode (mz_c M_m_welfare) 22 = .ok (.ifCond .eq 5, 3) := by decide +kernel
theorem d_m_welfare_25 : decode (mz_c M_m_welfare) 25 = .ok (.lconst 0, 1) := by decide +kernel
theorem d_m_welfare_26 : decode (mz_c M_m_welfare) 26 = .ok (.lreturn, 1) := by decide +kernel
theorem d_m_welfare_27 : decode (mz_c M_m_welfare) 27 = .ok (.aload_n 0, 1) := by decide +kernel
theorem d_m_welfare_28 : decode (mz_c M_m_welfare) 28 = .ok (.getfield 70, 3) := by decide +kernel
theorem d_m_welfare_31 : decode (mz_c M_m_welfare) 31 = .ok (.iload_n 1, 1) := by decide +kernel
theorem d_m_welfare_32 : decode (mz_c M_m_welfare) 32 = .ok (.laload, 1) := by decide +kernel
theorem d_m_welfare_33 : decode (mz_c M_m_welfare) 33 = .ok (.lreturn, 1) := by decide +kernel
theorem d_m_meter_0 : decode (mz_c M_m_meter) 0 = .ok (.aload_n 0, 1) := by decide +kernel
theorem d_m_meter_1 : decode (mz_c M_m_meter) 1 = .ok (.aload_n 0, 1) := by decide +kernel
theorem d_m_meter_2 : decode (mz_c M_m_meter) 2 = .ok (.iload_n 1, 1) := by decide +kernel
theorem d_m_meter_3 : decode (mz_c M_m_meter) 3 = .ok (.invokevirtual 113, 3) := by decide +kernel
theorem d_m_meter_6 : decode (mz_c M_m_meter) 6 = .ok (.ifCond .eq 29, 3) := by decide +kernel
theorem d_m_meter_9 : decode (mz_c M_m_meter) 9 = .ok (.iload_n 2, 1) := by decide +kernel
theorem d_m_meter_10 : decode (mz_c M_m_meter) 10 = .ok (.i2l, 1) := by decide +kernel
theorem d_m_meter_11 : decode (mz_c M_m_meter) 11 = .ok (.lconst 0, 1) := by decide +kernel
theorem d_m_meter_12 : decode (mz_c M_m_meter) 12 = .ok (.ldc2_w 137, 3) := by decide +kernel
theorem d_m_meter_15 : decode (mz_c M_m_meter) 15 = .ok (.invokestatic 106, 3) := by decide +kernel
theorem d_m_meter_18 : decode (mz_c M_m_meter) 18 = .ok (.ifCond .eq 17, 3) := by decide +kernel
theorem d_m_meter_21 : decode (mz_c M_m_meter) 21 = .ok (.iload_n 3, 1) := by decide +kernel
theorem d_m_meter_22 : decode (mz_c M_m_meter) 22 = .ok (.i2l, 1) := by decide +kernel
theorem d_m_meter_23 : decode (mz_c M_m_meter) 23 = .ok (.ldc2_w 217, 3) := by decide +kernel
theorem d_m_meter_26 : decode (mz_c M_m_meter) 26 = .ok (.ldc2_w 219, 3) := by decide +kernel
theorem d_m_meter_29 : decode (mz_c M_m_meter) 29 = .ok (.invokestatic 106, 3) := by decide +kernel
theorem d_m_meter_32 : decode (mz_c M_m_meter) 32 = .ok (.ifCond .ne 7, 3) := by decide +kernel
theorem d_m_meter_35 : decode (mz_c M_m_meter) 35 = .ok (.iconst 1, 1) := by decide +kernel
theorem d_m_meter_36 : decode (mz_c M_m_meter) 36 = .ok (.goto 4, 3) := by decide +kernel
theorem d_m_meter_39 : decode (mz_c M_m_meter) 39 = .ok (.iconst 0, 1) := by decide +kernel
theorem d_m_meter_40 : decode (mz_c M_m_meter) 40 = .ok (.iconst 0, 1) := by decide +kernel
theorem d_m_meter_41 : decode (mz_c M_m_meter) 41 = .ok (.invokevirtual 119, 3) := by decide +kernel
theorem d_m_meter_44 : decode (mz_c M_m_meter) 44 = .ok (.ifCond .eq 4, 3) := by decide +kernel
theorem d_m_meter_47 : decode (mz_c M_m_meter) 47 = .ok (.return_, 1) := by decide +kernel
theorem d_m_meter_48 : decode (mz_c M_m_meter) 48 = .ok (.aload_n 0, 1) := by decide +kernel
theorem d_m_meter_49 : decode (mz_c M_m_meter) 49 = .ok (.getfield 55, 3) := by decide +kernel
theorem d_m_meter_52 : decode (mz_c M_m_meter) 52 = .ok (.iconst 3, 1) := by decide +kernel
theorem d_m_meter_53 : decode (mz_c M_m_meter) 53 = .ok (.iload_n 1, 1) := by decide +kernel
theorem d_m_meter_54 : decode (mz_c M_m_meter) 54 = .ok (.imul, 1) := by decide +kernel
theorem d_m_meter_55 : decode (mz_c M_m_meter) 55 = .ok (.iload_n 2, 1) := by decide +kernel
theorem d_m_meter_56 : decode (mz_c M_m_meter) 56 = .ok (.iadd, 1) := by decide +kernel
theorem d_m_meter_57 : decode (mz_c M_m_meter) 57 = .ok (.iload_n 3, 1) := by decide +kernel
theorem d_m_meter_58 : decode (mz_c M_m_meter) 58 = .ok (.iastore, 1) := by decide +kernel
theorem d_m_meter_59 : decode (mz_c M_m_meter) 59 = .ok (.return_, 1) := by decide +kernel
theorem d_m_net_0 : decode (mz_c M_m_net) 0 = .ok (.aload_n 0, 1) := by decide +kernel
theorem d_m_net_1 : decode (mz_c M_m_net) 1 = .ok (.getfield 52, 3) := by decide +kernel
theorem d_m_net_4 : decode (mz_c M_m_net) 4 = .ok (.bipush 6, 2) := by decide +kernel
theorem d_m_net_6 : decode (mz_c M_m_net) 6 = .ok (.iload_n 1, 1) := by decide +kernel
theorem d_m_net_7 : decode (mz_c M_m_net) 7 = .ok (.imul, 1) := by decide +kernel
theorem d_m_net_8 : decode (mz_c M_m_net) 8 = .ok (.iload_n 2, 1) := by decide +kernel
theorem d_m_net_9 : decode (mz_c M_m_net) 9 = .ok (.iadd, 1) := by decide +kernel
theorem d_m_net_10 : decode (mz_c M_m_net) 10 = .ok (.iaload, 1) := by decide +kernel
theorem d_m_net_11 : decode (mz_c M_m_net) 11 = .ok (.istore 4, 2) := by decide +kernel
theorem d_m_net_13 : decode (mz_c M_m_net) 13 = .ok (.lconst 0, 1) := by decide +kernel
theorem d_m_net_14 : decode (mz_c M_m_net) 14 = .ok (.lstore 5, 2) := by decide +kernel
theorem d_m_net_16 : decode (mz_c M_m_net) 16 = .ok (.iconst 0, 1) := by decide +kernel
theorem d_m_net_17 : decode (mz_c M_m_net) 17 = .ok (.istore 7, 2) := by decide +kernel
theorem d_m_net_19 : decode (mz_c M_m_net) 19 = .ok (.iload 7, 2) := by decide +kernel
theorem d_m_net_21 : decode (mz_c M_m_net) 21 = .ok (.aload_n 0, 1) := by decide +kernel
theorem d_m_net_22 : decode (mz_c M_m_net) 22 = .ok (.iload 4, 2) := by decide +kernel
theorem d_m_net_24 : decode (mz_c M_m_net) 24 = .ok (.invokevirtual 151, 3) := by decide +kernel
theorem d_m_net_27 : decode (mz_c M_m_net) 27 = .ok (.if_icmp .ge 115, 3) := by decide +kernel
theorem d_m_net_30 : decode (mz_c M_m_net) 30 = .ok (.bipush 10, 2) := by decide +kernel
theorem d_m_net_32 : decode (mz_c M_m_net) 32 = .ok (.iload 4, 2) := by decide +kernel
theorem d_m_net_34 : decode (mz_c M_m_net) 34 = .ok (.imul, 1) := by decide +kernel
theorem d_m_net_35 : decode (mz_c M_m_net) 35 = .ok (.iload 7, 2) := by decide +kernel
theorem d_m_net_37 : decode (mz_c M_m_net) 37 = .ok (.iadd, 1) := by decide +kernel
theorem d_m_net_38 : decode (mz_c M_m_net) 38 = .ok (.istore 8, 2) := by decide +kernel
theorem d_m_net_40 : decode (mz_c M_m_net) 40 = .ok (.aload_n 0, 1) := by decide +kernel
theorem d_m_net_41 : decode (mz_c M_m_net) 41 = .ok (.getfield 20, 3) := by decide +kernel
theorem d_m_net_44 : decode (mz_c M_m_net) 44 = .ok (.iload 8, 2) := by decide +kernel
theorem d_m_net_46 : decode (mz_c M_m_net) 46 = .ok (.baload, 1) := by decide +kernel
theorem d_m_net_47 : decode (mz_c M_m_net) 47 = .ok (.ifCond .eq 17, 3) := by decide +kernel
theorem d_m_net_50 : decode (mz_c M_m_net) 50 = .ok (.aload_n 0, 1) := by decide +kernel
theorem d_m_net_51 : decode (mz_c M_m_net) 51 = .ok (.getfield 24, 3) := by decide +kernel
theorem d_m_net_54 : decode (mz_c M_m_net) 54 = .ok (.iload 8, 2) := by decide +kernel
theorem d_m_net_56 : decode (mz_c M_m_net) 56 = .ok (.iaload, 1) := by decide +kernel
theorem d_m_net_57 : decode (mz_c M_m_net) 57 = .ok (.iload_n 3, 1) := by decide +kernel
theorem d_m_net_58 : decode (mz_c M_m_net) 58 = .ok (.invokestatic 178, 3) := by decide +kernel
theorem d_m_net_61 : decode (mz_c M_m_net) 61 = .ok (.goto 19, 3) := by decide +kernel
theorem d_m_net_64 : decode (mz_c M_m_net) 64 = .ok (.aload_n 0, 1) := by decide +kernel
theorem d_m_net_65 : decode (mz_c M_m_net) 65 = .ok (.getfield 24, 3) := by decide +kernel
theorem d_m_net_68 : decode (mz_c M_m_net) 68 = .ok (.iload 8, 2) := by decide +kernel
theorem d_m_net_70 : decode (mz_c M_m_net) 70 = .ok (.iaload, 1) := by decide +kernel
theorem d_m_net_71 : decode (mz_c M_m_net) 71 = .ok (.iload_n 3, 1) := by decide +kernel
theorem d_m_net_72 : decode (mz_c M_m_net) 72 = .ok (.if_icmp .ne 7, 3) := by decide +kernel
theorem d_m_net_75 : decode (mz_c M_m_net) 75 = .ok (.iconst 1, 1) := by decide +kernel
theorem d_m_net_76 : decode (mz_c M_m_net) 76 = .ok (.goto 4, 3) := by decide +kernel
theorem d_m_net_79 : decode (mz_c M_m_net) 79 = .ok (.iconst 0, 1) := by decide +kernel
theorem d_m_net_80 : decode (mz_c M_m_net) 80 = .ok (.istore 9, 2) := by decide +kernel
theorem d_m_net_82 : decode (mz_c M_m_net) 82 = .ok (.aload_n 0, 1) := by decide +kernel
theorem d_m_net_83 : decode (mz_c M_m_net) 83 = .ok (.getfield 67, 3) := by decide +kernel
theorem d_m_net_86 : decode (mz_c M_m_net) 86 = .ok (.bipush 60, 2) := by decide +kernel
theorem d_m_net_88 : decode (mz_c M_m_net) 88 = .ok (.iload_n 1, 1) := by decide +kernel
theorem d_m_net_89 : decode (mz_c M_m_net) 89 = .ok (.imul, 1) := by decide +kernel
theorem d_m_net_90 : decode (mz_c M_m_net) 90 = .ok (.bipush 10, 2) := by decide +kernel
theorem d_m_net_92 : decode (mz_c M_m_net) 92 = .ok (.iload_n 2, 1) := by decide +kernel
theorem d_m_net_93 : decode (mz_c M_m_net) 93 = .ok (.imul, 1) := by decide +kernel
theorem d_m_net_94 : decode (mz_c M_m_net) 94 = .ok (.iadd, 1) := by decide +kernel
theorem d_m_net_95 : decode (mz_c M_m_net) 95 = .ok (.iload 7, 2) := by decide +kernel
theorem d_m_net_97 : decode (mz_c M_m_net) 97 = .ok (.iadd, 1) := by decide +kernel
theorem d_m_net_98 : decode (mz_c M_m_net) 98 = .ok (.iaload, 1) := by decide +kernel
theorem d_m_net_99 : decode (mz_c M_m_net) 99 = .ok (.istore 10, 2) := by decide +kernel
theorem d_m_net_101 : decode (mz_c M_m_net) 101 = .ok (.lload 5, 2) := by decide +kernel
theorem d_m_net_103 : decode (mz_c M_m_net) 103 = .ok (.iload 9, 2) := by decide +kernel
theorem d_m_net_105 : decode (mz_c M_m_net) 105 = .ok (.ifCond .ne 7, 3) := by decide +kernel
theorem d_m_net_108 : decode (mz_c M_m_net) 108 = .ok (.lconst 0, 1) := by decide +kernel
theorem d_m_net_109 : decode (mz_c M_m_net) 109 = .ok (.goto 24, 3) := by decide +kernel
theorem d_m_net_112 : decode (mz_c M_m_net) 112 = .ok (.aload_n 0, 1) := by decide +kernel
theorem d_m_net_113 : decode (mz_c M_m_net) 113 = .ok (.getfield 27, 3) := by decide +kernel
theorem d_m_net_116 : decode (mz_c M_m_net) 116 = .ok (.iload 8, 2) := by decide +kernel
theorem d_m_net_118 : decode (mz_c M_m_net) 118 = .ok (.iaload, 1) := by decide +kernel
theorem d_m_net_119 : decode (mz_c M_m_net) 119 = .ok (.iconst 1, 1) := by decide +kernel
theorem d_m_net_120 : decode (mz_c M_m_net) 120 = .ok (.if_icmp .ne 9, 3) := by decide +kernel
theorem d_m_net_123 : decode (mz_c M_m_net) 123 = .ok (.iload 10, 2) := by decide +kernel
theorem d_m_net_125 : decode (mz_c M_m_net) 125 = .ok (.i2l, 1) := by decide +kernel
theorem d_m_net_126 : decode (mz_c M_m_net) 126 = .ok (.goto 7, 3) := by decide +kernel
theorem d_m_net_129 : decode (mz_c M_m_net) 129 = .ok (.iload 10, 2) := by decide +kernel
theorem d_m_net_131 : decode (mz_c M_m_net) 131 = .ok (.ineg, 1) := by decide +kernel
theorem d_m_net_132 : decode (mz_c M_m_net) 132 = .ok (.i2l, 1) := by decide +kernel
theorem d_m_net_133 : decode (mz_c M_m_net) 133 = .ok (.ladd, 1) := by decide +kernel
theorem d_m_net_134 : decode (mz_c M_m_net) 134 = .ok (.lstore 5, 2) := by decide +kernel
theorem d_m_net_136 : decode (mz_c M_m_net) 136 = .ok (.iinc 7 1, 3) := by decide +kernel
theorem d_m_net_139 : decode (mz_c M_m_net) 139 = .ok (.goto (-120), 3) := by decide +kernel
theorem d_m_net_142 : decode (mz_c M_m_net) 142 = .ok (.lload 5, 2) := by decide +kernel
theorem d_m_net_144 : decode (mz_c M_m_net) 144 = .ok (.lreturn, 1) := by decide +kernel
theorem d_m_balanceOf_0 : decode (mz_c M_m_balanceOf) 0 = .ok (.lconst 0, 1) := by decide +kernel
theorem d_m_balanceOf_1 : decode (mz_c M_m_balanceOf) 1 = .ok (.lstore_n 3, 1) := by decide +kernel
theorem d_m_balanceOf_2 : decode (mz_c M_m_balanceOf) 2 = .ok (.iconst 0, 1) := by decide +kernel
theorem d_m_balanceOf_3 : decode (mz_c M_m_balanceOf) 3 = .ok (.istore 5, 2) := by decide +kernel
theorem d_m_balanceOf_5 : decode (mz_c M_m_balanceOf) 5 = .ok (.iload 5, 2) := by decide +kernel
theorem d_m_balanceOf_7 : decode (mz_c M_m_balanceOf) 7 = .ok (.iconst 3, 1) := by decide +kernel
theorem d_m_balanceOf_8 : decode (mz_c M_m_balanceOf) 8 = .ok (.if_icmp .ge 87, 3) := by decide +kernel
theorem d_m_balanceOf_11 : decode (mz_c M_m_balanceOf) 11 = .ok (.aload_n 0, 1) := by decide +kernel
theorem d_m_balanceOf_12 : decode (mz_c M_m_balanceOf) 12 = .ok (.getfield 61, 3) := by decide +kernel
theorem d_m_balanceOf_15 : decode (mz_c M_m_balanceOf) 15 = .ok (.iconst 3, 1) := by decide +kernel
theorem d_m_balanceOf_16 : decode (mz_c M_m_balanceOf) 16 = .ok (.iload_n 1, 1) := by decide +kernel
theorem d_m_balanceOf_17 : decode (mz_c M_m_balanceOf) 17 = .ok (.imul, 1) := by decide +kernel
theorem d_m_balanceOf_18 : decode (mz_c M_m_balanceOf) 18 = .ok (.iload 5, 2) := by decide +kernel
theorem d_m_balanceOf_20 : decode (mz_c M_m_balanceOf) 20 = .ok (.iadd, 1) := by decide +kernel
theorem d_m_balanceOf_21 : decode (mz_c M_m_balanceOf) 21 = .ok (.iaload, 1) := by decide +kernel
theorem d_m_balanceOf_22 : decode (mz_c M_m_balanceOf) 22 = .ok (.i2l, 1) := by decide +kernel
theorem d_m_balanceOf_23 : decode (mz_c M_m_balanceOf) 23 = .ok (.lstore 6, 2) := by decide +kernel
theorem d_m_balanceOf_25 : decode (mz_c M_m_balanceOf) 25 = .ok (.aload_n 0, 1) := by decide +kernel
theorem d_m_balanceOf_26 : decode (mz_c M_m_balanceOf) 26 = .ok (.iload_n 1, 1) := by decide +kernel
theorem d_m_balanceOf_27 : decode (mz_c M_m_balanceOf) 27 = .ok (.iload_n 2, 1) := by decide +kernel
theorem d_m_balanceOf_28 : decode (mz_c M_m_balanceOf) 28 = .ok (.iload 5, 2) := by decide +kernel
theorem d_m_balanceOf_30 : decode (mz_c M_m_balanceOf) 30 = .ok (.invokevirtual 221, 3) := by decide +kernel
theorem d_m_balanceOf_33 : decode (mz_c M_m_balanceOf) 33 = .ok (.lstore 8, 2) := by decide +kernel
theorem d_m_balanceOf_35 : decode (mz_c M_m_balanceOf) 35 = .ok (.aload_n 0, 1) := by decide +kernel
theorem d_m_balanceOf_36 : decode (mz_c M_m_balanceOf) 36 = .ok (.getfield 55, 3) := by decide +kernel
theorem d_m_balanceOf_39 : decode (mz_c M_m_balanceOf) 39 = .ok (.iconst 3, 1) := by decide +kernel
theorem d_m_balanceOf_40 : decode (mz_c M_m_balanceOf) 40 = .ok (.iload_n 2, 1) := by decide +kernel
theorem d_m_balanceOf_41 : decode (mz_c M_m_balanceOf) 41 = .ok (.imul, 1) := by decide +kernel
theorem d_m_balanceOf_42 : decode (mz_c M_m_balanceOf) 42 = .ok (.iload 5, 2) := by decide +kernel
theorem d_m_balanceOf_44 : decode (mz_c M_m_balanceOf) 44 = .ok (.iadd, 1) := by decide +kernel
theorem d_m_balanceOf_45 : decode (mz_c M_m_balanceOf) 45 = .ok (.iaload, 1) := by decide +kernel
theorem d_m_balanceOf_46 : decode (mz_c M_m_balanceOf) 46 = .ok (.i2l, 1) := by decide +kernel
theorem d_m_balanceOf_47 : decode (mz_c M_m_balanceOf) 47 = .ok (.lload 8, 2) := by decide +kernel
theorem d_m_balanceOf_49 : decode (mz_c M_m_balanceOf) 49 = .ok (.lsub, 1) := by decide +kernel
theorem d_m_balanceOf_50 : decode (mz_c M_m_balanceOf) 50 = .ok (.lstore 10, 2) := by decide +kernel
theorem d_m_balanceOf_52 : decode (mz_c M_m_balanceOf) 52 = .ok (.lload_n 3, 1) := by decide +kernel
theorem d_m_balanceOf_53 : decode (mz_c M_m_balanceOf) 53 = .ok (.lload 6, 2) := by decide +kernel
theorem d_m_balanceOf_55 : decode (mz_c M_m_balanceOf) 55 = .ok (.lload 8, 2) := by decide +kernel
theorem d_m_balanceOf_57 : decode (mz_c M_m_balanceOf) 57 = .ok (.lmul, 1) := by decide +kernel
theorem d_m_balanceOf_58 : decode (mz_c M_m_balanceOf) 58 = .ok (.lload 10, 2) := by decide +kernel
theorem d_m_balanceOf_60 : decode (mz_c M_m_balanceOf) 60 = .ok (.lconst 0, 1) := by decide +kernel
theorem d_m_balanceOf_61 : decode (mz_c M_m_balanceOf) 61 = .ok (.lcmp, 1) := by decide +kernel
theorem d_m_balanceOf_62 : decode (mz_c M_m_balanceOf) 62 = .ok (.ifCond .le 15, 3) := by decide +kernel
theorem d_m_balanceOf_65 : decode (mz_c M_m_balanceOf) 65 = .ok (.lload 10, 2) := by decide +kernel
theorem d_m_balanceOf_67 : decode (mz_c M_m_balanceOf) 67 = .ok (.lload 6, 2) := by decide +kernel
theorem d_m_balanceOf_69 : decode (mz_c M_m_balanceOf) 69 = .ok (.ldc2_w 225, 3) := by decide +kernel
theorem d_m_balanceOf_72 : decode (mz_c M_m_balanceOf) 72 = .ok (.lsub, 1) := by decide +kernel
theorem d_m_balanceOf_73 : decode (mz_c M_m_balanceOf) 73 = .ok (.lmul, 1) := by decide +kernel
theorem d_m_balanceOf_74 : decode (mz_c M_m_balanceOf) 74 = .ok (.goto 12, 3) := by decide +kernel
theorem d_m_balanceOf_77 : decode (mz_c M_m_balanceOf) 77 = .ok (.lload 10, 2) := by decide +kernel
theorem d_m_balanceOf_79 : decode (mz_c M_m_balanceOf) 79 = .ok (.lload 6, 2) := by decide +kernel
theorem d_m_balanceOf_81 : decode (mz_c M_m_balanceOf) 81 = .ok (.ldc2_w 225, 3) := by decide +kernel
theorem d_m_balanceOf_84 : decode (mz_c M_m_balanceOf) 84 = .ok (.ladd, 1) := by decide +kernel
theorem d_m_balanceOf_85 : decode (mz_c M_m_balanceOf) 85 = .ok (.lmul, 1) := by decide +kernel
theorem d_m_balanceOf_86 : decode (mz_c M_m_balanceOf) 86 = .ok (.ladd, 1) := by decide +kernel
theorem d_m_balanceOf_87 : decode (mz_c M_m_balanceOf) 87 = .ok (.ladd, 1) := by decide +kernel
theorem d_m_balanceOf_88 : decode (mz_c M_m_balanceOf) 88 = .ok (.lstore_n 3, 1) := by decide +kernel
theorem d_m_balanceOf_89 : decode (mz_c M_m_balanceOf) 89 = .ok (.iinc 5 1, 3) := by decide +kernel
theorem d_m_balanceOf_92 : decode (mz_c M_m_balanceOf) 92 = .ok (.goto (-87), 3) := by decide +kernel
theorem d_m_balanceOf_95 : decode (mz_c M_m_balanceOf) 95 = .ok (.lload_n 3, 1) := by decide +kernel
theorem d_m_balanceOf_96 : decode (mz_c M_m_balanceOf) 96 = .ok (.lreturn, 1) := by decide +kernel
theorem d_m_balance_0 : decode (mz_c M_m_balance) 0 = .ok (.aload_n 0, 1) := by decide +kernel
theorem d_m_balance_1 : decode (mz_c M_m_balance) 1 = .ok (.iload_n 1, 1) := by decide +kernel
theorem d_m_balance_2 : decode (mz_c M_m_balance) 2 = .ok (.i2l, 1) := by decide +kernel
theorem d_m_balance_3 : decode (mz_c M_m_balance) 3 = .ok (.lconst 0, 1) := by decide +kernel
theorem d_m_balance_4 : decode (mz_c M_m_balance) 4 = .ok (.ldc2_w 125, 3) := by decide +kernel
theorem d_m_balance_7 : decode (mz_c M_m_balance) 7 = .ok (.invokestatic 106, 3) := by decide +kernel
theorem d_m_balance_10 : decode (mz_c M_m_balance) 10 = .ok (.ifCond .eq 21, 3) := by decide +kernel
theorem d_m_balance_13 : decode (mz_c M_m_balance) 13 = .ok (.iload_n 2, 1) := by decide +kernel
theorem d_m_balance_14 : decode (mz_c M_m_balance) 14 = .ok (.i2l, 1) := by decide +kernel
theorem d_m_balance_15 : decode (mz_c M_m_balance) 15 = .ok (.ldc2_w 123, 3) := by decide +kernel
theorem d_m_balance_18 : decode (mz_c M_m_balance) 18 = .ok (.aload_n 0, 1) := by decide +kernel
theorem d_m_balance_19 : decode (mz_c M_m_balance) 19 = .ok (.getfield 97, 3) := by decide +kernel
theorem d_m_balance_22 : decode (mz_c M_m_balance) 22 = .ok (.iconst 1, 1) := by decide +kernel
theorem d_m_balance_23 : decode (mz_c M_m_balance) 23 = .ok (.isub, 1) := by decide +kernel
theorem d_m_balance_24 : decode (mz_c M_m_balance) 24 = .ok (.i2l, 1) := by decide +kernel
theorem d_m_balance_25 : decode (mz_c M_m_balance) 25 = .ok (.invokestatic 106, 3) := by decide +kernel
theorem d_m_balance_28 : decode (mz_c M_m_balance) 28 = .ok (.ifCond .ne 7, 3) := by decide +kernel
theorem d_m_balance_31 : decode (mz_c M_m_balance) 31 = .ok (.iconst 1, 1) := by decide +kernel
theorem d_m_balance_32 : decode (mz_c M_m_balance) 32 = .ok (.goto 4, 3) := by decide +kernel
theorem d_m_balance_35 : decode (mz_c M_m_balance) 35 = .ok (.iconst 0, 1) := by decide +kernel
theorem d_m_balance_36 : decode (mz_c M_m_balance) 36 = .ok (.iload_n 1, 1) := by decide +kernel
theorem d_m_balance_37 : decode (mz_c M_m_balance) 37 = .ok (.invokevirtual 211, 3) := by decide +kernel
theorem d_m_balance_40 : decode (mz_c M_m_balance) 40 = .ok (.ifCond .eq 5, 3) := by decide +kernel
theorem d_m_balance_43 : decode (mz_c M_m_balance) 43 = .ok (.lconst 0, 1) := by decide +kernel
theorem d_m_balance_44 : decode (mz_c M_m_balance) 44 = .ok (.lreturn, 1) := by decide +kernel
theorem d_m_balance_45 : decode (mz_c M_m_balance) 45 = .ok (.iload_n 2, 1) := by decide +kernel
theorem d_m_balance_46 : decode (mz_c M_m_balance) 46 = .ok (.ifCond .lt 10, 3) := by decide +kernel
theorem d_m_balance_49 : decode (mz_c M_m_balance) 49 = .ok (.aload_n 0, 1) := by decide +kernel
theorem d_m_balance_50 : decode (mz_c M_m_balance) 50 = .ok (.iload_n 1, 1) := by decide +kernel
theorem d_m_balance_51 : decode (mz_c M_m_balance) 51 = .ok (.iload_n 2, 1) := by decide +kernel
theorem d_m_balance_52 : decode (mz_c M_m_balance) 52 = .ok (.invokevirtual 227, 3) := by decide +kernel
theorem d_m_balance_55 : decode (mz_c M_m_balance) 55 = .ok (.lreturn, 1) := by decide +kernel
theorem d_m_balance_56 : decode (mz_c M_m_balance) 56 = .ok (.lconst 0, 1) := by decide +kernel
theorem d_m_balance_57 : decode (mz_c M_m_balance) 57 = .ok (.lstore_n 3, 1) := by decide +kernel
theorem d_m_balance_58 : decode (mz_c M_m_balance) 58 = .ok (.iconst 0, 1) := by decide +kernel
theorem d_m_balance_59 : decode (mz_c M_m_balance) 59 = .ok (.istore 5, 2) := by decide +kernel
theorem d_m_balance_61 : decode (mz_c M_m_balance) 61 = .ok (.iload 5, 2) := by decide +kernel
theorem d_m_balance_63 : decode (mz_c M_m_balance) 63 = .ok (.aload_n 0, 1) := by decide +kernel
theorem d_m_balance_64 : decode (mz_c M_m_balance) 64 = .ok (.getfield 97, 3) := by decide +kernel
theorem d_m_balance_67 : decode (mz_c M_m_balance) 67 = .ok (.if_icmp .ge 19, 3) := by decide +kernel
theorem d_m_balance_70 : decode (mz_c M_m_balance) 70 = .ok (.lload_n 3, 1) := by decide +kernel
theorem d_m_balance_71 : decode (mz_c M_m_balance) 71 = .ok (.aload_n 0, 1) := by decide +kernel
theorem d_m_balance_72 : decode (mz_c M_m_balance) 72 = .ok (.iload_n 1, 1) := by decide +kernel
theorem d_m_balance_73 : decode (mz_c M_m_balance) 73 = .ok (.iload 5, 2) := by decide +kernel
theorem d_m_balance_75 : decode (mz_c M_m_balance) 75 = .ok (.invokevirtual 227, 3) := by decide +kernel
theorem d_m_balance_78 : decode (mz_c M_m_balance) 78 = .ok (.ladd, 1) := by decide +kernel
theorem d_m_balance_79 : decode (mz_c M_m_balance) 79 = .ok (.lstore_n 3, 1) := by decide +kernel
theorem d_m_balance_80 : decode (mz_c M_m_balance) 80 = .ok (.iinc 5 1, 3) := by decide +kernel
theorem d_m_balance_83 : decode (mz_c M_m_balance) 83 = .ok (.goto (-22), 3) := by decide +kernel
theorem d_m_balance_86 : decode (mz_c M_m_balance) 86 = .ok (.lload_n 3, 1) := by decide +kernel
theorem d_m_balance_87 : decode (mz_c M_m_balance) 87 = .ok (.lneg, 1) := by decide +kernel
theorem d_m_balance_88 : decode (mz_c M_m_balance) 88 = .ok (.lreturn, 1) := by decide +kernel
theorem d_law_cell_0 : decode (mz_c M_law_cell) 0 = .ok (.iload_n 1, 1) := by decide +kernel
theorem d_law_cell_1 : decode (mz_c M_law_cell) 1 = .ok (.aload_n 0, 1) := by decide +kernel
theorem d_law_cell_2 : decode (mz_c M_law_cell) 2 = .ok (.arraylength, 1) := by decide +kernel
theorem d_law_cell_3 : decode (mz_c M_law_cell) 3 = .ok (.if_icmp .ge 9, 3) := by decide +kernel
theorem d_law_cell_6 : decode (mz_c M_law_cell) 6 = .ok (.aload_n 0, 1) := by decide +kernel
theorem d_law_cell_7 : decode (mz_c M_law_cell) 7 = .ok (.iload_n 1, 1) := by decide +kernel
theorem d_law_cell_8 : decode (mz_c M_law_cell) 8 = .ok (.iaload, 1) := by decide +kernel
theorem d_law_cell_9 : decode (mz_c M_law_cell) 9 = .ok (.goto 4, 3) := by decide +kernel
theorem d_law_cell_12 : decode (mz_c M_law_cell) 12 = .ok (.iconst 0, 1) := by decide +kernel
theorem d_law_cell_13 : decode (mz_c M_law_cell) 13 = .ok (.ireturn, 1) := by decide +kernel
theorem d_law_collateral_0 : decode (mz_c M_law_collateral) 0 = .ok (.aload_n 0, 1) := by decide +kernel
theorem d_law_collateral_1 : decode (mz_c M_law_collateral) 1 = .ok (.iload_n 1, 1) := by decide +kernel
theorem d_law_collateral_2 : decode (mz_c M_law_collateral) 2 = .ok (.iload_n 2, 1) := by decide +kernel
theorem d_law_collateral_3 : decode (mz_c M_law_collateral) 3 = .ok (.invokevirtual 7, 3) := by decide +kernel
theorem d_law_collateral_6 : decode (mz_c M_law_collateral) 6 = .ok (.goto 9, 3) := by decide +kernel
theorem d_law_collateral_9 : decode (mz_c M_law_collateral) 9 = .ok (.astore_n 3, 1) := by decide +kernel
theorem d_law_collateral_10 : decode (mz_c M_law_collateral) 10 = .ok (.iconst 1, 1) := by decide +kernel
theorem d_law_collateral_11 : decode (mz_c M_law_collateral) 11 = .ok (.ireturn, 1) := by decide +kernel
theorem d_law_collateral_12 : decode (mz_c M_law_collateral) 12 = .ok (.astore_n 3, 1) := by decide +kernel
theorem d_law_collateral_13 : decode (mz_c M_law_collateral) 13 = .ok (.iconst 2, 1) := by decide +kernel
theorem d_law_collateral_14 : decode (mz_c M_law_collateral) 14 = .ok (.ireturn, 1) := by decide +kernel
theorem d_law_collateral_15 : decode (mz_c M_law_collateral) 15 = .ok (.iconst 0, 1) := by decide +kernel
theorem d_law_collateral_16 : decode (mz_c M_law_collateral) 16 = .ok (.ireturn, 1) := by decide +kernel
theorem d_law_order_0 : decode (mz_c M_law_order) 0 = .ok (.aload 7, 2) := by decide +kernel
theorem d_law_order_2 : decode (mz_c M_law_order) 2 = .ok (.iconst 0, 1) := by decide +kernel
theorem d_law_order_3 : decode (mz_c M_law_order) 3 = .ok (.aload_n 0, 1) := by decide +kernel
theorem d_law_order_4 : decode (mz_c M_law_order) 4 = .ok (.iload_n 1, 1) := by decide +kernel
theorem d_law_order_5 : decode (mz_c M_law_order) 5 = .ok (.iload_n 2, 1) := by decide +kernel
theorem d_law_order_6 : decode (mz_c M_law_order) 6 = .ok (.iload_n 3, 1) := by decide +kernel
theorem d_law_order_7 : decode (mz_c M_law_order) 7 = .ok (.iload 4, 2) := by decide +kernel
theorem d_law_order_9 : decode (mz_c M_law_order) 9 = .ok (.iload 5, 2) := by decide +kernel
theorem d_law_order_11 : decode (mz_c M_law_order) 11 = .ok (.iload 6, 2) := by decide +kernel
theorem d_law_order_13 : decode (mz_c M_law_order) 13 = .ok (.invokevirtual 17, 3) := by decide +kernel
theorem d_law_order_16 : decode (mz_c M_law_order) 16 = .ok (.i2l, 1) := by decide +kernel
theorem d_law_order_17 : decode (mz_c M_law_order) 17 = .ok (.lastore, 1) := by decide +kernel
theorem d_law_order_18 : decode (mz_c M_law_order) 18 = .ok (.goto 11, 3) := by decide +kernel
theorem d_law_order_21 : decode (mz_c M_law_order) 21 = .ok (.astore 8, 2) := by decide +kernel
theorem d_law_order_23 : decode (mz_c M_law_order) 23 = .ok (.iconst 1, 1) := by decide +kernel
theorem d_law_order_24 : decode (mz_c M_law_order) 24 = .ok (.ireturn, 1) := by decide +kernel
theorem d_law_order_25 : decode (mz_c M_law_order) 25 = .ok (.astore 8, 2) := by decide +kernel
theorem d_law_order_27 : decode (mz_c M_law_order) 27 = .ok (.iconst 2, 1) := by decide +kernel
theorem d_law_order_28 : decode (mz_c M_law_order) 28 = .ok (.ireturn, 1) := by decide +kernel
theorem d_law_order_29 : decode (mz_c M_law_order) 29 = .ok (.iconst 0, 1) := by decide +kernel
theorem d_law_order_30 : decode (mz_c M_law_order) 30 = .ok (.ireturn, 1) := by decide +kernel
theorem d_law_block_0 : decode (mz_c M_law_block) 0 = .ok (.aload 7, 2) := by decide +kernel
theorem d_law_block_2 : decode (mz_c M_law_block) 2 = .ok (.iconst 0, 1) := by decide +kernel
theorem d_law_block_3 : decode (mz_c M_law_block) 3 = .ok (.aload_n 0, 1) := by decide +kernel
theorem d_law_block_4 : decode (mz_c M_law_block) 4 = .ok (.iload_n 1, 1) := by decide +kernel
theorem d_law_block_5 : decode (mz_c M_law_block) 5 = .ok (.iload_n 2, 1) := by decide +kernel
theorem d_law_block_6 : decode (mz_c M_law_block) 6 = .ok (.iload_n 3, 1) := by decide +kernel
theorem d_law_block_7 : decode (mz_c M_law_block) 7 = .ok (.iload 4, 2) := by decide +kernel
theorem d_law_block_9 : decode (mz_c M_law_block) 9 = .ok (.iload 5, 2) := by decide +kernel
theorem d_law_block_11 : decode (mz_c M_law_block) 11 = .ok (.iload 6, 2) := by decide +kernel
theorem d_law_block_13 : decode (mz_c M_law_block) 13 = .ok (.invokevirtual 21, 3) := by decide +kernel
theorem d_law_block_16 : decode (mz_c M_law_block) 16 = .ok (.i2l, 1) := by decide +kernel
theorem d_law_block_17 : decode (mz_c M_law_block) 17 = .ok (.lastore, 1) := by decide +kernel
theorem d_law_block_18 : decode (mz_c M_law_block) 18 = .ok (.goto 11, 3) := by decide +kernel
theorem d_law_block_21 : decode (mz_c M_law_block) 21 = .ok (.astore 8, 2) := by decide +kernel
theorem d_law_block_23 : decode (mz_c M_law_block) 23 = .ok (.iconst 1, 1) := by decide +kernel
theorem d_law_block_24 : decode (mz_c M_law_block) 24 = .ok (.ireturn, 1) := by decide +kernel
theorem d_law_block_25 : decode (mz_c M_law_block) 25 = .ok (.astore 8, 2) := by decide +kernel
theorem d_law_block_27 : decode (mz_c M_law_block) 27 = .ok (.iconst 2, 1) := by decide +kernel
theorem d_law_block_28 : decode (mz_c M_law_block) 28 = .ok (.ireturn, 1) := by decide +kernel
theorem d_law_block_29 : decode (mz_c M_law_block) 29 = .ok (.iconst 0, 1) := by decide +kernel
theorem d_law_block_30 : decode (mz_c M_law_block) 30 = .ok (.ireturn, 1) := by decide +kernel
theorem d_law_seal_0 : decode (mz_c M_law_seal) 0 = .ok (.aload_n 2, 1) := by decide +kernel
theorem d_law_seal_1 : decode (mz_c M_law_seal) 1 = .ok (.iconst 0, 1) := by decide +kernel
theorem d_law_seal_2 : decode (mz_c M_law_seal) 2 = .ok (.aload_n 0, 1) := by decide +kernel
theorem d_law_seal_3 : decode (mz_c M_law_seal) 3 = .ok (.iload_n 1, 1) := by decide +kernel
theorem d_law_seal_4 : decode (mz_c M_law_seal) 4 = .ok (.invokevirtual 24, 3) := by decide +kernel
theorem d_law_seal_7 : decode (mz_c M_law_seal) 7 = .ok (.i2l, 1) := by decide +kernel
theorem d_law_seal_8 : decode (mz_c M_law_seal) 8 = .ok (.lastore, 1) := by decide +kernel
theorem d_law_seal_9 : decode (mz_c M_law_seal) 9 = .ok (.goto 9, 3) := by decide +kernel
theorem d_law_seal_12 : decode (mz_c M_law_seal) 12 = .ok (.astore_n 3, 1) := by decide +kernel
theorem d_law_seal_13 : decode (mz_c M_law_seal) 13 = .ok (.iconst 1, 1) := by decide +kernel
theorem d_law_seal_14 : decode (mz_c M_law_seal) 14 = .ok (.ireturn, 1) := by decide +kernel
theorem d_law_seal_15 : decode (mz_c M_law_seal) 15 = .ok (.astore_n 3, 1) := by decide +kernel
theorem d_law_seal_16 : decode (mz_c M_law_seal) 16 = .ok (.iconst 2, 1) := by decide +kernel
theorem d_law_seal_17 : decode (mz_c M_law_seal) 17 = .ok (.ireturn, 1) := by decide +kernel
theorem d_law_seal_18 : decode (mz_c M_law_seal) 18 = .ok (.iconst 0, 1) := by decide +kernel
theorem d_law_seal_19 : decode (mz_c M_law_seal) 19 = .ok (.ireturn, 1) := by decide +kernel
theorem d_law_liar_0 : decode (mz_c M_law_liar) 0 = .ok (.aload_n 0, 1) := by decide +kernel
theorem d_law_liar_1 : decode (mz_c M_law_liar) 1 = .ok (.iload_n 1, 1) := by decide +kernel
theorem d_law_liar_2 : decode (mz_c M_law_liar) 2 = .ok (.invokevirtual 28, 3) := by decide +kernel
theorem d_law_liar_5 : decode (mz_c M_law_liar) 5 = .ok (.goto 9, 3) := by decide +kernel
theorem d_law_liar_8 : decode (mz_c M_law_liar) 8 = .ok (.astore_n 2, 1) := by decide +kernel
theorem d_law_liar_9 : decode (mz_c M_law_liar) 9 = .ok (.iconst 1, 1) := by decide +kernel
theorem d_law_liar_10 : decode (mz_c M_law_liar) 10 = .ok (.ireturn, 1) := by decide +kernel
theorem d_law_liar_11 : decode (mz_c M_law_liar) 11 = .ok (.astore_n 2, 1) := by decide +kernel
theorem d_law_liar_12 : decode (mz_c M_law_liar) 12 = .ok (.iconst 2, 1) := by decide +kernel
theorem d_law_liar_13 : decode (mz_c M_law_liar) 13 = .ok (.ireturn, 1) := by decide +kernel
theorem d_law_liar_14 : decode (mz_c M_law_liar) 14 = .ok (.iconst 0, 1) := by decide +kernel
theorem d_law_liar_15 : decode (mz_c M_law_liar) 15 = .ok (.ireturn, 1) := by decide +kernel
theorem d_law_tell_0 : decode (mz_c M_law_tell) 0 = .ok (.aload_n 0, 1) := by decide +kernel
theorem d_law_tell_1 : decode (mz_c M_law_tell) 1 = .ok (.iload_n 1, 1) := by decide +kernel
theorem d_law_tell_2 : decode (mz_c M_law_tell) 2 = .ok (.iload_n 2, 1) := by decide +kernel
theorem d_law_tell_3 : decode (mz_c M_law_tell) 3 = .ok (.iload_n 3, 1) := by decide +kernel
theorem d_law_tell_4 : decode (mz_c M_law_tell) 4 = .ok (.iload 4, 2) := by decide +kernel
theorem d_law_tell_6 : decode (mz_c M_law_tell) 6 = .ok (.invokevirtual 32, 3) := by decide +kernel
theorem d_law_tell_9 : decode (mz_c M_law_tell) 9 = .ok (.goto 11, 3) := by decide +kernel
theorem d_law_tell_12 : decode (mz_c M_law_tell) 12 = .ok (.astore 5, 2) := by decide +kernel
theorem d_law_tell_14 : decode (mz_c M_law_tell) 14 = .ok (.iconst 1, 1) := by decide +kernel
theorem d_law_tell_15 : decode (mz_c M_law_tell) 15 = .ok (.ireturn, 1) := by decide +kernel
theorem d_law_tell_16 : decode (mz_c M_law_tell) 16 = .ok (.astore 5, 2) := by decide +kernel
theorem d_law_tell_18 : decode (mz_c M_law_tell) 18 = .ok (.iconst 2, 1) := by decide +kernel
theorem d_law_tell_19 : decode (mz_c M_law_tell) 19 = .ok (.ireturn, 1) := by decide +kernel
theorem d_law_tell_20 : decode (mz_c M_law_tell) 20 = .ok (.iconst 0, 1) := by decide +kernel
theorem d_law_tell_21 : decode (mz_c M_law_tell) 21 = .ok (.ireturn, 1) := by decide +kernel
theorem d_law_round_0 : decode (mz_c M_law_round) 0 = .ok (.aload_n 1, 1) := by decide +kernel
theorem d_law_round_1 : decode (mz_c M_law_round) 1 = .ok (.iconst 0, 1) := by decide +kernel
theorem d_law_round_2 : decode (mz_c M_law_round) 2 = .ok (.aload_n 0, 1) := by decide +kernel
theorem d_law_round_3 : decode (mz_c M_law_round) 3 = .ok (.invokevirtual 36, 3) := by decide +kernel
theorem d_law_round_6 : decode (mz_c M_law_round) 6 = .ok (.i2l, 1) := by decide +kernel
theorem d_law_round_7 : decode (mz_c M_law_round) 7 = .ok (.lastore, 1) := by decide +kernel
theorem d_law_round_8 : decode (mz_c M_law_round) 8 = .ok (.goto 6, 3) := by decide +kernel
theorem d_law_round_11 : decode (mz_c M_law_round) 11 = .ok (.astore_n 2, 1) := by decide +kernel
theorem d_law_round_12 : decode (mz_c M_law_round) 12 = .ok (.iconst 1, 1) := by decide +kernel
theorem d_law_round_13 : decode (mz_c M_law_round) 13 = .ok (.ireturn, 1) := by decide +kernel
theorem d_law_round_14 : decode (mz_c M_law_round) 14 = .ok (.iconst 0, 1) := by decide +kernel
theorem d_law_round_15 : decode (mz_c M_law_round) 15 = .ok (.ireturn, 1) := by decide +kernel
theorem d_law_vector_0 : decode (mz_c M_law_vector) 0 = .ok (.aload 5, 2) := by decide +kernel
theorem d_law_vector_2 : decode (mz_c M_law_vector) 2 = .ok (.iconst 0, 1) := by decide +kernel
theorem d_law_vector_3 : decode (mz_c M_law_vector) 3 = .ok (.aload_n 0, 1) := by decide +kernel
theorem d_law_vector_4 : decode (mz_c M_law_vector) 4 = .ok (.iload_n 1, 1) := by decide +kernel
theorem d_law_vector_5 : decode (mz_c M_law_vector) 5 = .ok (.iload_n 2, 1) := by decide +kernel
theorem d_law_vector_6 : decode (mz_c M_law_vector) 6 = .ok (.iload_n 3, 1) := by decide +kernel
theorem d_law_vector_7 : decode (mz_c M_law_vector) 7 = .ok (.iload 4, 2) := by decide +kernel
theorem d_law_vector_9 : decode (mz_c M_law_vector) 9 = .ok (.invokevirtual 40, 3) := by decide +kernel
theorem d_law_vector_12 : decode (mz_c M_law_vector) 12 = .ok (.i2l, 1) := by decide +kernel
theorem d_law_vector_13 : decode (mz_c M_law_vector) 13 = .ok (.lastore, 1) := by decide +kernel
theorem d_law_vector_14 : decode (mz_c M_law_vector) 14 = .ok (.goto 11, 3) := by decide +kernel
theorem d_law_vector_17 : decode (mz_c M_law_vector) 17 = .ok (.astore 6, 2) := by decide +kernel
theorem d_law_vector_19 : decode (mz_c M_law_vector) 19 = .ok (.iconst 1, 1) := by decide +kernel
theorem d_law_vector_20 : decode (mz_c M_law_vector) 20 = .ok (.ireturn, 1) := by decide +kernel
theorem d_law_vector_21 : decode (mz_c M_law_vector) 21 = .ok (.astore 6, 2) := by decide +kernel
theorem d_law_vector_23 : decode (mz_c M_law_vector) 23 = .ok (.iconst 2, 1) := by decide +kernel
theorem d_law_vector_24 : decode (mz_c M_law_vector) 24 = .ok (.ireturn, 1) := by decide +kernel
theorem d_law_vector_25 : decode (mz_c M_law_vector) 25 = .ok (.iconst 0, 1) := by decide +kernel
theorem d_law_vector_26 : decode (mz_c M_law_vector) 26 = .ok (.ireturn, 1) := by decide +kernel
theorem d_law_clear_0 : decode (mz_c M_law_clear) 0 = .ok (.aload_n 2, 1) := by decide +kernel
theorem d_law_clear_1 : decode (mz_c M_law_clear) 1 = .ok (.iconst 0, 1) := by decide +kernel
theorem d_law_clear_2 : decode (mz_c M_law_clear) 2 = .ok (.aload_n 0, 1) := by decide +kernel
theorem d_law_clear_3 : decode (mz_c M_law_clear) 3 = .ok (.iload_n 1, 1) := by decide +kernel
theorem d_law_clear_4 : decode (mz_c M_law_clear) 4 = .ok (.invokevirtual 44, 3) := by decide +kernel
theorem d_law_clear_7 : decode (mz_c M_law_clear) 7 = .ok (.i2l, 1) := by decide +kernel
theorem d_law_clear_8 : decode (mz_c M_law_clear) 8 = .ok (.lastore, 1) := by decide +kernel
theorem d_law_clear_9 : decode (mz_c M_law_clear) 9 = .ok (.goto 9, 3) := by decide +kernel
theorem d_law_clear_12 : decode (mz_c M_law_clear) 12 = .ok (.astore_n 3, 1) := by decide +kernel
theorem d_law_clear_13 : decode (mz_c M_law_clear) 13 = .ok (.iconst 1, 1) := by decide +kernel
theorem d_law_clear_14 : decode (mz_c M_law_clear) 14 = .ok (.ireturn, 1) := by decide +kernel
theorem d_law_clear_15 : decode (mz_c M_law_clear) 15 = .ok (.astore_n 3, 1) := by decide +kernel
theorem d_law_clear_16 : decode (mz_c M_law_clear) 16 = .ok (.iconst 2, 1) := by decide +kernel
theorem d_law_clear_17 : decode (mz_c M_law_clear) 17 = .ok (.ireturn, 1) := by decide +kernel
theorem d_law_clear_18 : decode (mz_c M_law_clear) 18 = .ok (.iconst 0, 1) := by decide +kernel
theorem d_law_clear_19 : decode (mz_c M_law_clear) 19 = .ok (.ireturn, 1) := by decide +kernel
theorem d_law_price_0 : decode (mz_c M_law_price) 0 = .ok (.aload_n 3, 1) := by decide +kernel
theorem d_law_price_1 : decode (mz_c M_law_price) 1 = .ok (.iconst 0, 1) := by decide +kernel
theorem d_law_price_2 : decode (mz_c M_law_price) 2 = .ok (.aload_n 0, 1) := by decide +kernel
theorem d_law_price_3 : decode (mz_c M_law_price) 3 = .ok (.iload_n 1, 1) := by decide +kernel
theorem d_law_price_4 : decode (mz_c M_law_price) 4 = .ok (.iload_n 2, 1) := by decide +kernel
theorem d_law_price_5 : decode (mz_c M_law_price) 5 = .ok (.invokevirtual 47, 3) := by decide +kernel
theorem d_law_price_8 : decode (mz_c M_law_price) 8 = .ok (.i2l, 1) := by decide +kernel
theorem d_law_price_9 : decode (mz_c M_law_price) 9 = .ok (.lastore, 1) := by decide +kernel
theorem d_law_price_10 : decode (mz_c M_law_price) 10 = .ok (.goto 11, 3) := by decide +kernel
theorem d_law_price_13 : decode (mz_c M_law_price) 13 = .ok (.astore 4, 2) := by decide +kernel
theorem d_law_price_15 : decode (mz_c M_law_price) 15 = .ok (.iconst 1, 1) := by decide +kernel
theorem d_law_price_16 : decode (mz_c M_law_price) 16 = .ok (.ireturn, 1) := by decide +kernel
theorem d_law_price_17 : decode (mz_c M_law_price) 17 = .ok (.astore 4, 2) := by decide +kernel
theorem d_law_price_19 : decode (mz_c M_law_price) 19 = .ok (.iconst 2, 1) := by decide +kernel
theorem d_law_price_20 : decode (mz_c M_law_price) 20 = .ok (.ireturn, 1) := by decide +kernel
theorem d_law_price_21 : decode (mz_c M_law_price) 21 = .ok (.iconst 0, 1) := by decide +kernel
theorem d_law_price_22 : decode (mz_c M_law_price) 22 = .ok (.ireturn, 1) := by decide +kernel
theorem d_law_traded_0 : decode (mz_c M_law_traded) 0 = .ok (.aload_n 3, 1) := by decide +kernel
theorem d_law_traded_1 : decode (mz_c M_law_traded) 1 = .ok (.iconst 0, 1) := by decide +kernel
theorem d_law_traded_2 : decode (mz_c M_law_traded) 2 = .ok (.aload_n 0, 1) := by decide +kernel
theorem d_law_traded_3 : decode (mz_c M_law_traded) 3 = .ok (.iload_n 1, 1) := by decide +kernel
theorem d_law_traded_4 : decode (mz_c M_law_traded) 4 = .ok (.iload_n 2, 1) := by decide +kernel
theorem d_law_traded_5 : decode (mz_c M_law_traded) 5 = .ok (.invokevirtual 51, 3) := by decide +kernel
theorem d_law_traded_8 : decode (mz_c M_law_traded) 8 = .ok (.i2l, 1) := by decide +kernel
theorem d_law_traded_9 : decode (mz_c M_law_traded) 9 = .ok (.lastore, 1) := by decide +kernel
theorem d_law_traded_10 : decode (mz_c M_law_traded) 10 = .ok (.goto 11, 3) := by decide +kernel
theorem d_law_traded_13 : decode (mz_c M_law_traded) 13 = .ok (.astore 4, 2) := by decide +kernel
theorem d_law_traded_15 : decode (mz_c M_law_traded) 15 = .ok (.iconst 1, 1) := by decide +kernel
theorem d_law_traded_16 : decode (mz_c M_law_traded) 16 = .ok (.ireturn, 1) := by decide +kernel
theorem d_law_traded_17 : decode (mz_c M_law_traded) 17 = .ok (.astore 4, 2) := by decide +kernel
theorem d_law_traded_19 : decode (mz_c M_law_traded) 19 = .ok (.iconst 2, 1) := by decide +kernel
theorem d_law_traded_20 : decode (mz_c M_law_traded) 20 = .ok (.ireturn, 1) := by decide +kernel
theorem d_law_traded_21 : decode (mz_c M_law_traded) 21 = .ok (.iconst 0, 1) := by decide +kernel
theorem d_law_traded_22 : decode (mz_c M_law_traded) 22 = .ok (.ireturn, 1) := by decide +kernel
theorem d_law_fill_0 : decode (mz_c M_law_fill) 0 = .ok (.aload 4, 2) := by decide +kernel
theorem d_law_fill_2 : decode (mz_c M_law_fill) 2 = .ok (.iconst 0, 1) := by decide +kernel
theorem d_law_fill_3 : decode (mz_c M_law_fill) 3 = .ok (.aload_n 0, 1) := by decide +kernel
theorem d_law_fill_4 : decode (mz_c M_law_fill) 4 = .ok (.iload_n 1, 1) := by decide +kernel
theorem d_law_fill_5 : decode (mz_c M_law_fill) 5 = .ok (.iload_n 2, 1) := by decide +kernel
theorem d_law_fill_6 : decode (mz_c M_law_fill) 6 = .ok (.iload_n 3, 1) := by decide +kernel
theorem d_law_fill_7 : decode (mz_c M_law_fill) 7 = .ok (.invokevirtual 54, 3) := by decide +kernel
theorem d_law_fill_10 : decode (mz_c M_law_fill) 10 = .ok (.i2l, 1) := by decide +kernel
theorem d_law_fill_11 : decode (mz_c M_law_fill) 11 = .ok (.lastore, 1) := by decide +kernel
theorem d_law_fill_12 : decode (mz_c M_law_fill) 12 = .ok (.goto 11, 3) := by decide +kernel
theorem d_law_fill_15 : decode (mz_c M_law_fill) 15 = .ok (.astore 5, 2) := by decide +kernel
theorem d_law_fill_17 : decode (mz_c M_law_fill) 17 = .ok (.iconst 1, 1) := by decide +kernel
theorem d_law_fill_18 : decode (mz_c M_law_fill) 18 = .ok (.ireturn, 1) := by decide +kernel
theorem d_law_fill_19 : decode (mz_c M_law_fill) 19 = .ok (.astore 5, 2) := by decide +kernel
theorem d_law_fill_21 : decode (mz_c M_law_fill) 21 = .ok (.iconst 2, 1) := by decide +kernel
theorem d_law_fill_22 : decode (mz_c M_law_fill) 22 = .ok (.ireturn, 1) := by decide +kernel
theorem d_law_fill_23 : decode (mz_c M_law_fill) 23 = .ok (.iconst 0, 1) := by decide +kernel
theorem d_law_fill_24 : decode (mz_c M_law_fill) 24 = .ok (.ireturn, 1) := by decide +kernel
theorem d_law_welfare_0 : decode (mz_c M_law_welfare) 0 = .ok (.aload_n 2, 1) := by decide +kernel
theorem d_law_welfare_1 : decode (mz_c M_law_welfare) 1 = .ok (.iconst 0, 1) := by decide +kernel
theorem d_law_welfare_2 : decode (mz_c M_law_welfare) 2 = .ok (.aload_n 0, 1) := by decide +kernel
theorem d_law_welfare_3 : decode (mz_c M_law_welfare) 3 = .ok (.iload_n 1, 1) := by decide +kernel
theorem d_law_welfare_4 : decode (mz_c M_law_welfare) 4 = .ok (.invokevirtual 58, 3) := by decide +kernel
theorem d_law_welfare_7 : decode (mz_c M_law_welfare) 7 = .ok (.lastore, 1) := by decide +kernel
theorem d_law_welfare_8 : decode (mz_c M_law_welfare) 8 = .ok (.goto 9, 3) := by decide +kernel
theorem d_law_welfare_11 : decode (mz_c M_law_welfare) 11 = .ok (.astore_n 3, 1) := by decide +kernel
theorem d_law_welfare_12 : decode (mz_c M_law_welfare) 12 = .ok (.iconst 1, 1) := by decide +kernel
theorem d_law_welfare_13 : decode (mz_c M_law_welfare) 13 = .ok (.ireturn, 1) := by decide +kernel
theorem d_law_welfare_14 : decode (mz_c M_law_welfare) 14 = .ok (.astore_n 3, 1) := by decide +kernel
theorem d_law_welfare_15 : decode (mz_c M_law_welfare) 15 = .ok (.iconst 2, 1) := by decide +kernel
theorem d_law_welfare_16 : decode (mz_c M_law_welfare) 16 = .ok (.ireturn, 1) := by decide +kernel
theorem d_law_welfare_17 : decode (mz_c M_law_welfare) 17 = .ok (.iconst 0, 1) := by decide +kernel
theorem d_law_welfare_18 : decode (mz_c M_law_welfare) 18 = .ok (.ireturn, 1) := by decide +kernel
theorem d_law_meter_0 : decode (mz_c M_law_meter) 0 = .ok (.aload_n 0, 1) := by decide +kernel
theorem d_law_meter_1 : decode (mz_c M_law_meter) 1 = .ok (.iload_n 1, 1) := by decide +kernel
theorem d_law_meter_2 : decode (mz_c M_law_meter) 2 = .ok (.iload_n 2, 1) := by decide +kernel
theorem d_law_meter_3 : decode (mz_c M_law_meter) 3 = .ok (.iload_n 3, 1) := by decide +kernel
theorem d_law_meter_4 : decode (mz_c M_law_meter) 4 = .ok (.invokevirtual 62, 3) := by decide +kernel
theorem d_law_meter_7 : decode (mz_c M_law_meter) 7 = .ok (.goto 7, 3) := by decide +kernel
theorem d_law_meter_10 : decode (mz_c M_law_meter) 10 = .ok (.astore 4, 2) := by decide +kernel
theorem d_law_meter_12 : decode (mz_c M_law_meter) 12 = .ok (.iconst 1, 1) := by decide +kernel
theorem d_law_meter_13 : decode (mz_c M_law_meter) 13 = .ok (.ireturn, 1) := by decide +kernel
theorem d_law_meter_14 : decode (mz_c M_law_meter) 14 = .ok (.iconst 0, 1) := by decide +kernel
theorem d_law_meter_15 : decode (mz_c M_law_meter) 15 = .ok (.ireturn, 1) := by decide +kernel
theorem d_law_balance_0 : decode (mz_c M_law_balance) 0 = .ok (.aload_n 3, 1) := by decide +kernel
theorem d_law_balance_1 : decode (mz_c M_law_balance) 1 = .ok (.iconst 0, 1) := by decide +kernel
theorem d_law_balance_2 : decode (mz_c M_law_balance) 2 = .ok (.aload_n 0, 1) := by decide +kernel
theorem d_law_balance_3 : decode (mz_c M_law_balance) 3 = .ok (.iload_n 1, 1) := by decide +kernel
theorem d_law_balance_4 : decode (mz_c M_law_balance) 4 = .ok (.iload_n 2, 1) := by decide +kernel
theorem d_law_balance_5 : decode (mz_c M_law_balance) 5 = .ok (.invokevirtual 66, 3) := by decide +kernel
theorem d_law_balance_8 : decode (mz_c M_law_balance) 8 = .ok (.lastore, 1) := by decide +kernel
theorem d_law_balance_9 : decode (mz_c M_law_balance) 9 = .ok (.goto 11, 3) := by decide +kernel
theorem d_law_balance_12 : decode (mz_c M_law_balance) 12 = .ok (.astore 4, 2) := by decide +kernel
theorem d_law_balance_14 : decode (mz_c M_law_balance) 14 = .ok (.iconst 1, 1) := by decide +kernel
theorem d_law_balance_15 : decode (mz_c M_law_balance) 15 = .ok (.ireturn, 1) := by decide +kernel
theorem d_law_balance_16 : decode (mz_c M_law_balance) 16 = .ok (.astore 4, 2) := by decide +kernel
theorem d_law_balance_18 : decode (mz_c M_law_balance) 18 = .ok (.iconst 2, 1) := by decide +kernel
theorem d_law_balance_19 : decode (mz_c M_law_balance) 19 = .ok (.ireturn, 1) := by decide +kernel
theorem d_law_balance_20 : decode (mz_c M_law_balance) 20 = .ok (.iconst 0, 1) := by decide +kernel
theorem d_law_balance_21 : decode (mz_c M_law_balance) 21 = .ok (.ireturn, 1) := by decide +kernel
theorem d_law_law_0 : decode (mz_c M_law_law) 0 = .ok (.new 8, 3) := by decide +kernel
theorem d_law_law_3 : decode (mz_c M_law_law) 3 = .ok (.dup, 1) := by decide +kernel
theorem d_law_law_4 : decode (mz_c M_law_law) 4 = .ok (.aload_n 0, 1) := by decide +kernel
theorem d_law_law_5 : decode (mz_c M_law_law) 5 = .ok (.iconst 0, 1) := by decide +kernel
theorem d_law_law_6 : decode (mz_c M_law_law) 6 = .ok (.invokestatic 70, 3) := by decide +kernel
theorem d_law_law_9 : decode (mz_c M_law_law) 9 = .ok (.invokespecial 76, 3) := by decide +kernel
theorem d_law_law_12 : decode (mz_c M_law_law) 12 = .ok (.astore_n 1, 1) := by decide +kernel
theorem d_law_law_13 : decode (mz_c M_law_law) 13 = .ok (.new 78, 3) := by decide +kernel
theorem d_law_law_16 : decode (mz_c M_law_law) 16 = .ok (.dup, 1) := by decide +kernel
theorem d_law_law_17 : decode (mz_c M_law_law) 17 = .ok (.aload_n 0, 1) := by decide +kernel
theorem d_law_law_18 : decode (mz_c M_law_law) 18 = .ok (.iconst 0, 1) := by decide +kernel
theorem d_law_law_19 : decode (mz_c M_law_law) 19 = .ok (.invokestatic 70, 3) := by decide +kernel
theorem d_law_law_22 : decode (mz_c M_law_law) 22 = .ok (.invokespecial 80, 3) := by decide +kernel
theorem d_law_law_25 : decode (mz_c M_law_law) 25 = .ok (.astore_n 2, 1) := by decide +kernel
theorem d_law_law_26 : decode (mz_c M_law_law) 26 = .ok (.iconst 1, 1) := by decide +kernel
theorem d_law_law_27 : decode (mz_c M_law_law) 27 = .ok (.newarray .long, 2) := by decide +kernel
theorem d_law_law_29 : decode (mz_c M_law_law) 29 = .ok (.astore_n 3, 1) := by decide +kernel
theorem d_law_law_30 : decode (mz_c M_law_law) 30 = .ok (.iconst 1, 1) := by decide +kernel
theorem d_law_law_31 : decode (mz_c M_law_law) 31 = .ok (.istore 4, 2) := by decide +kernel
theorem d_law_law_33 : decode (mz_c M_law_law) 33 = .ok (.iload 4, 2) := by decide +kernel
theorem d_law_law_35 : decode (mz_c M_law_law) 35 = .ok (.aload_n 0, 1) := by decide +kernel
theorem d_law_law_36 : decode (mz_c M_law_law) 36 = .ok (.arraylength, 1) := by decide +kernel
theorem d_law_law_37 : decode (mz_c M_law_law) 37 = .ok (.bipush 7, 2) := by decide +kernel
theorem d_law_law_39 : decode (mz_c M_law_law) 39 = .ok (.isub, 1) := by decide +kernel
theorem d_law_law_40 : decode (mz_c M_law_law) 40 = .ok (.if_icmp .gt 1143, 3) := by decide +kernel
theorem d_law_law_43 : decode (mz_c M_law_law) 43 = .ok (.aload_n 0, 1) := by decide +kernel
theorem d_law_law_44 : decode (mz_c M_law_law) 44 = .ok (.iload 4, 2) := by decide +kernel
theorem d_law_law_46 : decode (mz_c M_law_law) 46 = .ok (.iaload, 1) := by decide +kernel
theorem d_law_law_47 : decode (mz_c M_law_law) 47 = .ok (.bipush 15, 2) := by decide +kernel
theorem d_law_law_49 : decode (mz_c M_law_law) 49 = .ok (.iand, 1) := by decide +kernel
theorem d_law_law_50 : decode (mz_c M_law_law) 50 = .ok (.tableswitch 1127 0 15 #[78, 126, 244, 362, 418, 454, 526, 570, 662, 718, 786, 854, 934, 989, 1049, 1116], 78) := by decide +kernel
theorem d_law_law_128 : decode (mz_c M_law_law) 128 = .ok (.aload_n 1, 1) := by decide +kernel
theorem d_law_law_129 : decode (mz_c M_law_law) 129 = .ok (.aload_n 0, 1) := by decide +kernel
theorem d_law_law_130 : decode (mz_c M_law_law) 130 = .ok (.iload 4, 2) := by decide +kernel
theorem d_law_law_132 : decode (mz_c M_law_law) 132 = .ok (.iconst 1, 1) := by decide +kernel
theorem d_law_law_133 : decode (mz_c M_law_law) 133 = .ok (.iadd, 1) := by decide +kernel
theorem d_law_law_134 : decode (mz_c M_law_law) 134 = .ok (.iaload, 1) := by decide +kernel
theorem d_law_law_135 : decode (mz_c M_law_law) 135 = .ok (.aload_n 0, 1) := by decide +kernel
theorem d_law_law_136 : decode (mz_c M_law_law) 136 = .ok (.iload 4, 2) := by decide +kernel
theorem d_law_law_138 : decode (mz_c M_law_law) 138 = .ok (.iconst 2, 1) := by decide +kernel
theorem d_law_law_139 : decode (mz_c M_law_law) 139 = .ok (.iadd, 1) := by decide +kernel
theorem d_law_law_140 : decode (mz_c M_law_law) 140 = .ok (.iaload, 1) := by decide +kernel
theorem d_law_law_141 : decode (mz_c M_law_law) 141 = .ok (.invokestatic 81, 3) := by decide +kernel
theorem d_law_law_144 : decode (mz_c M_law_law) 144 = .ok (.istore 5, 2) := by decide +kernel
theorem d_law_law_146 : decode (mz_c M_law_law) 146 = .ok (.aload_n 2, 1) := by decide +kernel
theorem d_law_law_147 : decode (mz_c M_law_law) 147 = .ok (.aload_n 0, 1) := by decide +kernel
theorem d_law_law_148 : decode (mz_c M_law_law) 148 = .ok (.iload 4, 2) := by decide +kernel
theorem d_law_law_150 : decode (mz_c M_law_law) 150 = .ok (.iconst 1, 1) := by decide +kernel
theorem d_law_law_151 : decode (mz_c M_law_law) 151 = .ok (.iadd, 1) := by decide +kernel
theorem d_law_law_152 : decode (mz_c M_law_law) 152 = .ok (.iaload, 1) := by decide +kernel
theorem d_law_law_153 : decode (mz_c M_law_law) 153 = .ok (.aload_n 0, 1) := by decide +kernel
theorem d_law_law_154 : decode (mz_c M_law_law) 154 = .ok (.iload 4, 2) := by decide +kernel
theorem d_law_law_156 : decode (mz_c M_law_law) 156 = .ok (.iconst 2, 1) := by decide +kernel
theorem d_law_law_157 : decode (mz_c M_law_law) 157 = .ok (.iadd, 1) := by decide +kernel
theorem d_law_law_158 : decode (mz_c M_law_law) 158 = .ok (.iaload, 1) := by decide +kernel
theorem d_law_law_159 : decode (mz_c M_law_law) 159 = .ok (.invokevirtual 84, 3) := by decide +kernel
theorem d_law_law_162 : decode (mz_c M_law_law) 162 = .ok (.aload_n 2, 1) := by decide +kernel
theorem d_law_law_163 : decode (mz_c M_law_law) 163 = .ok (.invokevirtual 85, 3) := by decide +kernel
theorem d_law_law_166 : decode (mz_c M_law_law) 166 = .ok (.iload 5, 2) := by decide +kernel
theorem d_law_law_168 : decode (mz_c M_law_law) 168 = .ok (.if_icmp .eq 5, 3) := by decide +kernel
theorem d_law_law_171 : decode (mz_c M_law_law) 171 = .ok (.iconst 0, 1) := by decide +kernel
theorem d_law_law_172 : decode (mz_c M_law_law) 172 = .ok (.ireturn, 1) := by decide +kernel
theorem d_law_law_173 : decode (mz_c M_law_law) 173 = .ok (.goto 1004, 3) := by decide +kernel
theorem d_law_law_176 : decode (mz_c M_law_law) 176 = .ok (.aload_n 1, 1) := by decide +kernel
theorem d_law_law_177 : decode (mz_c M_law_law) 177 = .ok (.aload_n 0, 1) := by decide +kernel
theorem d_law_law_178 : decode (mz_c M_law_law) 178 = .ok (.iload 4, 2) := by decide +kernel
theorem d_law_law_180 : decode (mz_c M_law_law) 180 = .ok (.iconst 1, 1) := by decide +kernel
theorem d_law_law_181 : decode (mz_c M_law_law) 181 = .ok (.iadd, 1) := by decide +kernel
theorem d_law_law_182 : decode (mz_c M_law_law) 182 = .ok (.iaload, 1) := by decide +kernel
theorem d_law_law_183 : decode (mz_c M_law_law) 183 = .ok (.aload_n 0, 1) := by decide +kernel
theorem d_law_law_184 : decode (mz_c M_law_law) 184 = .ok (.iload 4, 2) := by decide +kernel
theorem d_law_law_186 : decode (mz_c M_law_law) 186 = .ok (.iconst 2, 1) := by decide +kernel
theorem d_law_law_187 : decode (mz_c M_law_law) 187 = .ok (.iadd, 1) := by decide +kernel
theorem d_law_law_188 : decode (mz_c M_law_law) 188 = .ok (.iaload, 1) := by decide +kernel
theorem d_law_law_189 : decode (mz_c M_law_law) 189 = .ok (.aload_n 0, 1) := by decide +kernel
theorem d_law_law_190 : decode (mz_c M_law_law) 190 = .ok (.iload 4, 2) := by decide +kernel
theorem d_law_law_192 : decode (mz_c M_law_law) 192 = .ok (.iconst 3, 1) := by decide +kernel
theorem d_law_law_193 : decode (mz_c M_law_law) 193 = .ok (.iadd, 1) := by decide +kernel
theorem d_law_law_194 : decode (mz_c M_law_law) 194 = .ok (.iaload, 1) := by decide +kernel
theorem d_law_law_195 : decode (mz_c M_law_law) 195 = .ok (.aload_n 0, 1) := by decide +kernel
theorem d_law_law_196 : decode (mz_c M_law_law) 196 = .ok (.iload 4, 2) := by decide +kernel
theorem d_law_law_198 : decode (mz_c M_law_law) 198 = .ok (.iconst 4, 1) := by decide +kernel
theorem d_law_law_199 : decode (mz_c M_law_law) 199 = .ok (.iadd, 1) := by decide +kernel
theorem d_law_law_200 : decode (mz_c M_law_law) 200 = .ok (.iaload, 1) := by decide +kernel
theorem d_law_law_201 : decode (mz_c M_law_law) 201 = .ok (.aload_n 0, 1) := by decide +kernel
theorem d_law_law_202 : decode (mz_c M_law_law) 202 = .ok (.iload 4, 2) := by decide +kernel
theorem d_law_law_204 : decode (mz_c M_law_law) 204 = .ok (.iconst 5, 1) := by decide +kernel
theorem d_law_law_205 : decode (mz_c M_law_law) 205 = .ok (.iadd, 1) := by decide +kernel
theorem d_law_law_206 : decode (mz_c M_law_law) 206 = .ok (.iaload, 1) := by decide +kernel
theorem d_law_law_207 : decode (mz_c M_law_law) 207 = .ok (.aload_n 0, 1) := by decide +kernel
theorem d_law_law_208 : decode (mz_c M_law_law) 208 = .ok (.iload 4, 2) := by decide +kernel
theorem d_law_law_210 : decode (mz_c M_law_law) 210 = .ok (.bipush 6, 2) := by decide +kernel
theorem d_law_law_212 : decode (mz_c M_law_law) 212 = .ok (.iadd, 1) := by decide +kernel
theorem d_law_law_213 : decode (mz_c M_law_law) 213 = .ok (.iaload, 1) := by decide +kernel
theorem d_law_law_214 : decode (mz_c M_law_law) 214 = .ok (.aload_n 3, 1) := by decide +kernel
theorem d_law_law_215 : decode (mz_c M_law_law) 215 = .ok (.invokestatic 88, 3) := by decide +kernel
theorem d_law_law_218 : decode (mz_c M_law_law) 218 = .ok (.istore 5, 2) := by decide +kernel
theorem d_law_law_220 : decode (mz_c M_law_law) 220 = .ok (.aload_n 2, 1) := by decide +kernel
theorem d_law_law_221 : decode (mz_c M_law_law) 221 = .ok (.aload_n 0, 1) := by decide +kernel
theorem d_law_law_222 : decode (mz_c M_law_law) 222 = .ok (.iload 4, 2) := by decide +kernel
theorem d_law_law_224 : decode (mz_c M_law_law) 224 = .ok (.iconst 1, 1) := by decide +kernel
theorem d_law_law_225 : decode (mz_c M_law_law) 225 = .ok (.iadd, 1) := by decide +kernel
theorem d_law_law_226 : decode (mz_c M_law_law) 226 = .ok (.iaload, 1) := by decide +kernel
theorem d_law_law_227 : decode (mz_c M_law_law) 227 = .ok (.aload_n 0, 1) := by decide +kernel
theorem d_law_law_228 : decode (mz_c M_law_law) 228 = .ok (.iload 4, 2) := by decide +kernel
theorem d_law_law_230 : decode (mz_c M_law_law) 230 = .ok (.iconst 2, 1) := by decide +kernel
theorem d_law_law_231 : decode (mz_c M_law_law) 231 = .ok (.iadd, 1) := by decide +kernel
theorem d_law_law_232 : decode (mz_c M_law_law) 232 = .ok (.iaload, 1) := by decide +kernel
theorem d_law_law_233 : decode (mz_c M_law_law) 233 = .ok (.aload_n 0, 1) := by decide +kernel
theorem d_law_law_234 : decode (mz_c M_law_law) 234 = .ok (.iload 4, 2) := by decide +kernel
theorem d_law_law_236 : decode (mz_c M_law_law) 236 = .ok (.iconst 3, 1) := by decide +kernel
theorem d_law_law_237 : decode (mz_c M_law_law) 237 = .ok (.iadd, 1) := by decide +kernel
theorem d_law_law_238 : decode (mz_c M_law_law) 238 = .ok (.iaload, 1) := by decide +kernel
theorem d_law_law_239 : decode (mz_c M_law_law) 239 = .ok (.aload_n 0, 1) := by decide +kernel
theorem d_law_law_240 : decode (mz_c M_law_law) 240 = .ok (.iload 4, 2) := by decide +kernel
theorem d_law_law_242 : decode (mz_c M_law_law) 242 = .ok (.iconst 4, 1) := by decide +kernel
theorem d_law_law_243 : decode (mz_c M_law_law) 243 = .ok (.iadd, 1) := by decide +kernel
theorem d_law_law_244 : decode (mz_c M_law_law) 244 = .ok (.iaload, 1) := by decide +kernel
theorem d_law_law_245 : decode (mz_c M_law_law) 245 = .ok (.aload_n 0, 1) := by decide +kernel
theorem d_law_law_246 : decode (mz_c M_law_law) 246 = .ok (.iload 4, 2) := by decide +kernel
theorem d_law_law_248 : decode (mz_c M_law_law) 248 = .ok (.iconst 5, 1) := by decide +kernel
theorem d_law_law_249 : decode (mz_c M_law_law) 249 = .ok (.iadd, 1) := by decide +kernel
theorem d_law_law_250 : decode (mz_c M_law_law) 250 = .ok (.iaload, 1) := by decide +kernel
theorem d_law_law_251 : decode (mz_c M_law_law) 251 = .ok (.aload_n 0, 1) := by decide +kernel
theorem d_law_law_252 : decode (mz_c M_law_law) 252 = .ok (.iload 4, 2) := by decide +kernel
theorem d_law_law_254 : decode (mz_c M_law_law) 254 = .ok (.bipush 6, 2) := by decide +kernel
theorem d_law_law_256 : decode (mz_c M_law_law) 256 = .ok (.iadd, 1) := by decide +kernel
theorem d_law_law_257 : decode (mz_c M_law_law) 257 = .ok (.iaload, 1) := by decide +kernel
theorem d_law_law_258 : decode (mz_c M_law_law) 258 = .ok (.invokevirtual 91, 3) := by decide +kernel
theorem d_law_law_261 : decode (mz_c M_law_law) 261 = .ok (.istore 6, 2) := by decide +kernel
theorem d_law_law_263 : decode (mz_c M_law_law) 263 = .ok (.aload_n 2, 1) := by decide +kernel
theorem d_law_law_264 : decode (mz_c M_law_law) 264 = .ok (.invokevirtual 85, 3) := by decide +kernel
theorem d_law_law_267 : decode (mz_c M_law_law) 267 = .ok (.iload 5, 2) := by decide +kernel
theorem d_law_law_269 : decode (mz_c M_law_law) 269 = .ok (.if_icmp .eq 5, 3) := by decide +kernel
theorem d_law_law_272 : decode (mz_c M_law_law) 272 = .ok (.iconst 0, 1) := by decide +kernel
theorem d_law_law_273 : decode (mz_c M_law_law) 273 = .ok (.ireturn, 1) := by decide +kernel
theorem d_law_law_274 : decode (mz_c M_law_law) 274 = .ok (.iload 5, 2) := by decide +kernel
theorem d_law_law_276 : decode (mz_c M_law_law) 276 = .ok (.ifCond .ne 15, 3) := by decide +kernel
theorem d_law_law_279 : decode (mz_c M_law_law) 279 = .ok (.aload_n 3, 1) := by decide +kernel
theorem d_law_law_280 : decode (mz_c M_law_law) 280 = .ok (.iconst 0, 1) := by decide +kernel
theorem d_law_law_281 : decode (mz_c M_law_law) 281 = .ok (.laload, 1) := by decide +kernel
theorem d_law_law_282 : decode (mz_c M_law_law) 282 = .ok (.iload 6, 2) := by decide +kernel
theorem d_law_law_284 : decode (mz_c M_law_law) 284 = .ok (.i2l, 1) := by decide +kernel
theorem d_law_law_285 : decode (mz_c M_law_law) 285 = .ok (.lcmp, 1) := by decide +kernel
theorem d_law_law_286 : decode (mz_c M_law_law) 286 = .ok (.ifCond .eq 5, 3) := by decide +kernel
theorem d_law_law_289 : decode (mz_c M_law_law) 289 = .ok (.iconst 0, 1) := by decide +kernel
theorem d_law_law_290 : decode (mz_c M_law_law) 290 = .ok (.ireturn, 1) := by decide +kernel
theorem d_law_law_291 : decode (mz_c M_law_law) 291 = .ok (.goto 886, 3) := by decide +kernel
theorem d_law_law_294 : decode (mz_c M_law_law) 294 = .ok (.aload_n 1, 1) := by decide +kernel
theorem d_law_law_295 : decode (mz_c M_law_law) 295 = .ok (.aload_n 0, 1) := by decide +kernel
theorem d_law_law_296 : decode (mz_c M_law_law) 296 = .ok (.iload 4, 2) := by decide +kernel
theorem d_law_law_298 : decode (mz_c M_law_law) 298 = .ok (.iconst 1, 1) := by decide +kernel
theorem d_law_law_299 : decode (mz_c M_law_law) 299 = .ok (.iadd, 1) := by decide +kernel
theorem d_law_law_300 : decode (mz_c M_law_law) 300 = .ok (.iaload, 1) := by decide +kernel
theorem d_law_law_301 : decode (mz_c M_law_law) 301 = .ok (.aload_n 0, 1) := by decide +kernel
theorem d_law_law_302 : decode (mz_c M_law_law) 302 = .ok (.iload 4, 2) := by decide +kernel
theorem d_law_law_304 : decode (mz_c M_law_law) 304 = .ok (.iconst 2, 1) := by decide +kernel
theorem d_law_law_305 : decode (mz_c M_law_law) 305 = .ok (.iadd, 1) := by decide +kernel
theorem d_law_law_306 : decode (mz_c M_law_law) 306 = .ok (.iaload, 1) := by decide +kernel
theorem d_law_law_307 : decode (mz_c M_law_law) 307 = .ok (.aload_n 0, 1) := by decide +kernel
theorem d_law_law_308 : decode (mz_c M_law_law) 308 = .ok (.iload 4, 2) := by decide +kernel
theorem d_law_law_310 : decode (mz_c M_law_law) 310 = .ok (.iconst 3, 1) := by decide +kernel
theorem d_law_law_311 : decode (mz_c M_law_law) 311 = .ok (.iadd, 1) := by decide +kernel
theorem d_law_law_312 : decode (mz_c M_law_law) 312 = .ok (.iaload, 1) := by decide +kernel
theorem d_law_law_313 : decode (mz_c M_law_law) 313 = .ok (.aload_n 0, 1) := by decide +kernel
theorem d_law_law_314 : decode (mz_c M_law_law) 314 = .ok (.iload 4, 2) := by decide +kernel
theorem d_law_law_316 : decode (mz_c M_law_law) 316 = .ok (.iconst 4, 1) := by decide +kernel
theorem d_law_law_317 : decode (mz_c M_law_law) 317 = .ok (.iadd, 1) := by decide +kernel
theorem d_law_law_318 : decode (mz_c M_law_law) 318 = .ok (.iaload, 1) := by decide +kernel
theorem d_law_law_319 : decode (mz_c M_law_law) 319 = .ok (.aload_n 0, 1) := by decide +kernel
theorem d_law_law_320 : decode (mz_c M_law_law) 320 = .ok (.iload 4, 2) := by decide +kernel
theorem d_law_law_322 : decode (mz_c M_law_law) 322 = .ok (.iconst 5, 1) := by decide +kernel
theorem d_law_law_323 : decode (mz_c M_law_law) 323 = .ok (.iadd, 1) := by decide +kernel
theorem d_law_law_324 : decode (mz_c M_law_law) 324 = .ok (.iaload, 1) := by decide +kernel
theorem d_law_law_325 : decode (mz_c M_law_law) 325 = .ok (.aload_n 0, 1) := by decide +kernel
theorem d_law_law_326 : decode (mz_c M_law_law) 326 = .ok (.iload 4, 2) := by decide +kernel
theorem d_law_law_328 : decode (mz_c M_law_law) 328 = .ok (.bipush 6, 2) := by decide +kernel
theorem d_law_law_330 : decode (mz_c M_law_law) 330 = .ok (.iadd, 1) := by decide +kernel
theorem d_law_law_331 : decode (mz_c M_law_law) 331 = .ok (.iaload, 1) := by decide +kernel
theorem d_law_law_332 : decode (mz_c M_law_law) 332 = .ok (.aload_n 3, 1) := by decide +kernel
theorem d_law_law_333 : decode (mz_c M_law_law) 333 = .ok (.invokestatic 92, 3) := by decide +kernel
theorem d_law_law_336 : decode (mz_c M_law_law) 336 = .ok (.istore 5, 2) := by decide +kernel
theorem d_law_law_338 : decode (mz_c M_law_law) 338 = .ok (.aload_n 2, 1) := by decide +kernel
theorem d_law_law_339 : decode (mz_c M_law_law) 339 = .ok (.aload_n 0, 1) := by decide +kernel
theorem d_law_law_340 : decode (mz_c M_law_law) 340 = .ok (.iload 4, 2) := by decide +kernel
theorem d_law_law_342 : decode (mz_c M_law_law) 342 = .ok (.iconst 1, 1) := by decide +kernel
theorem d_law_law_343 : decode (mz_c M_law_law) 343 = .ok (.iadd, 1) := by decide +kernel
theorem d_law_law_344 : decode (mz_c M_law_law) 344 = .ok (.iaload, 1) := by decide +kernel
theorem d_law_law_345 : decode (mz_c M_law_law) 345 = .ok (.aload_n 0, 1) := by decide +kernel
theorem d_law_law_346 : decode (mz_c M_law_law) 346 = .ok (.iload 4, 2) := by decide +kernel
theorem d_law_law_348 : decode (mz_c M_law_law) 348 = .ok (.iconst 2, 1) := by decide +kernel
theorem d_law_law_349 : decode (mz_c M_law_law) 349 = .ok (.iadd, 1) := by decide +kernel
theorem d_law_law_350 : decode (mz_c M_law_law) 350 = .ok (.iaload, 1) := by decide +kernel
theorem d_law_law_351 : decode (mz_c M_law_law) 351 = .ok (.aload_n 0, 1) := by decide +kernel
theorem d_law_law_352 : decode (mz_c M_law_law) 352 = .ok (.iload 4, 2) := by decide +kernel
theorem d_law_law_354 : decode (mz_c M_law_law) 354 = .ok (.iconst 3, 1) := by decide +kernel
theorem d_law_law_355 : decode (mz_c M_law_law) 355 = .ok (.iadd, 1) := by decide +kernel
theorem d_law_law_356 : decode (mz_c M_law_law) 356 = .ok (.iaload, 1) := by decide +kernel
theorem d_law_law_357 : decode (mz_c M_law_law) 357 = .ok (.aload_n 0, 1) := by decide +kernel
theorem d_law_law_358 : decode (mz_c M_law_law) 358 = .ok (.iload 4, 2) := by decide +kernel
theorem d_law_law_360 : decode (mz_c M_law_law) 360 = .ok (.iconst 4, 1) := by decide +kernel
theorem d_law_law_361 : decode (mz_c M_law_law) 361 = .ok (.iadd, 1) := by decide +kernel
theorem d_law_law_362 : decode (mz_c M_law_law) 362 = .ok (.iaload, 1) := by decide +kernel
theorem d_law_law_363 : decode (mz_c M_law_law) 363 = .ok (.aload_n 0, 1) := by decide +kernel
theorem d_law_law_364 : decode (mz_c M_law_law) 364 = .ok (.iload 4, 2) := by decide +kernel
theorem d_law_law_366 : decode (mz_c M_law_law) 366 = .ok (.iconst 5, 1) := by decide +kernel
theorem d_law_law_367 : decode (mz_c M_law_law) 367 = .ok (.iadd, 1) := by decide +kernel
theorem d_law_law_368 : decode (mz_c M_law_law) 368 = .ok (.iaload, 1) := by decide +kernel
theorem d_law_law_369 : decode (mz_c M_law_law) 369 = .ok (.aload_n 0, 1) := by decide +kernel
theorem d_law_law_370 : decode (mz_c M_law_law) 370 = .ok (.iload 4, 2) := by decide +kernel
theorem d_law_law_372 : decode (mz_c M_law_law) 372 = .ok (.bipush 6, 2) := by decide +kernel
theorem d_law_law_374 : decode (mz_c M_law_law) 374 = .ok (.iadd, 1) := by decide +kernel
theorem d_law_law_375 : decode (mz_c M_law_law) 375 = .ok (.iaload, 1) := by decide +kernel
theorem d_law_law_376 : decode (mz_c M_law_law) 376 = .ok (.invokevirtual 94, 3) := by decide +kernel
theorem d_law_law_379 : decode (mz_c M_law_law) 379 = .ok (.istore 6, 2) := by decide +kernel
theorem d_law_law_381 : decode (mz_c M_law_law) 381 = .ok (.aload_n 2, 1) := by decide +kernel
theorem d_law_law_382 : decode (mz_c M_law_law) 382 = .ok (.invokevirtual 85, 3) := by decide +kernel
theorem d_law_law_385 : decode (mz_c M_law_law) 385 = .ok (.iload 5, 2) := by decide +kernel
theorem d_law_law_387 : decode (mz_c M_law_law) 387 = .ok (.if_icmp .eq 5, 3) := by decide +kernel
theorem d_law_law_390 : decode (mz_c M_law_law) 390 = .ok (.iconst 0, 1) := by decide +kernel
theorem d_law_law_391 : decode (mz_c M_law_law) 391 = .ok (.ireturn, 1) := by decide +kernel
theorem d_law_law_392 : decode (mz_c M_law_law) 392 = .ok (.iload 5, 2) := by decide +kernel
theorem d_law_law_394 : decode (mz_c M_law_law) 394 = .ok (.ifCond .ne 15, 3) := by decide +kernel
theorem d_law_law_397 : decode (mz_c M_law_law) 397 = .ok (.aload_n 3, 1) := by decide +kernel
theorem d_law_law_398 : decode (mz_c M_law_law) 398 = .ok (.iconst 0, 1) := by decide +kernel
theorem d_law_law_399 : decode (mz_c M_law_law) 399 = .ok (.laload, 1) := by decide +kernel
theorem d_law_law_400 : decode (mz_c M_law_law) 400 = .ok (.iload 6, 2) := by decide +kernel
theorem d_law_law_402 : decode (mz_c M_law_law) 402 = .ok (.i2l, 1) := by decide +kernel
theorem d_law_law_403 : decode (mz_c M_law_law) 403 = .ok (.lcmp, 1) := by decide +kernel
theorem d_law_law_404 : decode (mz_c M_law_law) 404 = .ok (.ifCond .eq 5, 3) := by decide +kernel
theorem d_law_law_407 : decode (mz_c M_law_law) 407 = .ok (.iconst 0, 1) := by decide +kernel
theorem d_law_law_408 : decode (mz_c M_law_law) 408 = .ok (.ireturn, 1) := by decide +kernel
theorem d_law_law_409 : decode (mz_c M_law_law) 409 = .ok (.goto 768, 3) := by decide +kernel
theorem d_law_law_412 : decode (mz_c M_law_law) 412 = .ok (.aload_n 1, 1) := by decide +kernel
theorem d_law_law_413 : decode (mz_c M_law_law) 413 = .ok (.aload_n 0, 1) := by decide +kernel
theorem d_law_law_414 : decode (mz_c M_law_law) 414 = .ok (.iload 4, 2) := by decide +kernel
theorem d_law_law_416 : decode (mz_c M_law_law) 416 = .ok (.iconst 1, 1) := by decide +kernel
theorem d_law_law_417 : decode (mz_c M_law_law) 417 = .ok (.iadd, 1) := by decide +kernel
theorem d_law_law_418 : decode (mz_c M_law_law) 418 = .ok (.iaload, 1) := by decide +kernel
theorem d_law_law_419 : decode (mz_c M_law_law) 419 = .ok (.aload_n 3, 1) := by decide +kernel
theorem d_law_law_420 : decode (mz_c M_law_law) 420 = .ok (.invokestatic 95, 3) := by decide +kernel
theorem d_law_law_423 : decode (mz_c M_law_law) 423 = .ok (.istore 5, 2) := by decide +kernel
theorem d_law_law_425 : decode (mz_c M_law_law) 425 = .ok (.aload_n 2, 1) := by decide +kernel
theorem d_law_law_426 : decode (mz_c M_law_law) 426 = .ok (.aload_n 0, 1) := by decide +kernel
theorem d_law_law_427 : decode (mz_c M_law_law) 427 = .ok (.iload 4, 2) := by decide +kernel
theorem d_law_law_429 : decode (mz_c M_law_law) 429 = .ok (.iconst 1, 1) := by decide +kernel
theorem d_law_law_430 : decode (mz_c M_law_law) 430 = .ok (.iadd, 1) := by decide +kernel
theorem d_law_law_431 : decode (mz_c M_law_law) 431 = .ok (.iaload, 1) := by decide +kernel
theorem d_law_law_432 : decode (mz_c M_law_law) 432 = .ok (.invokevirtual 98, 3) := by decide +kernel
theorem d_law_law_435 : decode (mz_c M_law_law) 435 = .ok (.istore 6, 2) := by decide +kernel
theorem d_law_law_437 : decode (mz_c M_law_law) 437 = .ok (.aload_n 2, 1) := by decide +kernel
theorem d_law_law_438 : decode (mz_c M_law_law) 438 = .ok (.invokevirtual 85, 3) := by decide +kernel
theorem d_law_law_441 : decode (mz_c M_law_law) 441 = .ok (.iload 5, 2) := by decide +kernel
theorem d_law_law_443 : decode (mz_c M_law_law) 443 = .ok (.if_icmp .eq 5, 3) := by decide +kernel
theorem d_law_law_446 : decode (mz_c M_law_law) 446 = .ok (.iconst 0, 1) := by decide +kernel
theorem d_law_law_447 : decode (mz_c M_law_law) 447 = .ok (.ireturn, 1) := by decide +kernel
theorem d_law_law_448 : decode (mz_c M_law_law) 448 = .ok (.iload 5, 2) := by decide +kernel
theorem d_law_law_450 : decode (mz_c M_law_law) 450 = .ok (.ifCond .ne 15, 3) := by decide +kernel
theorem d_law_law_453 : decode (mz_c M_law_law) 453 = .ok (.aload_n 3, 1) := by decide +kernel
theorem d_law_law_454 : decode (mz_c M_law_law) 454 = .ok (.iconst 0, 1) := by decide +kernel
theorem d_law_law_455 : decode (mz_c M_law_law) 455 = .ok (.laload, 1) := by decide +kernel
theorem d_law_law_456 : decode (mz_c M_law_law) 456 = .ok (.iload 6, 2) := by decide +kernel
theorem d_law_law_458 : decode (mz_c M_law_law) 458 = .ok (.i2l, 1) := by decide +kernel
theorem d_law_law_459 : decode (mz_c M_law_law) 459 = .ok (.lcmp, 1) := by decide +kernel
theorem d_law_law_460 : decode (mz_c M_law_law) 460 = .ok (.ifCond .eq 5, 3) := by decide +kernel
theorem d_law_law_463 : decode (mz_c M_law_law) 463 = .ok (.iconst 0, 1) := by decide +kernel
theorem d_law_law_464 : decode (mz_c M_law_law) 464 = .ok (.ireturn, 1) := by decide +kernel
theorem d_law_law_465 : decode (mz_c M_law_law) 465 = .ok (.goto 712, 3) := by decide +kernel
theorem d_law_law_468 : decode (mz_c M_law_law) 468 = .ok (.aload_n 1, 1) := by decide +kernel
theorem d_law_law_469 : decode (mz_c M_law_law) 469 = .ok (.aload_n 0, 1) := by decide +kernel
theorem d_law_law_470 : decode (mz_c M_law_law) 470 = .ok (.iload 4, 2) := by decide +kernel
theorem d_law_law_472 : decode (mz_c M_law_law) 472 = .ok (.iconst 1, 1) := by decide +kernel
theorem d_law_law_473 : decode (mz_c M_law_law) 473 = .ok (.iadd, 1) := by decide +kernel
theorem d_law_law_474 : decode (mz_c M_law_law) 474 = .ok (.iaload, 1) := by decide +kernel
theorem d_law_law_475 : decode (mz_c M_law_law) 475 = .ok (.invokestatic 99, 3) := by decide +kernel
theorem d_law_law_478 : decode (mz_c M_law_law) 478 = .ok (.istore 5, 2) := by decide +kernel
theorem d_law_law_480 : decode (mz_c M_law_law) 480 = .ok (.aload_n 2, 1) := by decide +kernel
theorem d_law_law_481 : decode (mz_c M_law_law) 481 = .ok (.aload_n 0, 1) := by decide +kernel
theorem d_law_law_482 : decode (mz_c M_law_law) 482 = .ok (.iload 4, 2) := by decide +kernel
theorem d_law_law_484 : decode (mz_c M_law_law) 484 = .ok (.iconst 1, 1) := by decide +kernel
theorem d_law_law_485 : decode (mz_c M_law_law) 485 = .ok (.iadd, 1) := by decide +kernel
theorem d_law_law_486 : decode (mz_c M_law_law) 486 = .ok (.iaload, 1) := by decide +kernel
theorem d_law_law_487 : decode (mz_c M_law_law) 487 = .ok (.invokevirtual 102, 3) := by decide +kernel
theorem d_law_law_490 : decode (mz_c M_law_law) 490 = .ok (.aload_n 2, 1) := by decide +kernel
theorem d_law_law_491 : decode (mz_c M_law_law) 491 = .ok (.invokevirtual 85, 3) := by decide +kernel
theorem d_law_law_494 : decode (mz_c M_law_law) 494 = .ok (.iload 5, 2) := by decide +kernel
theorem d_law_law_496 : decode (mz_c M_law_law) 496 = .ok (.if_icmp .eq 5, 3) := by decide +kernel
theorem d_law_law_499 : decode (mz_c M_law_law) 499 = .ok (.iconst 0, 1) := by decide +kernel
theorem d_law_law_500 : decode (mz_c M_law_law) 500 = .ok (.ireturn, 1) := by decide +kernel
theorem d_law_law_501 : decode (mz_c M_law_law) 501 = .ok (.goto 676, 3) := by decide +kernel
theorem d_law_law_504 : decode (mz_c M_law_law) 504 = .ok (.aload_n 1, 1) := by decide +kernel
theorem d_law_law_505 : decode (mz_c M_law_law) 505 = .ok (.aload_n 0, 1) := by decide +kernel
theorem d_law_law_506 : decode (mz_c M_law_law) 506 = .ok (.iload 4, 2) := by decide +kernel
theorem d_law_law_508 : decode (mz_c M_law_law) 508 = .ok (.iconst 1, 1) := by decide +kernel
theorem d_law_law_509 : decode (mz_c M_law_law) 509 = .ok (.iadd, 1) := by decide +kernel
theorem d_law_law_510 : decode (mz_c M_law_law) 510 = .ok (.iaload, 1) := by decide +kernel
theorem d_law_law_511 : decode (mz_c M_law_law) 511 = .ok (.aload_n 0, 1) := by decide +kernel
theorem d_law_law_512 : decode (mz_c M_law_law) 512 = .ok (.iload 4, 2) := by decide +kernel
theorem d_law_law_514 : decode (mz_c M_law_law) 514 = .ok (.iconst 2, 1) := by decide +kernel
theorem d_law_law_515 : decode (mz_c M_law_law) 515 = .ok (.iadd, 1) := by decide +kernel
theorem d_law_law_516 : decode (mz_c M_law_law) 516 = .ok (.iaload, 1) := by decide +kernel
theorem d_law_law_517 : decode (mz_c M_law_law) 517 = .ok (.aload_n 0, 1) := by decide +kernel
theorem d_law_law_518 : decode (mz_c M_law_law) 518 = .ok (.iload 4, 2) := by decide +kernel
theorem d_law_law_520 : decode (mz_c M_law_law) 520 = .ok (.iconst 3, 1) := by decide +kernel
theorem d_law_law_521 : decode (mz_c M_law_law) 521 = .ok (.iadd, 1) := by decide +kernel
theorem d_law_law_522 : decode (mz_c M_law_law) 522 = .ok (.iaload, 1) := by decide +kernel
theorem d_law_law_523 : decode (mz_c M_law_law) 523 = .ok (.aload_n 0, 1) := by decide +kernel
theorem d_law_law_524 : decode (mz_c M_law_law) 524 = .ok (.iload 4, 2) := by decide +kernel
theorem d_law_law_526 : decode (mz_c M_law_law) 526 = .ok (.iconst 4, 1) := by decide +kernel
theorem d_law_law_527 : decode (mz_c M_law_law) 527 = .ok (.iadd, 1) := by decide +kernel
theorem d_law_law_528 : decode (mz_c M_law_law) 528 = .ok (.iaload, 1) := by decide +kernel
theorem d_law_law_529 : decode (mz_c M_law_law) 529 = .ok (.invokestatic 103, 3) := by decide +kernel
theorem d_law_law_532 : decode (mz_c M_law_law) 532 = .ok (.istore 5, 2) := by decide +kernel
theorem d_law_law_534 : decode (mz_c M_law_law) 534 = .ok (.aload_n 2, 1) := by decide +kernel
theorem d_law_law_535 : decode (mz_c M_law_law) 535 = .ok (.aload_n 0, 1) := by decide +kernel
theorem d_law_law_536 : decode (mz_c M_law_law) 536 = .ok (.iload 4, 2) := by decide +kernel
theorem d_law_law_538 : decode (mz_c M_law_law) 538 = .ok (.iconst 1, 1) := by decide +kernel
theorem d_law_law_539 : decode (mz_c M_law_law) 539 = .ok (.iadd, 1) := by decide +kernel
theorem d_law_law_540 : decode (mz_c M_law_law) 540 = .ok (.iaload, 1) := by decide +kernel
theorem d_law_law_541 : decode (mz_c M_law_law) 541 = .ok (.aload_n 0, 1) := by decide +kernel
theorem d_law_law_542 : decode (mz_c M_law_law) 542 = .ok (.iload 4, 2) := by decide +kernel
theorem d_law_law_544 : decode (mz_c M_law_law) 544 = .ok (.iconst 2, 1) := by decide +kernel
theorem d_law_law_545 : decode (mz_c M_law_law) 545 = .ok (.iadd, 1) := by decide +kernel
theorem d_law_law_546 : decode (mz_c M_law_law) 546 = .ok (.iaload, 1) := by decide +kernel
theorem d_law_law_547 : decode (mz_c M_law_law) 547 = .ok (.aload_n 0, 1) := by decide +kernel
theorem d_law_law_548 : decode (mz_c M_law_law) 548 = .ok (.iload 4, 2) := by decide +kernel
theorem d_law_law_550 : decode (mz_c M_law_law) 550 = .ok (.iconst 3, 1) := by decide +kernel
theorem d_law_law_551 : decode (mz_c M_law_law) 551 = .ok (.iadd, 1) := by decide +kernel
theorem d_law_law_552 : decode (mz_c M_law_law) 552 = .ok (.iaload, 1) := by decide +kernel
theorem d_law_law_553 : decode (mz_c M_law_law) 553 = .ok (.aload_n 0, 1) := by decide +kernel
theorem d_law_law_554 : decode (mz_c M_law_law) 554 = .ok (.iload 4, 2) := by decide +kernel
theorem d_law_law_556 : decode (mz_c M_law_law) 556 = .ok (.iconst 4, 1) := by decide +kernel
theorem d_law_law_557 : decode (mz_c M_law_law) 557 = .ok (.iadd, 1) := by decide +kernel
theorem d_law_law_558 : decode (mz_c M_law_law) 558 = .ok (.iaload, 1) := by decide +kernel
theorem d_law_law_559 : decode (mz_c M_law_law) 559 = .ok (.invokevirtual 106, 3) := by decide +kernel
theorem d_law_law_562 : decode (mz_c M_law_law) 562 = .ok (.aload_n 2, 1) := by decide +kernel
theorem d_law_law_563 : decode (mz_c M_law_law) 563 = .ok (.invokevirtual 85, 3) := by decide +kernel
theorem d_law_law_566 : decode (mz_c M_law_law) 566 = .ok (.iload 5, 2) := by decide +kernel
theorem d_law_law_568 : decode (mz_c M_law_law) 568 = .ok (.if_icmp .eq 5, 3) := by decide +kernel
theorem d_law_law_571 : decode (mz_c M_law_law) 571 = .ok (.iconst 0, 1) := by decide +kernel
theorem d_law_law_572 : decode (mz_c M_law_law) 572 = .ok (.ireturn, 1) := by decide +kernel
theorem d_law_law_573 : decode (mz_c M_law_law) 573 = .ok (.goto 604, 3) := by decide +kernel
theorem d_law_law_576 : decode (mz_c M_law_law) 576 = .ok (.aload_n 1, 1) := by decide +kernel
theorem d_law_law_577 : decode (mz_c M_law_law) 577 = .ok (.aload_n 3, 1) := by decide +kernel
theorem d_law_law_578 : decode (mz_c M_law_law) 578 = .ok (.invokestatic 107, 3) := by decide +kernel
theorem d_law_law_581 : decode (mz_c M_law_law) 581 = .ok (.istore 5, 2) := by decide +kernel
theorem d_law_law_583 : decode (mz_c M_law_law) 583 = .ok (.aload_n 2, 1) := by decide +kernel
theorem d_law_law_584 : decode (mz_c M_law_law) 584 = .ok (.invokevirtual 110, 3) := by decide +kernel
theorem d_law_law_587 : decode (mz_c M_law_law) 587 = .ok (.istore 6, 2) := by decide +kernel
theorem d_law_law_589 : decode (mz_c M_law_law) 589 = .ok (.aload_n 2, 1) := by decide +kernel
theorem d_law_law_590 : decode (mz_c M_law_law) 590 = .ok (.invokevirtual 85, 3) := by decide +kernel
theorem d_law_law_593 : decode (mz_c M_law_law) 593 = .ok (.iload 5, 2) := by decide +kernel
theorem d_law_law_595 : decode (mz_c M_law_law) 595 = .ok (.if_icmp .eq 5, 3) := by decide +kernel
theorem d_law_law_598 : decode (mz_c M_law_law) 598 = .ok (.iconst 0, 1) := by decide +kernel
theorem d_law_law_599 : decode (mz_c M_law_law) 599 = .ok (.ireturn, 1) := by decide +kernel
theorem d_law_law_600 : decode (mz_c M_law_law) 600 = .ok (.iload 5, 2) := by decide +kernel
theorem d_law_law_602 : decode (mz_c M_law_law) 602 = .ok (.ifCond .ne 15, 3) := by decide +kernel
theorem d_law_law_605 : decode (mz_c M_law_law) 605 = .ok (.aload_n 3, 1) := by decide +kernel
theorem d_law_law_606 : decode (mz_c M_law_law) 606 = .ok (.iconst 0, 1) := by decide +kernel
theorem d_law_law_607 : decode (mz_c M_law_law) 607 = .ok (.laload, 1) := by decide +kernel
theorem d_law_law_608 : decode (mz_c M_law_law) 608 = .ok (.iload 6, 2) := by decide +kernel
theorem d_law_law_610 : decode (mz_c M_law_law) 610 = .ok (.i2l, 1) := by decide +kernel
theorem d_law_law_611 : decode (mz_c M_law_law) 611 = .ok (.lcmp, 1) := by decide +kernel
theorem d_law_law_612 : decode (mz_c M_law_law) 612 = .ok (.ifCond .eq 5, 3) := by decide +kernel
theorem d_law_law_615 : decode (mz_c M_law_law) 615 = .ok (.iconst 0, 1) := by decide +kernel
theorem d_law_law_616 : decode (mz_c M_law_law) 616 = .ok (.ireturn, 1) := by decide +kernel
theorem d_law_law_617 : decode (mz_c M_law_law) 617 = .ok (.goto 560, 3) := by decide +kernel
theorem d_law_law_620 : decode (mz_c M_law_law) 620 = .ok (.aload_n 1, 1) := by decide +kernel
theorem d_law_law_621 : decode (mz_c M_law_law) 621 = .ok (.aload_n 0, 1) := by decide +kernel
theorem d_law_law_622 : decode (mz_c M_law_law) 622 = .ok (.iload 4, 2) := by decide +kernel
theorem d_law_law_624 : decode (mz_c M_law_law) 624 = .ok (.iconst 1, 1) := by decide +kernel
theorem d_law_law_625 : decode (mz_c M_law_law) 625 = .ok (.iadd, 1) := by decide +kernel
theorem d_law_law_626 : decode (mz_c M_law_law) 626 = .ok (.iaload, 1) := by decide +kernel
theorem d_law_law_627 : decode (mz_c M_law_law) 627 = .ok (.aload_n 0, 1) := by decide +kernel
theorem d_law_law_628 : decode (mz_c M_law_law) 628 = .ok (.iload 4, 2) := by decide +kernel
theorem d_law_law_630 : decode (mz_c M_law_law) 630 = .ok (.iconst 2, 1) := by decide +kernel
theorem d_law_law_631 : decode (mz_c M_law_law) 631 = .ok (.iadd, 1) := by decide +kernel
theorem d_law_law_632 : decode (mz_c M_law_law) 632 = .ok (.iaload, 1) := by decide +kernel
theorem d_law_law_633 : decode (mz_c M_law_law) 633 = .ok (.aload_n 0, 1) := by decide +kernel
theorem d_law_law_634 : decode (mz_c M_law_law) 634 = .ok (.iload 4, 2) := by decide +kernel
theorem d_law_law_636 : decode (mz_c M_law_law) 636 = .ok (.iconst 3, 1) := by decide +kernel
theorem d_law_law_637 : decode (mz_c M_law_law) 637 = .ok (.iadd, 1) := by decide +kernel
theorem d_law_law_638 : decode (mz_c M_law_law) 638 = .ok (.iaload, 1) := by decide +kernel
theorem d_law_law_639 : decode (mz_c M_law_law) 639 = .ok (.aload_n 0, 1) := by decide +kernel
theorem d_law_law_640 : decode (mz_c M_law_law) 640 = .ok (.iload 4, 2) := by decide +kernel
theorem d_law_law_642 : decode (mz_c M_law_law) 642 = .ok (.iconst 4, 1) := by decide +kernel
theorem d_law_law_643 : decode (mz_c M_law_law) 643 = .ok (.iadd, 1) := by decide +kernel
theorem d_law_law_644 : decode (mz_c M_law_law) 644 = .ok (.iaload, 1) := by decide +kernel
theorem d_law_law_645 : decode (mz_c M_law_law) 645 = .ok (.aload_n 3, 1) := by decide +kernel
theorem d_law_law_646 : decode (mz_c M_law_law) 646 = .ok (.invokestatic 111, 3) := by decide +kernel
theorem d_law_law_649 : decode (mz_c M_law_law) 649 = .ok (.istore 5, 2) := by decide +kernel
theorem d_law_law_651 : decode (mz_c M_law_law) 651 = .ok (.aload_n 2, 1) := by decide +kernel
theorem d_law_law_652 : decode (mz_c M_law_law) 652 = .ok (.aload_n 0, 1) := by decide +kernel
theorem d_law_law_653 : decode (mz_c M_law_law) 653 = .ok (.iload 4, 2) := by decide +kernel
theorem d_law_law_655 : decode (mz_c M_law_law) 655 = .ok (.iconst 1, 1) := by decide +kernel
theorem d_law_law_656 : decode (mz_c M_law_law) 656 = .ok (.iadd, 1) := by decide +kernel
theorem d_law_law_657 : decode (mz_c M_law_law) 657 = .ok (.iaload, 1) := by decide +kernel
theorem d_law_law_658 : decode (mz_c M_law_law) 658 = .ok (.aload_n 0, 1) := by decide +kernel
theorem d_law_law_659 : decode (mz_c M_law_law) 659 = .ok (.iload 4, 2) := by decide +kernel
theorem d_law_law_661 : decode (mz_c M_law_law) 661 = .ok (.iconst 2, 1) := by decide +kernel
theorem d_law_law_662 : decode (mz_c M_law_law) 662 = .ok (.iadd, 1) := by decide +kernel
theorem d_law_law_663 : decode (mz_c M_law_law) 663 = .ok (.iaload, 1) := by decide +kernel
theorem d_law_law_664 : decode (mz_c M_law_law) 664 = .ok (.aload_n 0, 1) := by decide +kernel
theorem d_law_law_665 : decode (mz_c M_law_law) 665 = .ok (.iload 4, 2) := by decide +kernel
theorem d_law_law_667 : decode (mz_c M_law_law) 667 = .ok (.iconst 3, 1) := by decide +kernel
theorem d_law_law_668 : decode (mz_c M_law_law) 668 = .ok (.iadd, 1) := by decide +kernel
theorem d_law_law_669 : decode (mz_c M_law_law) 669 = .ok (.iaload, 1) := by decide +kernel
theorem d_law_law_670 : decode (mz_c M_law_law) 670 = .ok (.aload_n 0, 1) := by decide +kernel
theorem d_law_law_671 : decode (mz_c M_law_law) 671 = .ok (.iload 4, 2) := by decide +kernel
theorem d_law_law_673 : decode (mz_c M_law_law) 673 = .ok (.iconst 4, 1) := by decide +kernel
theorem d_law_law_674 : decode (mz_c M_law_law) 674 = .ok (.iadd, 1) := by decide +kernel
theorem d_law_law_675 : decode (mz_c M_law_law) 675 = .ok (.iaload, 1) := by decide +kernel
theorem d_law_law_676 : decode (mz_c M_law_law) 676 = .ok (.invokevirtual 114, 3) := by decide +kernel
theorem d_law_law_679 : decode (mz_c M_law_law) 679 = .ok (.istore 6, 2) := by decide +kernel
theorem d_law_law_681 : decode (mz_c M_law_law) 681 = .ok (.aload_n 2, 1) := by decide +kernel
theorem d_law_law_682 : decode (mz_c M_law_law) 682 = .ok (.invokevirtual 85, 3) := by decide +kernel
theorem d_law_law_685 : decode (mz_c M_law_law) 685 = .ok (.iload 5, 2) := by decide +kernel
theorem d_law_law_687 : decode (mz_c M_law_law) 687 = .ok (.if_icmp .eq 5, 3) := by decide +kernel
theorem d_law_law_690 : decode (mz_c M_law_law) 690 = .ok (.iconst 0, 1) := by decide +kernel
theorem d_law_law_691 : decode (mz_c M_law_law) 691 = .ok (.ireturn, 1) := by decide +kernel
theorem d_law_law_692 : decode (mz_c M_law_law) 692 = .ok (.iload 5, 2) := by decide +kernel
theorem d_law_law_694 : decode (mz_c M_law_law) 694 = .ok (.ifCond .ne 15, 3) := by decide +kernel
theorem d_law_law_697 : decode (mz_c M_law_law) 697 = .ok (.aload_n 3, 1) := by decide +kernel
theorem d_law_law_698 : decode (mz_c M_law_law) 698 = .ok (.iconst 0, 1) := by decide +kernel
theorem d_law_law_699 : decode (mz_c M_law_law) 699 = .ok (.laload, 1) := by decide +kernel
theorem d_law_law_700 : decode (mz_c M_law_law) 700 = .ok (.iload 6, 2) := by decide +kernel
theorem d_law_law_702 : decode (mz_c M_law_law) 702 = .ok (.i2l, 1) := by decide +kernel
theorem d_law_law_703 : decode (mz_c M_law_law) 703 = .ok (.lcmp, 1) := by decide +kernel
theorem d_law_law_704 : decode (mz_c M_law_law) 704 = .ok (.ifCond .eq 5, 3) := by decide +kernel
theorem d_law_law_707 : decode (mz_c M_law_law) 707 = .ok (.iconst 0, 1) := by decide +kernel
theorem d_law_law_708 : decode (mz_c M_law_law) 708 = .ok (.ireturn, 1) := by decide +kernel
theorem d_law_law_709 : decode (mz_c M_law_law) 709 = .ok (.goto 468, 3) := by decide +kernel
theorem d_law_law_712 : decode (mz_c M_law_law) 712 = .ok (.aload_n 1, 1) := by decide +kernel
theorem d_law_law_713 : decode (mz_c M_law_law) 713 = .ok (.aload_n 0, 1) := by decide +kernel
theorem d_law_law_714 : decode (mz_c M_law_law) 714 = .ok (.iload 4, 2) := by decide +kernel
theorem d_law_law_716 : decode (mz_c M_law_law) 716 = .ok (.iconst 1, 1) := by decide +kernel
theorem d_law_law_717 : decode (mz_c M_law_law) 717 = .ok (.iadd, 1) := by decide +kernel
theorem d_law_law_718 : decode (mz_c M_law_law) 718 = .ok (.iaload, 1) := by decide +kernel
theorem d_law_law_719 : decode (mz_c M_law_law) 719 = .ok (.aload_n 3, 1) := by decide +kernel
theorem d_law_law_720 : decode (mz_c M_law_law) 720 = .ok (.invokestatic 115, 3) := by decide +kernel
theorem d_law_law_723 : decode (mz_c M_law_law) 723 = .ok (.istore 5, 2) := by decide +kernel
theorem d_law_law_725 : decode (mz_c M_law_law) 725 = .ok (.aload_n 2, 1) := by decide +kernel
theorem d_law_law_726 : decode (mz_c M_law_law) 726 = .ok (.aload_n 0, 1) := by decide +kernel
theorem d_law_law_727 : decode (mz_c M_law_law) 727 = .ok (.iload 4, 2) := by decide +kernel
theorem d_law_law_729 : decode (mz_c M_law_law) 729 = .ok (.iconst 1, 1) := by decide +kernel
theorem d_law_law_730 : decode (mz_c M_law_law) 730 = .ok (.iadd, 1) := by decide +kernel
theorem d_law_law_731 : decode (mz_c M_law_law) 731 = .ok (.iaload, 1) := by decide +kernel
theorem d_law_law_732 : decode (mz_c M_law_law) 732 = .ok (.invokevirtual 117, 3) := by decide +kernel
theorem d_law_law_735 : decode (mz_c M_law_law) 735 = .ok (.istore 6, 2) := by decide +kernel
theorem d_law_law_737 : decode (mz_c M_law_law) 737 = .ok (.aload_n 2, 1) := by decide +kernel
theorem d_law_law_738 : decode (mz_c M_law_law) 738 = .ok (.invokevirtual 85, 3) := by decide +kernel
theorem d_law_law_741 : decode (mz_c M_law_law) 741 = .ok (.iload 5, 2) := by decide +kernel
theorem d_law_law_743 : decode (mz_c M_law_law) 743 = .ok (.if_icmp .eq 5, 3) := by decide +kernel
theorem d_law_law_746 : decode (mz_c M_law_law) 746 = .ok (.iconst 0, 1) := by decide +kernel
theorem d_law_law_747 : decode (mz_c M_law_law) 747 = .ok (.ireturn, 1) := by decide +kernel
theorem d_law_law_748 : decode (mz_c M_law_law) 748 = .ok (.iload 5, 2) := by decide +kernel
theorem d_law_law_750 : decode (mz_c M_law_law) 750 = .ok (.ifCond .ne 15, 3) := by decide +kernel
theorem d_law_law_753 : decode (mz_c M_law_law) 753 = .ok (.aload_n 3, 1) := by decide +kernel
theorem d_law_law_754 : decode (mz_c M_law_law) 754 = .ok (.iconst 0, 1) := by decide +kernel
theorem d_law_law_755 : decode (mz_c M_law_law) 755 = .ok (.laload, 1) := by decide +kernel
theorem d_law_law_756 : decode (mz_c M_law_law) 756 = .ok (.iload 6, 2) := by decide +kernel
theorem d_law_law_758 : decode (mz_c M_law_law) 758 = .ok (.i2l, 1) := by decide +kernel
theorem d_law_law_759 : decode (mz_c M_law_law) 759 = .ok (.lcmp, 1) := by decide +kernel
theorem d_law_law_760 : decode (mz_c M_law_law) 760 = .ok (.ifCond .eq 5, 3) := by decide +kernel
theorem d_law_law_763 : decode (mz_c M_law_law) 763 = .ok (.iconst 0, 1) := by decide +kernel
theorem d_law_law_764 : decode (mz_c M_law_law) 764 = .ok (.ireturn, 1) := by decide +kernel
theorem d_law_law_765 : decode (mz_c M_law_law) 765 = .ok (.goto 412, 3) := by decide +kernel
theorem d_law_law_768 : decode (mz_c M_law_law) 768 = .ok (.aload_n 1, 1) := by decide +kernel
theorem d_law_law_769 : decode (mz_c M_law_law) 769 = .ok (.aload_n 0, 1) := by decide +kernel
theorem d_law_law_770 : decode (mz_c M_law_law) 770 = .ok (.iload 4, 2) := by decide +kernel
theorem d_law_law_772 : decode (mz_c M_law_law) 772 = .ok (.iconst 1, 1) := by decide +kernel
theorem d_law_law_773 : decode (mz_c M_law_law) 773 = .ok (.iadd, 1) := by decide +kernel
theorem d_law_law_774 : decode (mz_c M_law_law) 774 = .ok (.iaload, 1) := by decide +kernel
theorem d_law_law_775 : decode (mz_c M_law_law) 775 = .ok (.aload_n 0, 1) := by decide +kernel
theorem d_law_law_776 : decode (mz_c M_law_law) 776 = .ok (.iload 4, 2) := by decide +kernel
theorem d_law_law_778 : decode (mz_c M_law_law) 778 = .ok (.iconst 2, 1) := by decide +kernel
theorem d_law_law_779 : decode (mz_c M_law_law) 779 = .ok (.iadd, 1) := by decide +kernel
theorem d_law_law_780 : decode (mz_c M_law_law) 780 = .ok (.iaload, 1) := by decide +kernel
theorem d_law_law_781 : decode (mz_c M_law_law) 781 = .ok (.aload_n 3, 1) := by decide +kernel
theorem d_law_law_782 : decode (mz_c M_law_law) 782 = .ok (.invokestatic 118, 3) := by decide +kernel
theorem d_law_law_785 : decode (mz_c M_law_law) 785 = .ok (.istore 5, 2) := by decide +kernel
theorem d_law_law_787 : decode (mz_c M_law_law) 787 = .ok (.aload_n 2, 1) := by decide +kernel
theorem d_law_law_788 : decode (mz_c M_law_law) 788 = .ok (.aload_n 0, 1) := by decide +kernel
theorem d_law_law_789 : decode (mz_c M_law_law) 789 = .ok (.iload 4, 2) := by decide +kernel
theorem d_law_law_791 : decode (mz_c M_law_law) 791 = .ok (.iconst 1, 1) := by decide +kernel
theorem d_law_law_792 : decode (mz_c M_law_law) 792 = .ok (.iadd, 1) := by decide +kernel
theorem d_law_law_793 : decode (mz_c M_law_law) 793 = .ok (.iaload, 1) := by decide +kernel
theorem d_law_law_794 : decode (mz_c M_law_law) 794 = .ok (.aload_n 0, 1) := by decide +kernel
theorem d_law_law_795 : decode (mz_c M_law_law) 795 = .ok (.iload 4, 2) := by decide +kernel
theorem d_law_law_797 : decode (mz_c M_law_law) 797 = .ok (.iconst 2, 1) := by decide +kernel
theorem d_law_law_798 : decode (mz_c M_law_law) 798 = .ok (.iadd, 1) := by decide +kernel
theorem d_law_law_799 : decode (mz_c M_law_law) 799 = .ok (.iaload, 1) := by decide +kernel
theorem d_law_law_800 : decode (mz_c M_law_law) 800 = .ok (.invokevirtual 121, 3) := by decide +kernel
theorem d_law_law_803 : decode (mz_c M_law_law) 803 = .ok (.istore 6, 2) := by decide +kernel
theorem d_law_law_805 : decode (mz_c M_law_law) 805 = .ok (.aload_n 2, 1) := by decide +kernel
theorem d_law_law_806 : decode (mz_c M_law_law) 806 = .ok (.invokevirtual 85, 3) := by decide +kernel
theorem d_law_law_809 : decode (mz_c M_law_law) 809 = .ok (.iload 5, 2) := by decide +kernel
theorem d_law_law_811 : decode (mz_c M_law_law) 811 = .ok (.if_icmp .eq 5, 3) := by decide +kernel
theorem d_law_law_814 : decode (mz_c M_law_law) 814 = .ok (.iconst 0, 1) := by decide +kernel
theorem d_law_law_815 : decode (mz_c M_law_law) 815 = .ok (.ireturn, 1) := by decide +kernel
theorem d_law_law_816 : decode (mz_c M_law_law) 816 = .ok (.iload 5, 2) := by decide +kernel
theorem d_law_law_818 : decode (mz_c M_law_law) 818 = .ok (.ifCond .ne 15, 3) := by decide +kernel
theorem d_law_law_821 : decode (mz_c M_law_law) 821 = .ok (.aload_n 3, 1) := by decide +kernel
theorem d_law_law_822 : decode (mz_c M_law_law) 822 = .ok (.iconst 0, 1) := by decide +kernel
theorem d_law_law_823 : decode (mz_c M_law_law) 823 = .ok (.laload, 1) := by decide +kernel
theorem d_law_law_824 : decode (mz_c M_law_law) 824 = .ok (.iload 6, 2) := by decide +kernel
theorem d_law_law_826 : decode (mz_c M_law_law) 826 = .ok (.i2l, 1) := by decide +kernel
theorem d_law_law_827 : decode (mz_c M_law_law) 827 = .ok (.lcmp, 1) := by decide +kernel
theorem d_law_law_828 : decode (mz_c M_law_law) 828 = .ok (.ifCond .eq 5, 3) := by decide +kernel
theorem d_law_law_831 : decode (mz_c M_law_law) 831 = .ok (.iconst 0, 1) := by decide +kernel
theorem d_law_law_832 : decode (mz_c M_law_law) 832 = .ok (.ireturn, 1) := by decide +kernel
theorem d_law_law_833 : decode (mz_c M_law_law) 833 = .ok (.goto 344, 3) := by decide +kernel
theorem d_law_law_836 : decode (mz_c M_law_law) 836 = .ok (.aload_n 1, 1) := by decide +kernel
theorem d_law_law_837 : decode (mz_c M_law_law) 837 = .ok (.aload_n 0, 1) := by decide +kernel
theorem d_law_law_838 : decode (mz_c M_law_law) 838 = .ok (.iload 4, 2) := by decide +kernel
theorem d_law_law_840 : decode (mz_c M_law_law) 840 = .ok (.iconst 1, 1) := by decide +kernel
theorem d_law_law_841 : decode (mz_c M_law_law) 841 = .ok (.iadd, 1) := by decide +kernel
theorem d_law_law_842 : decode (mz_c M_law_law) 842 = .ok (.iaload, 1) := by decide +kernel
theorem d_law_law_843 : decode (mz_c M_law_law) 843 = .ok (.aload_n 0, 1) := by decide +kernel
theorem d_law_law_844 : decode (mz_c M_law_law) 844 = .ok (.iload 4, 2) := by decide +kernel
theorem d_law_law_846 : decode (mz_c M_law_law) 846 = .ok (.iconst 2, 1) := by decide +kernel
theorem d_law_law_847 : decode (mz_c M_law_law) 847 = .ok (.iadd, 1) := by decide +kernel
theorem d_law_law_848 : decode (mz_c M_law_law) 848 = .ok (.iaload, 1) := by decide +kernel
theorem d_law_law_849 : decode (mz_c M_law_law) 849 = .ok (.aload_n 3, 1) := by decide +kernel
theorem d_law_law_850 : decode (mz_c M_law_law) 850 = .ok (.invokestatic 122, 3) := by decide +kernel
theorem d_law_law_853 : decode (mz_c M_law_law) 853 = .ok (.istore 5, 2) := by decide +kernel
theorem d_law_law_855 : decode (mz_c M_law_law) 855 = .ok (.aload_n 2, 1) := by decide +kernel
theorem d_law_law_856 : decode (mz_c M_law_law) 856 = .ok (.aload_n 0, 1) := by decide +kernel
theorem d_law_law_857 : decode (mz_c M_law_law) 857 = .ok (.iload 4, 2) := by decide +kernel
theorem d_law_law_859 : decode (mz_c M_law_law) 859 = .ok (.iconst 1, 1) := by decide +kernel
theorem d_law_law_860 : decode (mz_c M_law_law) 860 = .ok (.iadd, 1) := by decide +kernel
theorem d_law_law_861 : decode (mz_c M_law_law) 861 = .ok (.iaload, 1) := by decide +kernel
theorem d_law_law_862 : decode (mz_c M_law_law) 862 = .ok (.aload_n 0, 1) := by decide +kernel
theorem d_law_law_863 : decode (mz_c M_law_law) 863 = .ok (.iload 4, 2) := by decide +kernel
theorem d_law_law_865 : decode (mz_c M_law_law) 865 = .ok (.iconst 2, 1) := by decide +kernel
theorem d_law_law_866 : decode (mz_c M_law_law) 866 = .ok (.iadd, 1) := by decide +kernel
theorem d_law_law_867 : decode (mz_c M_law_law) 867 = .ok (.iaload, 1) := by decide +kernel
theorem d_law_law_868 : decode (mz_c M_law_law) 868 = .ok (.invokevirtual 124, 3) := by decide +kernel
theorem d_law_law_871 : decode (mz_c M_law_law) 871 = .ok (.istore 6, 2) := by decide +kernel
theorem d_law_law_873 : decode (mz_c M_law_law) 873 = .ok (.aload_n 2, 1) := by decide +kernel
theorem d_law_law_874 : decode (mz_c M_law_law) 874 = .ok (.invokevirtual 85, 3) := by decide +kernel
theorem d_law_law_877 : decode (mz_c M_law_law) 877 = .ok (.iload 5, 2) := by decide +kernel
theorem d_law_law_879 : decode (mz_c M_law_law) 879 = .ok (.if_icmp .eq 5, 3) := by decide +kernel
theorem d_law_law_882 : decode (mz_c M_law_law) 882 = .ok (.iconst 0, 1) := by decide +kernel
theorem d_law_law_883 : decode (mz_c M_law_law) 883 = .ok (.ireturn, 1) := by decide +kernel
theorem d_law_law_884 : decode (mz_c M_law_law) 884 = .ok (.iload 5, 2) := by decide +kernel
theorem d_law_law_886 : decode (mz_c M_law_law) 886 = .ok (.ifCond .ne 15, 3) := by decide +kernel
theorem d_law_law_889 : decode (mz_c M_law_law) 889 = .ok (.aload_n 3, 1) := by decide +kernel
theorem d_law_law_890 : decode (mz_c M_law_law) 890 = .ok (.iconst 0, 1) := by decide +kernel
theorem d_law_law_891 : decode (mz_c M_law_law) 891 = .ok (.laload, 1) := by decide +kernel
theorem d_law_law_892 : decode (mz_c M_law_law) 892 = .ok (.iload 6, 2) := by decide +kernel
theorem d_law_law_894 : decode (mz_c M_law_law) 894 = .ok (.i2l, 1) := by decide +kernel
theorem d_law_law_895 : decode (mz_c M_law_law) 895 = .ok (.lcmp, 1) := by decide +kernel
theorem d_law_law_896 : decode (mz_c M_law_law) 896 = .ok (.ifCond .eq 5, 3) := by decide +kernel
theorem d_law_law_899 : decode (mz_c M_law_law) 899 = .ok (.iconst 0, 1) := by decide +kernel
theorem d_law_law_900 : decode (mz_c M_law_law) 900 = .ok (.ireturn, 1) := by decide +kernel
theorem d_law_law_901 : decode (mz_c M_law_law) 901 = .ok (.goto 276, 3) := by decide +kernel
theorem d_law_law_904 : decode (mz_c M_law_law) 904 = .ok (.aload_n 1, 1) := by decide +kernel
theorem d_law_law_905 : decode (mz_c M_law_law) 905 = .ok (.aload_n 0, 1) := by decide +kernel
theorem d_law_law_906 : decode (mz_c M_law_law) 906 = .ok (.iload 4, 2) := by decide +kernel
theorem d_law_law_908 : decode (mz_c M_law_law) 908 = .ok (.iconst 1, 1) := by decide +kernel
theorem d_law_law_909 : decode (mz_c M_law_law) 909 = .ok (.iadd, 1) := by decide +kernel
theorem d_law_law_910 : decode (mz_c M_law_law) 910 = .ok (.iaload, 1) := by decide +kernel
theorem d_law_law_911 : decode (mz_c M_law_law) 911 = .ok (.aload_n 0, 1) := by decide +kernel
theorem d_law_law_912 : decode (mz_c M_law_law) 912 = .ok (.iload 4, 2) := by decide +kernel
theorem d_law_law_914 : decode (mz_c M_law_law) 914 = .ok (.iconst 2, 1) := by decide +kernel
theorem d_law_law_915 : decode (mz_c M_law_law) 915 = .ok (.iadd, 1) := by decide +kernel
theorem d_law_law_916 : decode (mz_c M_law_law) 916 = .ok (.iaload, 1) := by decide +kernel
theorem d_law_law_917 : decode (mz_c M_law_law) 917 = .ok (.aload_n 0, 1) := by decide +kernel
theorem d_law_law_918 : decode (mz_c M_law_law) 918 = .ok (.iload 4, 2) := by decide +kernel
theorem d_law_law_920 : decode (mz_c M_law_law) 920 = .ok (.iconst 3, 1) := by decide +kernel
theorem d_law_law_921 : decode (mz_c M_law_law) 921 = .ok (.iadd, 1) := by decide +kernel
theorem d_law_law_922 : decode (mz_c M_law_law) 922 = .ok (.iaload, 1) := by decide +kernel
theorem d_law_law_923 : decode (mz_c M_law_law) 923 = .ok (.aload_n 3, 1) := by decide +kernel
theorem d_law_law_924 : decode (mz_c M_law_law) 924 = .ok (.invokestatic 125, 3) := by decide +kernel
theorem d_law_law_927 : decode (mz_c M_law_law) 927 = .ok (.istore 5, 2) := by decide +kernel
theorem d_law_law_929 : decode (mz_c M_law_law) 929 = .ok (.aload_n 2, 1) := by decide +kernel
theorem d_law_law_930 : decode (mz_c M_law_law) 930 = .ok (.aload_n 0, 1) := by decide +kernel
theorem d_law_law_931 : decode (mz_c M_law_law) 931 = .ok (.iload 4, 2) := by decide +kernel
theorem d_law_law_933 : decode (mz_c M_law_law) 933 = .ok (.iconst 1, 1) := by decide +kernel
theorem d_law_law_934 : decode (mz_c M_law_law) 934 = .ok (.iadd, 1) := by decide +kernel
theorem d_law_law_935 : decode (mz_c M_law_law) 935 = .ok (.iaload, 1) := by decide +kernel
theorem d_law_law_936 : decode (mz_c M_law_law) 936 = .ok (.aload_n 0, 1) := by decide +kernel
theorem d_law_law_937 : decode (mz_c M_law_law) 937 = .ok (.iload 4, 2) := by decide +kernel
theorem d_law_law_939 : decode (mz_c M_law_law) 939 = .ok (.iconst 2, 1) := by decide +kernel
theorem d_law_law_940 : decode (mz_c M_law_law) 940 = .ok (.iadd, 1) := by decide +kernel
theorem d_law_law_941 : decode (mz_c M_law_law) 941 = .ok (.iaload, 1) := by decide +kernel
theorem d_law_law_942 : decode (mz_c M_law_law) 942 = .ok (.aload_n 0, 1) := by decide +kernel
theorem d_law_law_943 : decode (mz_c M_law_law) 943 = .ok (.iload 4, 2) := by decide +kernel
theorem d_law_law_945 : decode (mz_c M_law_law) 945 = .ok (.iconst 3, 1) := by decide +kernel
theorem d_law_law_946 : decode (mz_c M_law_law) 946 = .ok (.iadd, 1) := by decide +kernel
theorem d_law_law_947 : decode (mz_c M_law_law) 947 = .ok (.iaload, 1) := by decide +kernel
theorem d_law_law_948 : decode (mz_c M_law_law) 948 = .ok (.invokevirtual 128, 3) := by decide +kernel
theorem d_law_law_951 : decode (mz_c M_law_law) 951 = .ok (.istore 6, 2) := by decide +kernel
theorem d_law_law_953 : decode (mz_c M_law_law) 953 = .ok (.aload_n 2, 1) := by decide +kernel
theorem d_law_law_954 : decode (mz_c M_law_law) 954 = .ok (.invokevirtual 85, 3) := by decide +kernel
theorem d_law_law_957 : decode (mz_c M_law_law) 957 = .ok (.iload 5, 2) := by decide +kernel
theorem d_law_law_959 : decode (mz_c M_law_law) 959 = .ok (.if_icmp .eq 5, 3) := by decide +kernel
theorem d_law_law_962 : decode (mz_c M_law_law) 962 = .ok (.iconst 0, 1) := by decide +kernel
theorem d_law_law_963 : decode (mz_c M_law_law) 963 = .ok (.ireturn, 1) := by decide +kernel
theorem d_law_law_964 : decode (mz_c M_law_law) 964 = .ok (.iload 5, 2) := by decide +kernel
theorem d_law_law_966 : decode (mz_c M_law_law) 966 = .ok (.ifCond .ne 15, 3) := by decide +kernel
theorem d_law_law_969 : decode (mz_c M_law_law) 969 = .ok (.aload_n 3, 1) := by decide +kernel
theorem d_law_law_970 : decode (mz_c M_law_law) 970 = .ok (.iconst 0, 1) := by decide +kernel
theorem d_law_law_971 : decode (mz_c M_law_law) 971 = .ok (.laload, 1) := by decide +kernel
theorem d_law_law_972 : decode (mz_c M_law_law) 972 = .ok (.iload 6, 2) := by decide +kernel
theorem d_law_law_974 : decode (mz_c M_law_law) 974 = .ok (.i2l, 1) := by decide +kernel
theorem d_law_law_975 : decode (mz_c M_law_law) 975 = .ok (.lcmp, 1) := by decide +kernel
theorem d_law_law_976 : decode (mz_c M_law_law) 976 = .ok (.ifCond .eq 5, 3) := by decide +kernel
theorem d_law_law_979 : decode (mz_c M_law_law) 979 = .ok (.iconst 0, 1) := by decide +kernel
theorem d_law_law_980 : decode (mz_c M_law_law) 980 = .ok (.ireturn, 1) := by decide +kernel
theorem d_law_law_981 : decode (mz_c M_law_law) 981 = .ok (.goto 196, 3) := by decide +kernel
theorem d_law_law_984 : decode (mz_c M_law_law) 984 = .ok (.aload_n 1, 1) := by decide +kernel
theorem d_law_law_985 : decode (mz_c M_law_law) 985 = .ok (.aload_n 0, 1) := by decide +kernel
theorem d_law_law_986 : decode (mz_c M_law_law) 986 = .ok (.iload 4, 2) := by decide +kernel
theorem d_law_law_988 : decode (mz_c M_law_law) 988 = .ok (.iconst 1, 1) := by decide +kernel
theorem d_law_law_989 : decode (mz_c M_law_law) 989 = .ok (.iadd, 1) := by decide +kernel
theorem d_law_law_990 : decode (mz_c M_law_law) 990 = .ok (.iaload, 1) := by decide +kernel
theorem d_law_law_991 : decode (mz_c M_law_law) 991 = .ok (.aload_n 3, 1) := by decide +kernel
theorem d_law_law_992 : decode (mz_c M_law_law) 992 = .ok (.invokestatic 129, 3) := by decide +kernel
theorem d_law_law_995 : decode (mz_c M_law_law) 995 = .ok (.istore 5, 2) := by decide +kernel
theorem d_law_law_997 : decode (mz_c M_law_law) 997 = .ok (.aload_n 2, 1) := by decide +kernel
theorem d_law_law_998 : decode (mz_c M_law_law) 998 = .ok (.aload_n 0, 1) := by decide +kernel
theorem d_law_law_999 : decode (mz_c M_law_law) 999 = .ok (.iload 4, 2) := by decide +kernel
theorem d_law_law_1001 : decode (mz_c M_law_law) 1001 = .ok (.iconst 1, 1) := by decide +kernel
theorem d_law_law_1002 : decode (mz_c M_law_law) 1002 = .ok (.iadd, 1) := by decide +kernel
theorem d_law_law_1003 : decode (mz_c M_law_law) 1003 = .ok (.iaload, 1) := by decide +kernel
theorem d_law_law_1004 : decode (mz_c M_law_law) 1004 = .ok (.invokevirtual 131, 3) := by decide +kernel
theorem d_law_law_1007 : decode (mz_c M_law_law) 1007 = .ok (.lstore 6, 2) := by decide +kernel
theorem d_law_law_1009 : decode (mz_c M_law_law) 1009 = .ok (.aload_n 2, 1) := by decide +kernel
theorem d_law_law_1010 : decode (mz_c M_law_law) 1010 = .ok (.invokevirtual 85, 3) := by decide +kernel
theorem d_law_law_1013 : decode (mz_c M_law_law) 1013 = .ok (.iload 5, 2) := by decide +kernel
theorem d_law_law_1015 : decode (mz_c M_law_law) 1015 = .ok (.if_icmp .eq 5, 3) := by decide +kernel
theorem d_law_law_1018 : decode (mz_c M_law_law) 1018 = .ok (.iconst 0, 1) := by decide +kernel
theorem d_law_law_1019 : decode (mz_c M_law_law) 1019 = .ok (.ireturn, 1) := by decide +kernel
theorem d_law_law_1020 : decode (mz_c M_law_law) 1020 = .ok (.iload 5, 2) := by decide +kernel
theorem d_law_law_1022 : decode (mz_c M_law_law) 1022 = .ok (.ifCond .ne 14, 3) := by decide +kernel
theorem d_law_law_1025 : decode (mz_c M_law_law) 1025 = .ok (.aload_n 3, 1) := by decide +kernel
theorem d_law_law_1026 : decode (mz_c M_law_law) 1026 = .ok (.iconst 0, 1) := by decide +kernel
theorem d_law_law_1027 : decode (mz_c M_law_law) 1027 = .ok (.laload, 1) := by decide +kernel
theorem d_law_law_1028 : decode (mz_c M_law_law) 1028 = .ok (.lload 6, 2) := by decide +kernel
theorem d_law_law_1030 : decode (mz_c M_law_law) 1030 = .ok (.lcmp, 1) := by decide +kernel
theorem d_law_law_1031 : decode (mz_c M_law_law) 1031 = .ok (.ifCond .eq 5, 3) := by decide +kernel
theorem d_law_law_1034 : decode (mz_c M_law_law) 1034 = .ok (.iconst 0, 1) := by decide +kernel
theorem d_law_law_1035 : decode (mz_c M_law_law) 1035 = .ok (.ireturn, 1) := by decide +kernel
theorem d_law_law_1036 : decode (mz_c M_law_law) 1036 = .ok (.goto 141, 3) := by decide +kernel
theorem d_law_law_1039 : decode (mz_c M_law_law) 1039 = .ok (.aload_n 1, 1) := by decide +kernel
theorem d_law_law_1040 : decode (mz_c M_law_law) 1040 = .ok (.aload_n 0, 1) := by decide +kernel
theorem d_law_law_1041 : decode (mz_c M_law_law) 1041 = .ok (.iload 4, 2) := by decide +kernel
theorem d_law_law_1043 : decode (mz_c M_law_law) 1043 = .ok (.iconst 1, 1) := by decide +kernel
theorem d_law_law_1044 : decode (mz_c M_law_law) 1044 = .ok (.iadd, 1) := by decide +kernel
theorem d_law_law_1045 : decode (mz_c M_law_law) 1045 = .ok (.iaload, 1) := by decide +kernel
theorem d_law_law_1046 : decode (mz_c M_law_law) 1046 = .ok (.aload_n 0, 1) := by decide +kernel
theorem d_law_law_1047 : decode (mz_c M_law_law) 1047 = .ok (.iload 4, 2) := by decide +kernel
theorem d_law_law_1049 : decode (mz_c M_law_law) 1049 = .ok (.iconst 2, 1) := by decide +kernel
theorem d_law_law_1050 : decode (mz_c M_law_law) 1050 = .ok (.iadd, 1) := by decide +kernel
theorem d_law_law_1051 : decode (mz_c M_law_law) 1051 = .ok (.iaload, 1) := by decide +kernel
theorem d_law_law_1052 : decode (mz_c M_law_law) 1052 = .ok (.aload_n 0, 1) := by decide +kernel
theorem d_law_law_1053 : decode (mz_c M_law_law) 1053 = .ok (.iload 4, 2) := by decide +kernel
theorem d_law_law_1055 : decode (mz_c M_law_law) 1055 = .ok (.iconst 3, 1) := by decide +kernel
theorem d_law_law_1056 : decode (mz_c M_law_law) 1056 = .ok (.iadd, 1) := by decide +kernel
theorem d_law_law_1057 : decode (mz_c M_law_law) 1057 = .ok (.iaload, 1) := by decide +kernel
theorem d_law_law_1058 : decode (mz_c M_law_law) 1058 = .ok (.invokestatic 132, 3) := by decide +kernel
theorem d_law_law_1061 : decode (mz_c M_law_law) 1061 = .ok (.istore 5, 2) := by decide +kernel
theorem d_law_law_1063 : decode (mz_c M_law_law) 1063 = .ok (.aload_n 2, 1) := by decide +kernel
theorem d_law_law_1064 : decode (mz_c M_law_law) 1064 = .ok (.aload_n 0, 1) := by decide +kernel
theorem d_law_law_1065 : decode (mz_c M_law_law) 1065 = .ok (.iload 4, 2) := by decide +kernel
theorem d_law_law_1067 : decode (mz_c M_law_law) 1067 = .ok (.iconst 1, 1) := by decide +kernel
theorem d_law_law_1068 : decode (mz_c M_law_law) 1068 = .ok (.iadd, 1) := by decide +kernel
theorem d_law_law_1069 : decode (mz_c M_law_law) 1069 = .ok (.iaload, 1) := by decide +kernel
theorem d_law_law_1070 : decode (mz_c M_law_law) 1070 = .ok (.aload_n 0, 1) := by decide +kernel
theorem d_law_law_1071 : decode (mz_c M_law_law) 1071 = .ok (.iload 4, 2) := by decide +kernel
theorem d_law_law_1073 : decode (mz_c M_law_law) 1073 = .ok (.iconst 2, 1) := by decide +kernel
theorem d_law_law_1074 : decode (mz_c M_law_law) 1074 = .ok (.iadd, 1) := by decide +kernel
theorem d_law_law_1075 : decode (mz_c M_law_law) 1075 = .ok (.iaload, 1) := by decide +kernel
theorem d_law_law_1076 : decode (mz_c M_law_law) 1076 = .ok (.aload_n 0, 1) := by decide +kernel
theorem d_law_law_1077 : decode (mz_c M_law_law) 1077 = .ok (.iload 4, 2) := by decide +kernel
theorem d_law_law_1079 : decode (mz_c M_law_law) 1079 = .ok (.iconst 3, 1) := by decide +kernel
theorem d_law_law_1080 : decode (mz_c M_law_law) 1080 = .ok (.iadd, 1) := by decide +kernel
theorem d_law_law_1081 : decode (mz_c M_law_law) 1081 = .ok (.iaload, 1) := by decide +kernel
theorem d_law_law_1082 : decode (mz_c M_law_law) 1082 = .ok (.invokevirtual 135, 3) := by decide +kernel
theorem d_law_law_1085 : decode (mz_c M_law_law) 1085 = .ok (.aload_n 2, 1) := by decide +kernel
theorem d_law_law_1086 : decode (mz_c M_law_law) 1086 = .ok (.invokevirtual 85, 3) := by decide +kernel
theorem d_law_law_1089 : decode (mz_c M_law_law) 1089 = .ok (.iload 5, 2) := by decide +kernel
theorem d_law_law_1091 : decode (mz_c M_law_law) 1091 = .ok (.if_icmp .eq 5, 3) := by decide +kernel
theorem d_law_law_1094 : decode (mz_c M_law_law) 1094 = .ok (.iconst 0, 1) := by decide +kernel
theorem d_law_law_1095 : decode (mz_c M_law_law) 1095 = .ok (.ireturn, 1) := by decide +kernel
theorem d_law_law_1096 : decode (mz_c M_law_law) 1096 = .ok (.goto 81, 3) := by decide +kernel
theorem d_law_law_1099 : decode (mz_c M_law_law) 1099 = .ok (.aload_n 1, 1) := by decide +kernel
theorem d_law_law_1100 : decode (mz_c M_law_law) 1100 = .ok (.aload_n 0, 1) := by decide +kernel
theorem d_law_law_1101 : decode (mz_c M_law_law) 1101 = .ok (.iload 4, 2) := by decide +kernel
theorem d_law_law_1103 : decode (mz_c M_law_law) 1103 = .ok (.iconst 1, 1) := by decide +kernel
theorem d_law_law_1104 : decode (mz_c M_law_law) 1104 = .ok (.iadd, 1) := by decide +kernel
theorem d_law_law_1105 : decode (mz_c M_law_law) 1105 = .ok (.iaload, 1) := by decide +kernel
theorem d_law_law_1106 : decode (mz_c M_law_law) 1106 = .ok (.aload_n 0, 1) := by decide +kernel
theorem d_law_law_1107 : decode (mz_c M_law_law) 1107 = .ok (.iload 4, 2) := by decide +kernel
theorem d_law_law_1109 : decode (mz_c M_law_law) 1109 = .ok (.iconst 2, 1) := by decide +kernel
theorem d_law_law_1110 : decode (mz_c M_law_law) 1110 = .ok (.iadd, 1) := by decide +kernel
theorem d_law_law_1111 : decode (mz_c M_law_law) 1111 = .ok (.iaload, 1) := by decide +kernel
theorem d_law_law_1112 : decode (mz_c M_law_law) 1112 = .ok (.aload_n 3, 1) := by decide +kernel
theorem d_law_law_1113 : decode (mz_c M_law_law) 1113 = .ok (.invokestatic 136, 3) := by decide +kernel
theorem d_law_law_1116 : decode (mz_c M_law_law) 1116 = .ok (.istore 5, 2) := by decide +kernel
theorem d_law_law_1118 : decode (mz_c M_law_law) 1118 = .ok (.aload_n 2, 1) := by decide +kernel
theorem d_law_law_1119 : decode (mz_c M_law_law) 1119 = .ok (.aload_n 0, 1) := by decide +kernel
theorem d_law_law_1120 : decode (mz_c M_law_law) 1120 = .ok (.iload 4, 2) := by decide +kernel
theorem d_law_law_1122 : decode (mz_c M_law_law) 1122 = .ok (.iconst 1, 1) := by decide +kernel
theorem d_law_law_1123 : decode (mz_c M_law_law) 1123 = .ok (.iadd, 1) := by decide +kernel
theorem d_law_law_1124 : decode (mz_c M_law_law) 1124 = .ok (.iaload, 1) := by decide +kernel
theorem d_law_law_1125 : decode (mz_c M_law_law) 1125 = .ok (.aload_n 0, 1) := by decide +kernel
theorem d_law_law_1126 : decode (mz_c M_law_law) 1126 = .ok (.iload 4, 2) := by decide +kernel
theorem d_law_law_1128 : decode (mz_c M_law_law) 1128 = .ok (.iconst 2, 1) := by decide +kernel
theorem d_law_law_1129 : decode (mz_c M_law_law) 1129 = .ok (.iadd, 1) := by decide +kernel
theorem d_law_law_1130 : decode (mz_c M_law_law) 1130 = .ok (.iaload, 1) := by decide +kernel
theorem d_law_law_1131 : decode (mz_c M_law_law) 1131 = .ok (.invokevirtual 138, 3) := by decide +kernel
theorem d_law_law_1134 : decode (mz_c M_law_law) 1134 = .ok (.lstore 6, 2) := by decide +kernel
theorem d_law_law_1136 : decode (mz_c M_law_law) 1136 = .ok (.aload_n 2, 1) := by decide +kernel
theorem d_law_law_1137 : decode (mz_c M_law_law) 1137 = .ok (.invokevirtual 85, 3) := by decide +kernel
theorem d_law_law_1140 : decode (mz_c M_law_law) 1140 = .ok (.iload 5, 2) := by decide +kernel
theorem d_law_law_1142 : decode (mz_c M_law_law) 1142 = .ok (.if_icmp .eq 5, 3) := by decide +kernel
theorem d_law_law_1145 : decode (mz_c M_law_law) 1145 = .ok (.iconst 0, 1) := by decide +kernel
theorem d_law_law_1146 : decode (mz_c M_law_law) 1146 = .ok (.ireturn, 1) := by decide +kernel
theorem d_law_law_1147 : decode (mz_c M_law_law) 1147 = .ok (.iload 5, 2) := by decide +kernel
theorem d_law_law_1149 : decode (mz_c M_law_law) 1149 = .ok (.ifCond .ne 14, 3) := by decide +kernel
theorem d_law_law_1152 : decode (mz_c M_law_law) 1152 = .ok (.aload_n 3, 1) := by decide +kernel
theorem d_law_law_1153 : decode (mz_c M_law_law) 1153 = .ok (.iconst 0, 1) := by decide +kernel
theorem d_law_law_1154 : decode (mz_c M_law_law) 1154 = .ok (.laload, 1) := by decide +kernel
theorem d_law_law_1155 : decode (mz_c M_law_law) 1155 = .ok (.lload 6, 2) := by decide +kernel
theorem d_law_law_1157 : decode (mz_c M_law_law) 1157 = .ok (.lcmp, 1) := by decide +kernel
theorem d_law_law_1158 : decode (mz_c M_law_law) 1158 = .ok (.ifCond .eq 5, 3) := by decide +kernel
theorem d_law_law_1161 : decode (mz_c M_law_law) 1161 = .ok (.iconst 0, 1) := by decide +kernel
theorem d_law_law_1162 : decode (mz_c M_law_law) 1162 = .ok (.ireturn, 1) := by decide +kernel
theorem d_law_law_1163 : decode (mz_c M_law_law) 1163 = .ok (.goto 14, 3) := by decide +kernel
theorem d_law_law_1166 : decode (mz_c M_law_law) 1166 = .ok (.aload_n 1, 1) := by decide +kernel
theorem d_law_law_1167 : decode (mz_c M_law_law) 1167 = .ok (.invokevirtual 139, 3) := by decide +kernel
theorem d_law_law_1170 : decode (mz_c M_law_law) 1170 = .ok (.aload_n 2, 1) := by decide +kernel
theorem d_law_law_1171 : decode (mz_c M_law_law) 1171 = .ok (.invokevirtual 142, 3) := by decide +kernel
theorem d_law_law_1174 : decode (mz_c M_law_law) 1174 = .ok (.goto 3, 3) := by decide +kernel
theorem d_law_law_1177 : decode (mz_c M_law_law) 1177 = .ok (.iinc 4 7, 3) := by decide +kernel
theorem d_law_law_1180 : decode (mz_c M_law_law) 1180 = .ok (.goto (-1147), 3) := by decide +kernel
theorem d_law_law_1183 : decode (mz_c M_law_law) 1183 = .ok (.iconst 1, 1) := by decide +kernel
theorem d_law_law_1184 : decode (mz_c M_law_law) 1184 = .ok (.ireturn, 1) := by decide +kernel
theorem d_jm_floorDiv_0 : decode (mz_c M_jm_floorDiv) 0 = .ok (.iload_n 0, 1) := by decide +kernel
theorem d_jm_floorDiv_1 : decode (mz_c M_jm_floorDiv) 1 = .ok (.iload_n 1, 1) := by decide +kernel
theorem d_jm_floorDiv_2 : decode (mz_c M_jm_floorDiv) 2 = .ok (.idiv, 1) := by decide +kernel
theorem d_jm_floorDiv_3 : decode (mz_c M_jm_floorDiv) 3 = .ok (.istore_n 2, 1) := by decide +kernel
theorem d_jm_floorDiv_4 : decode (mz_c M_jm_floorDiv) 4 = .ok (.iload_n 0, 1) := by decide +kernel
theorem d_jm_floorDiv_5 : decode (mz_c M_jm_floorDiv) 5 = .ok (.iload_n 1, 1) := by decide +kernel
theorem d_jm_floorDiv_6 : decode (mz_c M_jm_floorDiv) 6 = .ok (.ixor, 1) := by decide +kernel
theorem d_jm_floorDiv_7 : decode (mz_c M_jm_floorDiv) 7 = .ok (.ifCond .ge 14, 3) := by decide +kernel
theorem d_jm_floorDiv_10 : decode (mz_c M_jm_floorDiv) 10 = .ok (.iload_n 2, 1) := by decide +kernel
theorem d_jm_floorDiv_11 : decode (mz_c M_jm_floorDiv) 11 = .ok (.iload_n 1, 1) := by decide +kernel
theorem d_jm_floorDiv_12 : decode (mz_c M_jm_floorDiv) 12 = .ok (.imul, 1) := by decide +kernel
theorem d_jm_floorDiv_13 : decode (mz_c M_jm_floorDiv) 13 = .ok (.iload_n 0, 1) := by decide +kernel
theorem d_jm_floorDiv_14 : decode (mz_c M_jm_floorDiv) 14 = .ok (.if_icmp .eq 7, 3) := by decide +kernel
theorem d_jm_floorDiv_17 : decode (mz_c M_jm_floorDiv) 17 = .ok (.iload_n 2, 1) := by decide +kernel
theorem d_jm_floorDiv_18 : decode (mz_c M_jm_floorDiv) 18 = .ok (.iconst 1, 1) := by decide +kernel
theorem d_jm_floorDiv_19 : decode (mz_c M_jm_floorDiv) 19 = .ok (.isub, 1) := by decide +kernel
theorem d_jm_floorDiv_20 : decode (mz_c M_jm_floorDiv) 20 = .ok (.ireturn, 1) := by decide +kernel
theorem d_jm_floorDiv_21 : decode (mz_c M_jm_floorDiv) 21 = .ok (.iload_n 2, 1) := by decide +kernel
theorem d_jm_floorDiv_22 : decode (mz_c M_jm_floorDiv) 22 = .ok (.ireturn, 1) := by decide +kernel
theorem d_jm_min_0 : decode (mz_c M_jm_min) 0 = .ok (.iload_n 0, 1) := by decide +kernel
theorem d_jm_min_1 : decode (mz_c M_jm_min) 1 = .ok (.iload_n 1, 1) := by decide +kernel
theorem d_jm_min_2 : decode (mz_c M_jm_min) 2 = .ok (.if_icmp .gt 7, 3) := by decide +kernel
theorem d_jm_min_5 : decode (mz_c M_jm_min) 5 = .ok (.iload_n 0, 1) := by decide +kernel
theorem d_jm_min_6 : decode (mz_c M_jm_min) 6 = .ok (.goto 4, 3) := by decide +kernel
theorem d_jm_min_9 : decode (mz_c M_jm_min) 9 = .ok (.iload_n 1, 1) := by decide +kernel
theorem d_jm_min_10 : decode (mz_c M_jm_min) 10 = .ok (.ireturn, 1) := by decide +kernel
