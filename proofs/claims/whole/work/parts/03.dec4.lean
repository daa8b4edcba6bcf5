theorem dX7_getWaiting_125 : decode cX7_getWaiting 125 = .ok (.iload 5, 2) := by decide +kernel
theorem dX7_getWaiting_127 : decode cX7_getWaiting 127 = .ok (.bipush 32, 2) := by decide +kernel
theorem dX7_getWaiting_129 : decode cX7_getWaiting 129 = .ok (.if_icmp .ge 38, 3) := by decide +kernel
theorem dX7_getWaiting_132 : decode cX7_getWaiting 132 = .ok (.aload_n 0, 1) := by decide +kernel
theorem dX7_getWaiting_133 : decode cX7_getWaiting 133 = .ok (.getfield 61, 3) := by decide +kernel
theorem dX7_getWaiting_136 : decode cX7_getWaiting 136 = .ok (.bipush 32, 2) := by decide +kernel
theorem dX7_getWaiting_138 : decode cX7_getWaiting 138 = .ok (.iload 4, 2) := by decide +kernel
theorem dX7_getWaiting_140 : decode cX7_getWaiting 140 = .ok (.imul, 1) := by decide +kernel
theorem dX7_getWaiting_141 : decode cX7_getWaiting 141 = .ok (.iload 5, 2) := by decide +kernel
theorem dX7_getWaiting_143 : decode cX7_getWaiting 143 = .ok (.iadd, 1) := by decide +kernel
theorem dX7_getWaiting_144 : decode cX7_getWaiting 144 = .ok (.aload_n 0, 1) := by decide +kernel
theorem dX7_getWaiting_145 : decode cX7_getWaiting 145 = .ok (.getfield 61, 3) := by decide +kernel
theorem dX7_getWaiting_148 : decode cX7_getWaiting 148 = .ok (.bipush 32, 2) := by decide +kernel
theorem dX7_getWaiting_150 : decode cX7_getWaiting 150 = .ok (.iload 4, 2) := by decide +kernel
theorem dX7_getWaiting_152 : decode cX7_getWaiting 152 = .ok (.imul, 1) := by decide +kernel
theorem dX7_getWaiting_153 : decode cX7_getWaiting 153 = .ok (.bipush 32, 2) := by decide +kernel
theorem dX7_getWaiting_155 : decode cX7_getWaiting 155 = .ok (.iadd, 1) := by decide +kernel
theorem dX7_getWaiting_156 : decode cX7_getWaiting 156 = .ok (.iload 5, 2) := by decide +kernel
theorem dX7_getWaiting_158 : decode cX7_getWaiting 158 = .ok (.iadd, 1) := by decide +kernel
theorem dX7_getWaiting_159 : decode cX7_getWaiting 159 = .ok (.baload, 1) := by decide +kernel
theorem dX7_getWaiting_160 : decode cX7_getWaiting 160 = .ok (.bastore, 1) := by decide +kernel
theorem dX7_getWaiting_161 : decode cX7_getWaiting 161 = .ok (.iinc 5 1, 3) := by decide +kernel
theorem dX7_getWaiting_164 : decode cX7_getWaiting 164 = .ok (.goto (-39), 3) := by decide +kernel
theorem dX7_getWaiting_167 : decode cX7_getWaiting 167 = .ok (.iinc 3 1, 3) := by decide +kernel
theorem dX7_getWaiting_170 : decode cX7_getWaiting 170 = .ok (.goto (-97), 3) := by decide +kernel
theorem dX7_getWaiting_173 : decode cX7_getWaiting 173 = .ok (.aload_n 0, 1) := by decide +kernel
theorem dX7_getWaiting_174 : decode cX7_getWaiting 174 = .ok (.iload_n 1, 1) := by decide +kernel
theorem dX7_getWaiting_175 : decode cX7_getWaiting 175 = .ok (.iconst 0, 1) := by decide +kernel
theorem dX7_getWaiting_176 : decode cX7_getWaiting 176 = .ok (.bipush 49, 2) := by decide +kernel
theorem dX7_getWaiting_178 : decode cX7_getWaiting 178 = .ok (.sipush 130, 3) := by decide +kernel
theorem dX7_getWaiting_181 : decode cX7_getWaiting 181 = .ok (.invokevirtual 205, 3) := by decide +kernel
theorem dX7_getWaiting_184 : decode cX7_getWaiting 184 = .ok (.aload_n 0, 1) := by decide +kernel
theorem dX7_getWaiting_185 : decode cX7_getWaiting 185 = .ok (.iload_n 1, 1) := by decide +kernel
theorem dX7_getWaiting_186 : decode cX7_getWaiting 186 = .ok (.invokevirtual 209, 3) := by decide +kernel
theorem dX7_getWaiting_189 : decode cX7_getWaiting 189 = .ok (.return_, 1) := by decide +kernel
theorem dX7_set_0 : decode cX7_set 0 = .ok (.aload_n 0, 1) := by decide +kernel
theorem dX7_set_1 : decode cX7_set 1 = .ok (.bipush 21, 2) := by decide +kernel
theorem dX7_set_3 : decode cX7_set 3 = .ok (.invokevirtual 177, 3) := by decide +kernel
theorem dX7_set_6 : decode cX7_set 6 = .ok (.istore_n 3, 1) := by decide +kernel
theorem dX7_set_7 : decode cX7_set 7 = .ok (.aload_n 0, 1) := by decide +kernel
theorem dX7_set_8 : decode cX7_set 8 = .ok (.bipush 23, 2) := by decide +kernel
theorem dX7_set_10 : decode cX7_set 10 = .ok (.invokevirtual 123, 3) := by decide +kernel
theorem dX7_set_13 : decode cX7_set 13 = .ok (.istore 4, 2) := by decide +kernel
theorem dX7_set_15 : decode cX7_set 15 = .ok (.aload_n 0, 1) := by decide +kernel
theorem dX7_set_16 : decode cX7_set 16 = .ok (.bipush 18, 2) := by decide +kernel
theorem dX7_set_18 : decode cX7_set 18 = .ok (.invokevirtual 177, 3) := by decide +kernel
theorem dX7_set_21 : decode cX7_set 21 = .ok (.istore 5, 2) := by decide +kernel
theorem dX7_set_23 : decode cX7_set 23 = .ok (.iload 5, 2) := by decide +kernel
theorem dX7_set_25 : decode cX7_set 25 = .ok (.ifCond .eq 21, 3) := by decide +kernel
theorem dX7_set_28 : decode cX7_set 28 = .ok (.iload 5, 2) := by decide +kernel
theorem dX7_set_30 : decode cX7_set 30 = .ok (.ldc 227, 2) := by decide +kernel
theorem dX7_set_32 : decode cX7_set 32 = .ok (.if_icmp .eq 14, 3) := by decide +kernel
theorem dX7_set_35 : decode cX7_set 35 = .ok (.aload_n 0, 1) := by decide +kernel
theorem dX7_set_36 : decode cX7_set 36 = .ok (.iload_n 1, 1) := by decide +kernel
theorem dX7_set_37 : decode cX7_set 37 = .ok (.iload_n 2, 1) := by decide +kernel
theorem dX7_set_38 : decode cX7_set 38 = .ok (.bipush 9, 2) := by decide +kernel
theorem dX7_set_40 : decode cX7_set 40 = .ok (.invokevirtual 212, 3) := by decide +kernel
theorem dX7_set_43 : decode cX7_set 43 = .ok (.goto 222, 3) := by decide +kernel
theorem dX7_set_46 : decode cX7_set 46 = .ok (.iload_n 3, 1) := by decide +kernel
theorem dX7_set_47 : decode cX7_set 47 = .ok (.invokestatic 216, 3) := by decide +kernel
theorem dX7_set_50 : decode cX7_set 50 = .ok (.ifCond .ne 13, 3) := by decide +kernel
theorem dX7_set_53 : decode cX7_set 53 = .ok (.aload_n 0, 1) := by decide +kernel
theorem dX7_set_54 : decode cX7_set 54 = .ok (.iload_n 1, 1) := by decide +kernel
theorem dX7_set_55 : decode cX7_set 55 = .ok (.iload_n 2, 1) := by decide +kernel
theorem dX7_set_56 : decode cX7_set 56 = .ok (.iconst 0, 1) := by decide +kernel
theorem dX7_set_57 : decode cX7_set 57 = .ok (.invokevirtual 212, 3) := by decide +kernel
theorem dX7_set_60 : decode cX7_set 60 = .ok (.goto 205, 3) := by decide +kernel
theorem dX7_set_63 : decode cX7_set 63 = .ok (.iload_n 3, 1) := by decide +kernel
theorem dX7_set_64 : decode cX7_set 64 = .ok (.bipush 80, 2) := by decide +kernel
theorem dX7_set_66 : decode cX7_set 66 = .ok (.if_icmp .eq 22, 3) := by decide +kernel
theorem dX7_set_69 : decode cX7_set 69 = .ok (.iload_n 3, 1) := by decide +kernel
theorem dX7_set_70 : decode cX7_set 70 = .ok (.bipush 96, 2) := by decide +kernel
theorem dX7_set_72 : decode cX7_set 72 = .ok (.if_icmp .eq 16, 3) := by decide +kernel
theorem dX7_set_75 : decode cX7_set 75 = .ok (.iload_n 3, 1) := by decide +kernel
theorem dX7_set_76 : decode cX7_set 76 = .ok (.sipush 128, 3) := by decide +kernel
theorem dX7_set_79 : decode cX7_set 79 = .ok (.if_icmp .eq 9, 3) := by decide +kernel
theorem dX7_set_82 : decode cX7_set 82 = .ok (.iload_n 3, 1) := by decide +kernel
theorem dX7_set_83 : decode cX7_set 83 = .ok (.bipush 32, 2) := by decide +kernel
theorem dX7_set_85 : decode cX7_set 85 = .ok (.if_icmp .ne 13, 3) := by decide +kernel
theorem dX7_set_88 : decode cX7_set 88 = .ok (.aload_n 0, 1) := by decide +kernel
theorem dX7_set_89 : decode cX7_set 89 = .ok (.iload_n 1, 1) := by decide +kernel
theorem dX7_set_90 : decode cX7_set 90 = .ok (.iload_n 2, 1) := by decide +kernel
theorem dX7_set_91 : decode cX7_set 91 = .ok (.iconst 5, 1) := by decide +kernel
theorem dX7_set_92 : decode cX7_set 92 = .ok (.invokevirtual 212, 3) := by decide +kernel
theorem dX7_set_95 : decode cX7_set 95 = .ok (.goto 170, 3) := by decide +kernel
theorem dX7_set_98 : decode cX7_set 98 = .ok (.iload_n 3, 1) := by decide +kernel
theorem dX7_set_99 : decode cX7_set 99 = .ok (.sipush 130, 3) := by decide +kernel
theorem dX7_set_102 : decode cX7_set 102 = .ok (.if_icmp .ne 13, 3) := by decide +kernel
theorem dX7_set_105 : decode cX7_set 105 = .ok (.iload 4, 2) := by decide +kernel
theorem dX7_set_107 : decode cX7_set 107 = .ok (.bipush 32, 2) := by decide +kernel
theorem dX7_set_109 : decode cX7_set 109 = .ok (.if_icmp .le 33, 3) := by decide +kernel
theorem dX7_set_112 : decode cX7_set 112 = .ok (.goto 20, 3) := by decide +kernel
theorem dX7_set_115 : decode cX7_set 115 = .ok (.iload 4, 2) := by decide +kernel
theorem dX7_set_117 : decode cX7_set 117 = .ok (.iload_n 3, 1) := by decide +kernel
theorem dX7_set_118 : decode cX7_set 118 = .ok (.sipush 240, 3) := by decide +kernel
theorem dX7_set_121 : decode cX7_set 121 = .ok (.if_icmp .ne 7, 3) := by decide +kernel
theorem dX7_set_124 : decode cX7_set 124 = .ok (.iconst 2, 1) := by decide +kernel
theorem dX7_set_125 : decode cX7_set 125 = .ok (.goto 4, 3) := by decide +kernel
theorem dX7_set_128 : decode cX7_set 128 = .ok (.iconst 1, 1) := by decide +kernel
theorem dX7_set_129 : decode cX7_set 129 = .ok (.if_icmp .eq 13, 3) := by decide +kernel
theorem dX7_set_132 : decode cX7_set 132 = .ok (.aload_n 0, 1) := by decide +kernel
theorem dX7_set_133 : decode cX7_set 133 = .ok (.iload_n 1, 1) := by decide +kernel
theorem dX7_set_134 : decode cX7_set 134 = .ok (.iload_n 2, 1) := by decide +kernel
theorem dX7_set_135 : decode cX7_set 135 = .ok (.iconst 1, 1) := by decide +kernel
theorem dX7_set_136 : decode cX7_set 136 = .ok (.invokevirtual 212, 3) := by decide +kernel
theorem dX7_set_139 : decode cX7_set 139 = .ok (.goto 126, 3) := by decide +kernel
theorem dX7_set_142 : decode cX7_set 142 = .ok (.aload_n 0, 1) := by decide +kernel
theorem dX7_set_143 : decode cX7_set 143 = .ok (.iload_n 1, 1) := by decide +kernel
theorem dX7_set_144 : decode cX7_set 144 = .ok (.iload_n 3, 1) := by decide +kernel
theorem dX7_set_145 : decode cX7_set 145 = .ok (.iload 4, 2) := by decide +kernel
theorem dX7_set_147 : decode cX7_set 147 = .ok (.invokevirtual 228, 3) := by decide +kernel
theorem dX7_set_150 : decode cX7_set 150 = .ok (.ifCond .ne 14, 3) := by decide +kernel
theorem dX7_set_153 : decode cX7_set 153 = .ok (.aload_n 0, 1) := by decide +kernel
theorem dX7_set_154 : decode cX7_set 154 = .ok (.iload_n 1, 1) := by decide +kernel
theorem dX7_set_155 : decode cX7_set 155 = .ok (.iload_n 2, 1) := by decide +kernel
theorem dX7_set_156 : decode cX7_set 156 = .ok (.bipush 6, 2) := by decide +kernel
theorem dX7_set_158 : decode cX7_set 158 = .ok (.invokevirtual 212, 3) := by decide +kernel
theorem dX7_set_161 : decode cX7_set 161 = .ok (.goto 104, 3) := by decide +kernel
theorem dX7_set_164 : decode cX7_set 164 = .ok (.iload_n 3, 1) := by decide +kernel
theorem dX7_set_165 : decode cX7_set 165 = .ok (.sipush 130, 3) := by decide +kernel
theorem dX7_set_168 : decode cX7_set 168 = .ok (.if_icmp .ne 14, 3) := by decide +kernel
theorem dX7_set_171 : decode cX7_set 171 = .ok (.aload_n 0, 1) := by decide +kernel
theorem dX7_set_172 : decode cX7_set 172 = .ok (.iload_n 1, 1) := by decide +kernel
theorem dX7_set_173 : decode cX7_set 173 = .ok (.iload_n 2, 1) := by decide +kernel
theorem dX7_set_174 : decode cX7_set 174 = .ok (.iload 4, 2) := by decide +kernel
theorem dX7_set_176 : decode cX7_set 176 = .ok (.invokevirtual 232, 3) := by decide +kernel
theorem dX7_set_179 : decode cX7_set 179 = .ok (.goto 86, 3) := by decide +kernel
theorem dX7_set_182 : decode cX7_set 182 = .ok (.iload_n 3, 1) := by decide +kernel
theorem dX7_set_183 : decode cX7_set 183 = .ok (.sipush 224, 3) := by decide +kernel
theorem dX7_set_186 : decode cX7_set 186 = .ok (.if_icmp .ne 18, 3) := by decide +kernel
theorem dX7_set_189 : decode cX7_set 189 = .ok (.aload_n 0, 1) := by decide +kernel
theorem dX7_set_190 : decode cX7_set 190 = .ok (.getfield 23, 3) := by decide +kernel
theorem dX7_set_193 : decode cX7_set 193 = .ok (.iload_n 1, 1) := by decide +kernel
theorem dX7_set_194 : decode cX7_set 194 = .ok (.aload_n 0, 1) := by decide +kernel
theorem dX7_set_195 : decode cX7_set 195 = .ok (.bipush 24, 2) := by decide +kernel
theorem dX7_set_197 : decode cX7_set 197 = .ok (.invokevirtual 123, 3) := by decide +kernel
theorem dX7_set_200 : decode cX7_set 200 = .ok (.iastore, 1) := by decide +kernel
theorem dX7_set_201 : decode cX7_set 201 = .ok (.goto 46, 3) := by decide +kernel
theorem dX7_set_204 : decode cX7_set 204 = .ok (.iload_n 3, 1) := by decide +kernel
theorem dX7_set_205 : decode cX7_set 205 = .ok (.sipush 240, 3) := by decide +kernel
theorem dX7_set_208 : decode cX7_set 208 = .ok (.if_icmp .ne 18, 3) := by decide +kernel
theorem dX7_set_211 : decode cX7_set 211 = .ok (.aload_n 0, 1) := by decide +kernel
theorem dX7_set_212 : decode cX7_set 212 = .ok (.getfield 26, 3) := by decide +kernel
theorem dX7_set_215 : decode cX7_set 215 = .ok (.iload_n 1, 1) := by decide +kernel
theorem dX7_set_216 : decode cX7_set 216 = .ok (.aload_n 0, 1) := by decide +kernel
theorem dX7_set_217 : decode cX7_set 217 = .ok (.bipush 24, 2) := by decide +kernel
theorem dX7_set_219 : decode cX7_set 219 = .ok (.invokevirtual 177, 3) := by decide +kernel
theorem dX7_set_222 : decode cX7_set 222 = .ok (.iastore, 1) := by decide +kernel
theorem dX7_set_223 : decode cX7_set 223 = .ok (.goto 24, 3) := by decide +kernel
theorem dX7_set_226 : decode cX7_set 226 = .ok (.aload_n 0, 1) := by decide +kernel
theorem dX7_set_227 : decode cX7_set 227 = .ok (.getfield 33, 3) := by decide +kernel
theorem dX7_set_230 : decode cX7_set 230 = .ok (.iload_n 1, 1) := by decide +kernel
theorem dX7_set_231 : decode cX7_set 231 = .ok (.aload_n 0, 1) := by decide +kernel
theorem dX7_set_232 : decode cX7_set 232 = .ok (.bipush 24, 2) := by decide +kernel
theorem dX7_set_234 : decode cX7_set 234 = .ok (.invokevirtual 123, 3) := by decide +kernel
theorem dX7_set_237 : decode cX7_set 237 = .ok (.iconst 1, 1) := by decide +kernel
theorem dX7_set_238 : decode cX7_set 238 = .ok (.if_icmp .ne 7, 3) := by decide +kernel
theorem dX7_set_241 : decode cX7_set 241 = .ok (.iconst 1, 1) := by decide +kernel
theorem dX7_set_242 : decode cX7_set 242 = .ok (.goto 4, 3) := by decide +kernel
theorem dX7_set_245 : decode cX7_set 245 = .ok (.iconst 0, 1) := by decide +kernel
theorem dX7_set_246 : decode cX7_set 246 = .ok (.bastore, 1) := by decide +kernel
theorem dX7_set_247 : decode cX7_set 247 = .ok (.iload_n 2, 1) := by decide +kernel
theorem dX7_set_248 : decode cX7_set 248 = .ok (.ifCond .eq 17, 3) := by decide +kernel
theorem dX7_set_251 : decode cX7_set 251 = .ok (.aload_n 0, 1) := by decide +kernel
theorem dX7_set_252 : decode cX7_set 252 = .ok (.iload_n 1, 1) := by decide +kernel
theorem dX7_set_253 : decode cX7_set 253 = .ok (.iconst 0, 1) := by decide +kernel
theorem dX7_set_254 : decode cX7_set 254 = .ok (.bipush 49, 2) := by decide +kernel
theorem dX7_set_256 : decode cX7_set 256 = .ok (.iload_n 3, 1) := by decide +kernel
theorem dX7_set_257 : decode cX7_set 257 = .ok (.invokevirtual 205, 3) := by decide +kernel
theorem dX7_set_260 : decode cX7_set 260 = .ok (.aload_n 0, 1) := by decide +kernel
theorem dX7_set_261 : decode cX7_set 261 = .ok (.iload_n 1, 1) := by decide +kernel
theorem dX7_set_262 : decode cX7_set 262 = .ok (.invokevirtual 209, 3) := by decide +kernel
theorem dX7_set_265 : decode cX7_set 265 = .ok (.return_, 1) := by decide +kernel
theorem dX7_mayBe_0 : decode cX7_mayBe 0 = .ok (.iload_n 2, 1) := by decide +kernel
theorem dX7_mayBe_1 : decode cX7_mayBe 1 = .ok (.sipush 130, 3) := by decide +kernel
theorem dX7_mayBe_4 : decode cX7_mayBe 4 = .ok (.if_icmp .ne 58, 3) := by decide +kernel
theorem dX7_mayBe_7 : decode cX7_mayBe 7 = .ok (.iconst 1, 1) := by decide +kernel
theorem dX7_mayBe_8 : decode cX7_mayBe 8 = .ok (.istore 4, 2) := by decide +kernel
theorem dX7_mayBe_10 : decode cX7_mayBe 10 = .ok (.iconst 0, 1) := by decide +kernel
theorem dX7_mayBe_11 : decode cX7_mayBe 11 = .ok (.istore 5, 2) := by decide +kernel
theorem dX7_mayBe_13 : decode cX7_mayBe 13 = .ok (.iload 5, 2) := by decide +kernel
theorem dX7_mayBe_15 : decode cX7_mayBe 15 = .ok (.iload_n 3, 1) := by decide +kernel
theorem dX7_mayBe_16 : decode cX7_mayBe 16 = .ok (.if_icmp .ge 43, 3) := by decide +kernel
theorem dX7_mayBe_19 : decode cX7_mayBe 19 = .ok (.iload 4, 2) := by decide +kernel
theorem dX7_mayBe_21 : decode cX7_mayBe 21 = .ok (.ifCond .eq 29, 3) := by decide +kernel
theorem dX7_mayBe_24 : decode cX7_mayBe 24 = .ok (.aload_n 0, 1) := by decide +kernel
theorem dX7_mayBe_25 : decode cX7_mayBe 25 = .ok (.bipush 24, 2) := by decide +kernel
theorem dX7_mayBe_27 : decode cX7_mayBe 27 = .ok (.iload 5, 2) := by decide +kernel
theorem dX7_mayBe_29 : decode cX7_mayBe 29 = .ok (.iadd, 1) := by decide +kernel
theorem dX7_mayBe_30 : decode cX7_mayBe 30 = .ok (.invokevirtual 123, 3) := by decide +kernel
theorem dX7_mayBe_33 : decode cX7_mayBe 33 = .ok (.i2l, 1) := by decide +kernel
theorem dX7_mayBe_34 : decode cX7_mayBe 34 = .ok (.ldc2_w 235, 3) := by decide +kernel
theorem dX7_mayBe_37 : decode cX7_mayBe 37 = .ok (.ldc2_w 237, 3) := by decide +kernel
theorem dX7_mayBe_40 : decode cX7_mayBe 40 = .ok (.invokestatic 101, 3) := by decide +kernel
theorem dX7_mayBe_43 : decode cX7_mayBe 43 = .ok (.ifCond .eq 7, 3) := by decide +kernel
theorem dX7_mayBe_46 : decode cX7_mayBe 46 = .ok (.iconst 1, 1) := by decide +kernel
theorem dX7_mayBe_47 : decode cX7_mayBe 47 = .ok (.goto 4, 3) := by decide +kernel
theorem dX7_mayBe_50 : decode cX7_mayBe 50 = .ok (.iconst 0, 1) := by decide +kernel
theorem dX7_mayBe_51 : decode cX7_mayBe 51 = .ok (.istore 4, 2) := by decide +kernel
theorem dX7_mayBe_53 : decode cX7_mayBe 53 = .ok (.iinc 5 1, 3) := by decide +kernel
theorem dX7_mayBe_56 : decode cX7_mayBe 56 = .ok (.goto (-43), 3) := by decide +kernel
theorem dX7_mayBe_59 : decode cX7_mayBe 59 = .ok (.iload 4, 2) := by decide +kernel
theorem dX7_mayBe_61 : decode cX7_mayBe 61 = .ok (.ireturn, 1) := by decide +kernel
theorem dX7_mayBe_62 : decode cX7_mayBe 62 = .ok (.iload_n 2, 1) := by decide +kernel
theorem dX7_mayBe_63 : decode cX7_mayBe 63 = .ok (.sipush 224, 3) := by decide +kernel
theorem dX7_mayBe_66 : decode cX7_mayBe 66 = .ok (.if_icmp .ne 56, 3) := by decide +kernel
theorem dX7_mayBe_69 : decode cX7_mayBe 69 = .ok (.aload_n 0, 1) := by decide +kernel
theorem dX7_mayBe_70 : decode cX7_mayBe 70 = .ok (.bipush 24, 2) := by decide +kernel
theorem dX7_mayBe_72 : decode cX7_mayBe 72 = .ok (.invokevirtual 123, 3) := by decide +kernel
theorem dX7_mayBe_75 : decode cX7_mayBe 75 = .ok (.i2l, 1) := by decide +kernel
theorem dX7_mayBe_76 : decode cX7_mayBe 76 = .ok (.lconst 1, 1) := by decide +kernel
theorem dX7_mayBe_77 : decode cX7_mayBe 77 = .ok (.aload_n 0, 1) := by decide +kernel
theorem dX7_mayBe_78 : decode cX7_mayBe 78 = .ok (.getfield 20, 3) := by decide +kernel
theorem dX7_mayBe_81 : decode cX7_mayBe 81 = .ok (.iload_n 1, 1) := by decide +kernel
theorem dX7_mayBe_82 : decode cX7_mayBe 82 = .ok (.iaload, 1) := by decide +kernel
theorem dX7_mayBe_83 : decode cX7_mayBe 83 = .ok (.i2l, 1) := by decide +kernel
theorem dX7_mayBe_84 : decode cX7_mayBe 84 = .ok (.invokestatic 101, 3) := by decide +kernel
theorem dX7_mayBe_87 : decode cX7_mayBe 87 = .ok (.ifCond .eq 33, 3) := by decide +kernel
theorem dX7_mayBe_90 : decode cX7_mayBe 90 = .ok (.aload_n 0, 1) := by decide +kernel
theorem dX7_mayBe_91 : decode cX7_mayBe 91 = .ok (.getfield 26, 3) := by decide +kernel
theorem dX7_mayBe_94 : decode cX7_mayBe 94 = .ok (.iload_n 1, 1) := by decide +kernel
theorem dX7_mayBe_95 : decode cX7_mayBe 95 = .ok (.iaload, 1) := by decide +kernel
theorem dX7_mayBe_96 : decode cX7_mayBe 96 = .ok (.aload_n 0, 1) := by decide +kernel
theorem dX7_mayBe_97 : decode cX7_mayBe 97 = .ok (.getfield 17, 3) := by decide +kernel
theorem dX7_mayBe_100 : decode cX7_mayBe 100 = .ok (.iload_n 1, 1) := by decide +kernel
theorem dX7_mayBe_101 : decode cX7_mayBe 101 = .ok (.iaload, 1) := by decide +kernel
theorem dX7_mayBe_102 : decode cX7_mayBe 102 = .ok (.aload_n 0, 1) := by decide +kernel
theorem dX7_mayBe_103 : decode cX7_mayBe 103 = .ok (.bipush 24, 2) := by decide +kernel
theorem dX7_mayBe_105 : decode cX7_mayBe 105 = .ok (.invokevirtual 123, 3) := by decide +kernel
theorem dX7_mayBe_108 : decode cX7_mayBe 108 = .ok (.imul, 1) := by decide +kernel
theorem dX7_mayBe_109 : decode cX7_mayBe 109 = .ok (.iadd, 1) := by decide +kernel
theorem dX7_mayBe_110 : decode cX7_mayBe 110 = .ok (.sipush 513, 3) := by decide +kernel
theorem dX7_mayBe_113 : decode cX7_mayBe 113 = .ok (.if_icmp .gt 7, 3) := by decide +kernel
theorem dX7_mayBe_116 : decode cX7_mayBe 116 = .ok (.iconst 1, 1) := by decide +kernel
theorem dX7_mayBe_117 : decode cX7_mayBe 117 = .ok (.goto 4, 3) := by decide +kernel
theorem dX7_mayBe_120 : decode cX7_mayBe 120 = .ok (.iconst 0, 1) := by decide +kernel
theorem dX7_mayBe_121 : decode cX7_mayBe 121 = .ok (.ireturn, 1) := by decide +kernel
theorem dX7_mayBe_122 : decode cX7_mayBe 122 = .ok (.iload_n 2, 1) := by decide +kernel
theorem dX7_mayBe_123 : decode cX7_mayBe 123 = .ok (.sipush 240, 3) := by decide +kernel
theorem dX7_mayBe_126 : decode cX7_mayBe 126 = .ok (.if_icmp .ne 46, 3) := by decide +kernel
theorem dX7_mayBe_129 : decode cX7_mayBe 129 = .ok (.aload_n 0, 1) := by decide +kernel
theorem dX7_mayBe_130 : decode cX7_mayBe 130 = .ok (.bipush 24, 2) := by decide +kernel
theorem dX7_mayBe_132 : decode cX7_mayBe 132 = .ok (.invokevirtual 177, 3) := by decide +kernel
theorem dX7_mayBe_135 : decode cX7_mayBe 135 = .ok (.i2l, 1) := by decide +kernel
theorem dX7_mayBe_136 : decode cX7_mayBe 136 = .ok (.lconst 1, 1) := by decide +kernel
theorem dX7_mayBe_137 : decode cX7_mayBe 137 = .ok (.ldc2_w 111, 3) := by decide +kernel
theorem dX7_mayBe_140 : decode cX7_mayBe 140 = .ok (.invokestatic 101, 3) := by decide +kernel
theorem dX7_mayBe_143 : decode cX7_mayBe 143 = .ok (.ifCond .eq 25, 3) := by decide +kernel
theorem dX7_mayBe_146 : decode cX7_mayBe 146 = .ok (.aload_n 0, 1) := by decide +kernel
theorem dX7_mayBe_147 : decode cX7_mayBe 147 = .ok (.bipush 24, 2) := by decide +kernel
theorem dX7_mayBe_149 : decode cX7_mayBe 149 = .ok (.invokevirtual 177, 3) := by decide +kernel
theorem dX7_mayBe_152 : decode cX7_mayBe 152 = .ok (.aload_n 0, 1) := by decide +kernel
theorem dX7_mayBe_153 : decode cX7_mayBe 153 = .ok (.iload_n 1, 1) := by decide +kernel
theorem dX7_mayBe_154 : decode cX7_mayBe 154 = .ok (.invokevirtual 173, 3) := by decide +kernel
theorem dX7_mayBe_157 : decode cX7_mayBe 157 = .ok (.iadd, 1) := by decide +kernel
theorem dX7_mayBe_158 : decode cX7_mayBe 158 = .ok (.sipush 513, 3) := by decide +kernel
theorem dX7_mayBe_161 : decode cX7_mayBe 161 = .ok (.if_icmp .gt 7, 3) := by decide +kernel
theorem dX7_mayBe_164 : decode cX7_mayBe 164 = .ok (.iconst 1, 1) := by decide +kernel
theorem dX7_mayBe_165 : decode cX7_mayBe 165 = .ok (.goto 22, 3) := by decide +kernel
theorem dX7_mayBe_168 : decode cX7_mayBe 168 = .ok (.iconst 0, 1) := by decide +kernel
theorem dX7_mayBe_169 : decode cX7_mayBe 169 = .ok (.goto 18, 3) := by decide +kernel
theorem dX7_mayBe_172 : decode cX7_mayBe 172 = .ok (.aload_n 0, 1) := by decide +kernel
theorem dX7_mayBe_173 : decode cX7_mayBe 173 = .ok (.bipush 24, 2) := by decide +kernel
theorem dX7_mayBe_175 : decode cX7_mayBe 175 = .ok (.invokevirtual 123, 3) := by decide +kernel
theorem dX7_mayBe_178 : decode cX7_mayBe 178 = .ok (.iconst 2, 1) := by decide +kernel
theorem dX7_mayBe_179 : decode cX7_mayBe 179 = .ok (.if_icmp .ge 7, 3) := by decide +kernel
theorem dX7_mayBe_182 : decode cX7_mayBe 182 = .ok (.iconst 1, 1) := by decide +kernel
theorem dX7_mayBe_183 : decode cX7_mayBe 183 = .ok (.goto 4, 3) := by decide +kernel
theorem dX7_mayBe_186 : decode cX7_mayBe 186 = .ok (.iconst 0, 1) := by decide +kernel
theorem dX7_mayBe_187 : decode cX7_mayBe 187 = .ok (.ireturn, 1) := by decide +kernel
theorem dX7_setLabel_0 : decode cX7_setLabel 0 = .ok (.iload_n 2, 1) := by decide +kernel
theorem dX7_setLabel_1 : decode cX7_setLabel 1 = .ok (.ifCond .ne 48, 3) := by decide +kernel
theorem dX7_setLabel_4 : decode cX7_setLabel 4 = .ok (.aload_n 0, 1) := by decide +kernel
theorem dX7_setLabel_5 : decode cX7_setLabel 5 = .ok (.getfield 36, 3) := by decide +kernel
theorem dX7_setLabel_8 : decode cX7_setLabel 8 = .ok (.iload_n 1, 1) := by decide +kernel
theorem dX7_setLabel_9 : decode cX7_setLabel 9 = .ok (.iload_n 3, 1) := by decide +kernel
theorem dX7_setLabel_10 : decode cX7_setLabel 10 = .ok (.iastore, 1) := by decide +kernel
theorem dX7_setLabel_11 : decode cX7_setLabel 11 = .ok (.iconst 0, 1) := by decide +kernel
theorem dX7_setLabel_12 : decode cX7_setLabel 12 = .ok (.istore 4, 2) := by decide +kernel
theorem dX7_setLabel_14 : decode cX7_setLabel 14 = .ok (.iload 4, 2) := by decide +kernel
theorem dX7_setLabel_16 : decode cX7_setLabel 16 = .ok (.iload_n 3, 1) := by decide +kernel
theorem dX7_setLabel_17 : decode cX7_setLabel 17 = .ok (.if_icmp .ge 31, 3) := by decide +kernel
theorem dX7_setLabel_20 : decode cX7_setLabel 20 = .ok (.aload_n 0, 1) := by decide +kernel
theorem dX7_setLabel_21 : decode cX7_setLabel 21 = .ok (.getfield 39, 3) := by decide +kernel
theorem dX7_setLabel_24 : decode cX7_setLabel 24 = .ok (.bipush 32, 2) := by decide +kernel
theorem dX7_setLabel_26 : decode cX7_setLabel 26 = .ok (.iload_n 1, 1) := by decide +kernel
theorem dX7_setLabel_27 : decode cX7_setLabel 27 = .ok (.imul, 1) := by decide +kernel
theorem dX7_setLabel_28 : decode cX7_setLabel 28 = .ok (.iload 4, 2) := by decide +kernel
theorem dX7_setLabel_30 : decode cX7_setLabel 30 = .ok (.iadd, 1) := by decide +kernel
theorem dX7_setLabel_31 : decode cX7_setLabel 31 = .ok (.aload_n 0, 1) := by decide +kernel
theorem dX7_setLabel_32 : decode cX7_setLabel 32 = .ok (.getfield 67, 3) := by decide +kernel
theorem dX7_setLabel_35 : decode cX7_setLabel 35 = .ok (.bipush 24, 2) := by decide +kernel
theorem dX7_setLabel_37 : decode cX7_setLabel 37 = .ok (.iload 4, 2) := by decide +kernel
theorem dX7_setLabel_39 : decode cX7_setLabel 39 = .ok (.iadd, 1) := by decide +kernel
theorem dX7_setLabel_40 : decode cX7_setLabel 40 = .ok (.baload, 1) := by decide +kernel
theorem dX7_setLabel_41 : decode cX7_setLabel 41 = .ok (.bastore, 1) := by decide +kernel
theorem dX7_setLabel_42 : decode cX7_setLabel 42 = .ok (.iinc 4 1, 3) := by decide +kernel
theorem dX7_setLabel_45 : decode cX7_setLabel 45 = .ok (.goto (-31), 3) := by decide +kernel
theorem dX7_setLabel_48 : decode cX7_setLabel 48 = .ok (.return_, 1) := by decide +kernel
theorem dX7_setLabel_49 : decode cX7_setLabel 49 = .ok (.aload_n 0, 1) := by decide +kernel
theorem dX7_setLabel_50 : decode cX7_setLabel 50 = .ok (.getfield 52, 3) := by decide +kernel
theorem dX7_setLabel_53 : decode cX7_setLabel 53 = .ok (.iload_n 1, 1) := by decide +kernel
theorem dX7_setLabel_54 : decode cX7_setLabel 54 = .ok (.iaload, 1) := by decide +kernel
theorem dX7_setLabel_55 : decode cX7_setLabel 55 = .ok (.iconst 4, 1) := by decide +kernel
theorem dX7_setLabel_56 : decode cX7_setLabel 56 = .ok (.if_icmp .ne 12, 3) := by decide +kernel
theorem dX7_setLabel_59 : decode cX7_setLabel 59 = .ok (.aload_n 0, 1) := by decide +kernel
theorem dX7_setLabel_60 : decode cX7_setLabel 60 = .ok (.iload_n 1, 1) := by decide +kernel
theorem dX7_setLabel_61 : decode cX7_setLabel 61 = .ok (.iconst 1, 1) := by decide +kernel
theorem dX7_setLabel_62 : decode cX7_setLabel 62 = .ok (.bipush 7, 2) := by decide +kernel
theorem dX7_setLabel_64 : decode cX7_setLabel 64 = .ok (.invokevirtual 212, 3) := by decide +kernel
theorem dX7_setLabel_67 : decode cX7_setLabel 67 = .ok (.return_, 1) := by decide +kernel
theorem dX7_setLabel_68 : decode cX7_setLabel 68 = .ok (.iconst 4, 1) := by decide +kernel
theorem dX7_setLabel_69 : decode cX7_setLabel 69 = .ok (.iload_n 1, 1) := by decide +kernel
theorem dX7_setLabel_70 : decode cX7_setLabel 70 = .ok (.imul, 1) := by decide +kernel
theorem dX7_setLabel_71 : decode cX7_setLabel 71 = .ok (.aload_n 0, 1) := by decide +kernel
theorem dX7_setLabel_72 : decode cX7_setLabel 72 = .ok (.getfield 52, 3) := by decide +kernel
theorem dX7_setLabel_75 : decode cX7_setLabel 75 = .ok (.iload_n 1, 1) := by decide +kernel
theorem dX7_setLabel_76 : decode cX7_setLabel 76 = .ok (.iaload, 1) := by decide +kernel
theorem dX7_setLabel_77 : decode cX7_setLabel 77 = .ok (.iadd, 1) := by decide +kernel
theorem dX7_setLabel_78 : decode cX7_setLabel 78 = .ok (.istore 4, 2) := by decide +kernel
theorem dX7_setLabel_80 : decode cX7_setLabel 80 = .ok (.aload_n 0, 1) := by decide +kernel
theorem dX7_setLabel_81 : decode cX7_setLabel 81 = .ok (.getfield 52, 3) := by decide +kernel
theorem dX7_setLabel_84 : decode cX7_setLabel 84 = .ok (.iload_n 1, 1) := by decide +kernel
theorem dX7_setLabel_85 : decode cX7_setLabel 85 = .ok (.dup2, 1) := by decide +kernel
theorem dX7_setLabel_86 : decode cX7_setLabel 86 = .ok (.iaload, 1) := by decide +kernel
theorem dX7_setLabel_87 : decode cX7_setLabel 87 = .ok (.iconst 1, 1) := by decide +kernel
theorem dX7_setLabel_88 : decode cX7_setLabel 88 = .ok (.iadd, 1) := by decide +kernel
theorem dX7_setLabel_89 : decode cX7_setLabel 89 = .ok (.iastore, 1) := by decide +kernel
theorem dX7_setLabel_90 : decode cX7_setLabel 90 = .ok (.aload_n 0, 1) := by decide +kernel
theorem dX7_setLabel_91 : decode cX7_setLabel 91 = .ok (.getfield 55, 3) := by decide +kernel
theorem dX7_setLabel_94 : decode cX7_setLabel 94 = .ok (.iload 4, 2) := by decide +kernel
theorem dX7_setLabel_96 : decode cX7_setLabel 96 = .ok (.aload_n 0, 1) := by decide +kernel
theorem dX7_setLabel_97 : decode cX7_setLabel 97 = .ok (.getfield 129, 3) := by decide +kernel
theorem dX7_setLabel_100 : decode cX7_setLabel 100 = .ok (.iconst 3, 1) := by decide +kernel
theorem dX7_setLabel_101 : decode cX7_setLabel 101 = .ok (.iadd, 1) := by decide +kernel
theorem dX7_setLabel_102 : decode cX7_setLabel 102 = .ok (.iastore, 1) := by decide +kernel
theorem dX7_setLabel_103 : decode cX7_setLabel 103 = .ok (.aload_n 0, 1) := by decide +kernel
theorem dX7_setLabel_104 : decode cX7_setLabel 104 = .ok (.getfield 58, 3) := by decide +kernel
theorem dX7_setLabel_107 : decode cX7_setLabel 107 = .ok (.iload 4, 2) := by decide +kernel
theorem dX7_setLabel_109 : decode cX7_setLabel 109 = .ok (.iload_n 3, 1) := by decide +kernel
theorem dX7_setLabel_110 : decode cX7_setLabel 110 = .ok (.iastore, 1) := by decide +kernel
theorem dX7_setLabel_111 : decode cX7_setLabel 111 = .ok (.iconst 0, 1) := by decide +kernel
theorem dX7_setLabel_112 : decode cX7_setLabel 112 = .ok (.istore 5, 2) := by decide +kernel
theorem dX7_setLabel_114 : decode cX7_setLabel 114 = .ok (.iload 5, 2) := by decide +kernel
theorem dX7_setLabel_116 : decode cX7_setLabel 116 = .ok (.iload_n 3, 1) := by decide +kernel
theorem dX7_setLabel_117 : decode cX7_setLabel 117 = .ok (.if_icmp .ge 32, 3) := by decide +kernel
theorem dX7_setLabel_120 : decode cX7_setLabel 120 = .ok (.aload_n 0, 1) := by decide +kernel
theorem dX7_setLabel_121 : decode cX7_setLabel 121 = .ok (.getfield 61, 3) := by decide +kernel
theorem dX7_setLabel_124 : decode cX7_setLabel 124 = .ok (.bipush 32, 2) := by decide +kernel
theorem dX7_setLabel_126 : decode cX7_setLabel 126 = .ok (.iload 4, 2) := by decide +kernel
theorem dX7_setLabel_128 : decode cX7_setLabel 128 = .ok (.imul, 1) := by decide +kernel
theorem dX7_setLabel_129 : decode cX7_setLabel 129 = .ok (.iload 5, 2) := by decide +kernel
theorem dX7_setLabel_131 : decode cX7_setLabel 131 = .ok (.iadd, 1) := by decide +kernel
theorem dX7_setLabel_132 : decode cX7_setLabel 132 = .ok (.aload_n 0, 1) := by decide +kernel
theorem dX7_setLabel_133 : decode cX7_setLabel 133 = .ok (.getfield 67, 3) := by decide +kernel
theorem dX7_setLabel_136 : decode cX7_setLabel 136 = .ok (.bipush 24, 2) := by decide +kernel
theorem dX7_setLabel_138 : decode cX7_setLabel 138 = .ok (.iload 5, 2) := by decide +kernel
theorem dX7_setLabel_140 : decode cX7_setLabel 140 = .ok (.iadd, 1) := by decide +kernel
theorem dX7_setLabel_141 : decode cX7_setLabel 141 = .ok (.baload, 1) := by decide +kernel
theorem dX7_setLabel_142 : decode cX7_setLabel 142 = .ok (.bastore, 1) := by decide +kernel
theorem dX7_setLabel_143 : decode cX7_setLabel 143 = .ok (.iinc 5 1, 3) := by decide +kernel
theorem dX7_setLabel_146 : decode cX7_setLabel 146 = .ok (.goto (-32), 3) := by decide +kernel
theorem dX7_setLabel_149 : decode cX7_setLabel 149 = .ok (.aload_n 0, 1) := by decide +kernel
theorem dX7_setLabel_150 : decode cX7_setLabel 150 = .ok (.iload_n 1, 1) := by decide +kernel
theorem dX7_setLabel_151 : decode cX7_setLabel 151 = .ok (.iconst 1, 1) := by decide +kernel
theorem dX7_setLabel_152 : decode cX7_setLabel 152 = .ok (.bipush 49, 2) := by decide +kernel
theorem dX7_setLabel_154 : decode cX7_setLabel 154 = .ok (.sipush 130, 3) := by decide +kernel
theorem dX7_setLabel_157 : decode cX7_setLabel 157 = .ok (.invokevirtual 205, 3) := by decide +kernel
theorem dX7_setLabel_160 : decode cX7_setLabel 160 = .ok (.aload_n 0, 1) := by decide +kernel
theorem dX7_setLabel_161 : decode cX7_setLabel 161 = .ok (.iconst 3, 1) := by decide +kernel
theorem dX7_setLabel_162 : decode cX7_setLabel 162 = .ok (.invokevirtual 187, 3) := by decide +kernel
theorem dX7_setLabel_165 : decode cX7_setLabel 165 = .ok (.aload_n 0, 1) := by decide +kernel
theorem dX7_setLabel_166 : decode cX7_setLabel 166 = .ok (.iload_n 1, 1) := by decide +kernel
theorem dX7_setLabel_167 : decode cX7_setLabel 167 = .ok (.invokevirtual 209, 3) := by decide +kernel
theorem dX7_setLabel_170 : decode cX7_setLabel 170 = .ok (.return_, 1) := by decide +kernel
theorem dX7_send_0 : decode cX7_send 0 = .ok (.aload_n 0, 1) := by decide +kernel
theorem dX7_send_1 : decode cX7_send 1 = .ok (.iconst 0, 1) := by decide +kernel
theorem dX7_send_2 : decode cX7_send 2 = .ok (.putfield 91, 3) := by decide +kernel
theorem dX7_send_5 : decode cX7_send 5 = .ok (.aload_n 0, 1) := by decide +kernel
theorem dX7_send_6 : decode cX7_send 6 = .ok (.aload_n 0, 1) := by decide +kernel
theorem dX7_send_7 : decode cX7_send 7 = .ok (.getfield 116, 3) := by decide +kernel
theorem dX7_send_10 : decode cX7_send 10 = .ok (.sipush 513, 3) := by decide +kernel
theorem dX7_send_13 : decode cX7_send 13 = .ok (.if_icmp .le 9, 3) := by decide +kernel
theorem dX7_send_16 : decode cX7_send 16 = .ok (.sipush 513, 3) := by decide +kernel
theorem dX7_send_19 : decode cX7_send 19 = .ok (.goto 7, 3) := by decide +kernel
theorem dX7_send_22 : decode cX7_send 22 = .ok (.aload_n 0, 1) := by decide +kernel
theorem dX7_send_23 : decode cX7_send 23 = .ok (.getfield 116, 3) := by decide +kernel
theorem dX7_send_26 : decode cX7_send 26 = .ok (.putfield 138, 3) := by decide +kernel
theorem dX7_send_29 : decode cX7_send 29 = .ok (.iconst 0, 1) := by decide +kernel
theorem dX7_send_30 : decode cX7_send 30 = .ok (.istore_n 1, 1) := by decide +kernel
theorem dX7_send_31 : decode cX7_send 31 = .ok (.iload_n 1, 1) := by decide +kernel
theorem dX7_send_32 : decode cX7_send 32 = .ok (.aload_n 0, 1) := by decide +kernel
theorem dX7_send_33 : decode cX7_send 33 = .ok (.getfield 138, 3) := by decide +kernel
theorem dX7_send_36 : decode cX7_send 36 = .ok (.if_icmp .ge 21, 3) := by decide +kernel
theorem dX7_send_39 : decode cX7_send 39 = .ok (.aload_n 0, 1) := by decide +kernel
theorem dX7_send_40 : decode cX7_send 40 = .ok (.getfield 67, 3) := by decide +kernel
theorem dX7_send_43 : decode cX7_send 43 = .ok (.iload_n 1, 1) := by decide +kernel
theorem dX7_send_44 : decode cX7_send 44 = .ok (.aload_n 0, 1) := by decide +kernel
theorem dX7_send_45 : decode cX7_send 45 = .ok (.getfield 64, 3) := by decide +kernel
theorem dX7_send_48 : decode cX7_send 48 = .ok (.iload_n 1, 1) := by decide +kernel
theorem dX7_send_49 : decode cX7_send 49 = .ok (.baload, 1) := by decide +kernel
theorem dX7_send_50 : decode cX7_send 50 = .ok (.bastore, 1) := by decide +kernel
theorem dX7_send_51 : decode cX7_send 51 = .ok (.iinc 1 1, 3) := by decide +kernel
theorem dX7_send_54 : decode cX7_send 54 = .ok (.goto (-23), 3) := by decide +kernel
theorem dX7_send_57 : decode cX7_send 57 = .ok (.aload_n 0, 1) := by decide +kernel
theorem dX7_send_58 : decode cX7_send 58 = .ok (.iconst 0, 1) := by decide +kernel
theorem dX7_send_59 : decode cX7_send 59 = .ok (.putfield 116, 3) := by decide +kernel
theorem dX7_send_62 : decode cX7_send 62 = .ok (.aload_n 0, 1) := by decide +kernel
theorem dX7_send_63 : decode cX7_send 63 = .ok (.invokevirtual 239, 3) := by decide +kernel
theorem dX7_send_66 : decode cX7_send 66 = .ok (.aload_n 0, 1) := by decide +kernel
theorem dX7_send_67 : decode cX7_send 67 = .ok (.getfield 135, 3) := by decide +kernel
theorem dX7_send_70 : decode cX7_send 70 = .ok (.ireturn, 1) := by decide +kernel
theorem dX7_answer_0 : decode cX7_answer 0 = .ok (.aload_n 0, 1) := by decide +kernel
theorem dX7_answer_1 : decode cX7_answer 1 = .ok (.iload_n 1, 1) := by decide +kernel
theorem dX7_answer_2 : decode cX7_answer 2 = .ok (.i2l, 1) := by decide +kernel
theorem dX7_answer_3 : decode cX7_answer 3 = .ok (.lconst 0, 1) := by decide +kernel
theorem dX7_answer_4 : decode cX7_answer 4 = .ok (.aload_n 0, 1) := by decide +kernel
theorem dX7_answer_5 : decode cX7_answer 5 = .ok (.getfield 135, 3) := by decide +kernel
theorem dX7_answer_8 : decode cX7_answer 8 = .ok (.iconst 1, 1) := by decide +kernel
theorem dX7_answer_9 : decode cX7_answer 9 = .ok (.isub, 1) := by decide +kernel
theorem dX7_answer_10 : decode cX7_answer 10 = .ok (.i2l, 1) := by decide +kernel
theorem dX7_answer_11 : decode cX7_answer 11 = .ok (.invokestatic 101, 3) := by decide +kernel
theorem dX7_answer_14 : decode cX7_answer 14 = .ok (.invokevirtual 119, 3) := by decide +kernel
theorem dX7_answer_17 : decode cX7_answer 17 = .ok (.ifCond .eq 16, 3) := by decide +kernel
theorem dX7_answer_20 : decode cX7_answer 20 = .ok (.aload_n 0, 1) := by decide +kernel
theorem dX7_answer_21 : decode cX7_answer 21 = .ok (.getfield 70, 3) := by decide +kernel
theorem dX7_answer_24 : decode cX7_answer 24 = .ok (.iload_n 1, 1) := by decide +kernel
theorem dX7_answer_25 : decode cX7_answer 25 = .ok (.baload, 1) := by decide +kernel
theorem dX7_answer_26 : decode cX7_answer 26 = .ok (.sipush 255, 3) := by decide +kernel
theorem dX7_answer_29 : decode cX7_answer 29 = .ok (.iand, 1) := by decide +kernel
theorem dX7_answer_30 : decode cX7_answer 30 = .ok (.goto 4, 3) := by decide +kernel
theorem dX7_answer_33 : decode cX7_answer 33 = .ok (.iconst 0, 1) := by decide +kernel
theorem dX7_answer_34 : decode cX7_answer 34 = .ok (.ireturn, 1) := by decide +kernel
theorem dX7_write_0 : decode cX7_write 0 = .ok (.aload_n 0, 1) := by decide +kernel
theorem dX7_write_1 : decode cX7_write 1 = .ok (.getfield 67, 3) := by decide +kernel
theorem dX7_write_4 : decode cX7_write 4 = .ok (.aload_n 0, 1) := by decide +kernel
theorem dX7_write_5 : decode cX7_write 5 = .ok (.getfield 138, 3) := by decide +kernel
theorem dX7_write_8 : decode cX7_write 8 = .ok (.iload_n 1, 1) := by decide +kernel
theorem dX7_write_9 : decode cX7_write 9 = .ok (.i2b, 1) := by decide +kernel
theorem dX7_write_10 : decode cX7_write 10 = .ok (.bastore, 1) := by decide +kernel
theorem dX7_write_11 : decode cX7_write 11 = .ok (.aload_n 0, 1) := by decide +kernel
theorem dX7_write_12 : decode cX7_write 12 = .ok (.dup, 1) := by decide +kernel
theorem dX7_write_13 : decode cX7_write 13 = .ok (.getfield 138, 3) := by decide +kernel
theorem dX7_write_16 : decode cX7_write 16 = .ok (.iconst 1, 1) := by decide +kernel
theorem dX7_write_17 : decode cX7_write 17 = .ok (.iadd, 1) := by decide +kernel
theorem dX7_write_18 : decode cX7_write 18 = .ok (.putfield 138, 3) := by decide +kernel
theorem dX7_write_21 : decode cX7_write 21 = .ok (.return_, 1) := by decide +kernel
theorem dX7_writeSix_0 : decode cX7_writeSix 0 = .ok (.bipush 40, 2) := by decide +kernel
theorem dX7_writeSix_2 : decode cX7_writeSix 2 = .ok (.istore_n 3, 1) := by decide +kernel
theorem dX7_writeSix_3 : decode cX7_writeSix 3 = .ok (.iload_n 3, 1) := by decide +kernel
theorem dX7_writeSix_4 : decode cX7_writeSix 4 = .ok (.ifCond .lt 17, 3) := by decide +kernel
theorem dX7_writeSix_7 : decode cX7_writeSix 7 = .ok (.aload_n 0, 1) := by decide +kernel
theorem dX7_writeSix_8 : decode cX7_writeSix 8 = .ok (.lload_n 1, 1) := by decide +kernel
theorem dX7_writeSix_9 : decode cX7_writeSix 9 = .ok (.iload_n 3, 1) := by decide +kernel
theorem dX7_writeSix_10 : decode cX7_writeSix 10 = .ok (.lshr, 1) := by decide +kernel
theorem dX7_writeSix_11 : decode cX7_writeSix 11 = .ok (.l2i, 1) := by decide +kernel
theorem dX7_writeSix_12 : decode cX7_writeSix 12 = .ok (.invokevirtual 242, 3) := by decide +kernel
theorem dX7_writeSix_15 : decode cX7_writeSix 15 = .ok (.iinc 3 (-8), 3) := by decide +kernel
theorem dX7_writeSix_18 : decode cX7_writeSix 18 = .ok (.goto (-15), 3) := by decide +kernel
theorem dX7_writeSix_21 : decode cX7_writeSix 21 = .ok (.return_, 1) := by decide +kernel
theorem dX7_beginPacket_0 : decode cX7_beginPacket 0 = .ok (.aload_n 0, 1) := by decide +kernel
theorem dX7_beginPacket_1 : decode cX7_beginPacket 1 = .ok (.aload_n 0, 1) := by decide +kernel
theorem dX7_beginPacket_2 : decode cX7_beginPacket 2 = .ok (.getfield 245, 3) := by decide +kernel
theorem dX7_beginPacket_5 : decode cX7_beginPacket 5 = .ok (.iconst 1, 1) := by decide +kernel
theorem dX7_beginPacket_6 : decode cX7_beginPacket 6 = .ok (.iadd, 1) := by decide +kernel
theorem dX7_beginPacket_7 : decode cX7_beginPacket 7 = .ok (.sipush 256, 3) := by decide +kernel
theorem dX7_beginPacket_10 : decode cX7_beginPacket 10 = .ok (.irem, 1) := by decide +kernel
theorem dX7_beginPacket_11 : decode cX7_beginPacket 11 = .ok (.putfield 245, 3) := by decide +kernel
theorem dX7_beginPacket_14 : decode cX7_beginPacket 14 = .ok (.aload_n 0, 1) := by decide +kernel
theorem dX7_beginPacket_15 : decode cX7_beginPacket 15 = .ok (.iconst 0, 1) := by decide +kernel
theorem dX7_beginPacket_16 : decode cX7_beginPacket 16 = .ok (.putfield 138, 3) := by decide +kernel
theorem dX7_beginPacket_19 : decode cX7_beginPacket 19 = .ok (.aload_n 0, 1) := by decide +kernel
theorem dX7_beginPacket_20 : decode cX7_beginPacket 20 = .ok (.sipush 204, 3) := by decide +kernel
theorem dX7_beginPacket_23 : decode cX7_beginPacket 23 = .ok (.invokevirtual 242, 3) := by decide +kernel
theorem dX7_beginPacket_26 : decode cX7_beginPacket 26 = .ok (.aload_n 0, 1) := by decide +kernel
theorem dX7_beginPacket_27 : decode cX7_beginPacket 27 = .ok (.iconst 1, 1) := by decide +kernel
theorem dX7_beginPacket_28 : decode cX7_beginPacket 28 = .ok (.invokevirtual 242, 3) := by decide +kernel
theorem dX7_beginPacket_31 : decode cX7_beginPacket 31 = .ok (.aload_n 0, 1) := by decide +kernel
theorem dX7_beginPacket_32 : decode cX7_beginPacket 32 = .ok (.iconst 0, 1) := by decide +kernel
theorem dX7_beginPacket_33 : decode cX7_beginPacket 33 = .ok (.invokevirtual 242, 3) := by decide +kernel
theorem dX7_beginPacket_36 : decode cX7_beginPacket 36 = .ok (.aload_n 0, 1) := by decide +kernel
theorem dX7_beginPacket_37 : decode cX7_beginPacket 37 = .ok (.lload_n 1, 1) := by decide +kernel
theorem dX7_beginPacket_38 : decode cX7_beginPacket 38 = .ok (.invokevirtual 248, 3) := by decide +kernel
theorem dX7_beginPacket_41 : decode cX7_beginPacket 41 = .ok (.aload_n 0, 1) := by decide +kernel
theorem dX7_beginPacket_42 : decode cX7_beginPacket 42 = .ok (.sipush 32766, 3) := by decide +kernel
theorem dX7_beginPacket_45 : decode cX7_beginPacket 45 = .ok (.lconst 1, 1) := by decide +kernel
theorem dX7_beginPacket_46 : decode cX7_beginPacket 46 = .ok (.invokestatic 95, 3) := by decide +kernel
theorem dX7_beginPacket_49 : decode cX7_beginPacket 49 = .ok (.invokevirtual 248, 3) := by decide +kernel
theorem dX7_beginPacket_52 : decode cX7_beginPacket 52 = .ok (.aload_n 0, 1) := by decide +kernel
theorem dX7_beginPacket_53 : decode cX7_beginPacket 53 = .ok (.aload_n 0, 1) := by decide +kernel
theorem dX7_beginPacket_54 : decode cX7_beginPacket 54 = .ok (.getfield 245, 3) := by decide +kernel
theorem dX7_beginPacket_57 : decode cX7_beginPacket 57 = .ok (.invokevirtual 242, 3) := by decide +kernel
theorem dX7_beginPacket_60 : decode cX7_beginPacket 60 = .ok (.aload_n 0, 1) := by decide +kernel
theorem dX7_beginPacket_61 : decode cX7_beginPacket 61 = .ok (.iconst 1, 1) := by decide +kernel
theorem dX7_beginPacket_62 : decode cX7_beginPacket 62 = .ok (.invokevirtual 242, 3) := by decide +kernel
theorem dX7_beginPacket_65 : decode cX7_beginPacket 65 = .ok (.aload_n 0, 1) := by decide +kernel
theorem dX7_beginPacket_66 : decode cX7_beginPacket 66 = .ok (.iconst 0, 1) := by decide +kernel
theorem dX7_beginPacket_67 : decode cX7_beginPacket 67 = .ok (.invokevirtual 242, 3) := by decide +kernel
theorem dX7_beginPacket_70 : decode cX7_beginPacket 70 = .ok (.aload_n 0, 1) := by decide +kernel
theorem dX7_beginPacket_71 : decode cX7_beginPacket 71 = .ok (.iload_n 3, 1) := by decide +kernel
theorem dX7_beginPacket_72 : decode cX7_beginPacket 72 = .ok (.bipush 8, 2) := by decide +kernel
theorem dX7_beginPacket_74 : decode cX7_beginPacket 74 = .ok (.ishr, 1) := by decide +kernel
theorem dX7_beginPacket_75 : decode cX7_beginPacket 75 = .ok (.invokevirtual 242, 3) := by decide +kernel
theorem dX7_beginPacket_78 : decode cX7_beginPacket 78 = .ok (.aload_n 0, 1) := by decide +kernel
theorem dX7_beginPacket_79 : decode cX7_beginPacket 79 = .ok (.iload_n 3, 1) := by decide +kernel
theorem dX7_beginPacket_80 : decode cX7_beginPacket 80 = .ok (.invokevirtual 242, 3) := by decide +kernel
theorem dX7_beginPacket_83 : decode cX7_beginPacket 83 = .ok (.aload_n 0, 1) := by decide +kernel
theorem dX7_beginPacket_84 : decode cX7_beginPacket 84 = .ok (.iload 4, 2) := by decide +kernel
theorem dX7_beginPacket_86 : decode cX7_beginPacket 86 = .ok (.invokevirtual 242, 3) := by decide +kernel
theorem dX7_beginPacket_89 : decode cX7_beginPacket 89 = .ok (.aload_n 0, 1) := by decide +kernel
theorem dX7_beginPacket_90 : decode cX7_beginPacket 90 = .ok (.iload 5, 2) := by decide +kernel
theorem dX7_beginPacket_92 : decode cX7_beginPacket 92 = .ok (.bipush 8, 2) := by decide +kernel
theorem dX7_beginPacket_94 : decode cX7_beginPacket 94 = .ok (.ishr, 1) := by decide +kernel
theorem dX7_beginPacket_95 : decode cX7_beginPacket 95 = .ok (.invokevirtual 242, 3) := by decide +kernel
theorem dX7_beginPacket_98 : decode cX7_beginPacket 98 = .ok (.aload_n 0, 1) := by decide +kernel
theorem dX7_beginPacket_99 : decode cX7_beginPacket 99 = .ok (.iload 5, 2) := by decide +kernel
theorem dX7_beginPacket_101 : decode cX7_beginPacket 101 = .ok (.invokevirtual 242, 3) := by decide +kernel
theorem dX7_beginPacket_104 : decode cX7_beginPacket 104 = .ok (.aload_n 0, 1) := by decide +kernel
theorem dX7_beginPacket_105 : decode cX7_beginPacket 105 = .ok (.iconst 0, 1) := by decide +kernel
theorem dX7_beginPacket_106 : decode cX7_beginPacket 106 = .ok (.invokevirtual 242, 3) := by decide +kernel
theorem dX7_beginPacket_109 : decode cX7_beginPacket 109 = .ok (.return_, 1) := by decide +kernel
theorem dX7_sendOff_0 : decode cX7_sendOff 0 = .ok (.aload_n 0, 1) := by decide +kernel
theorem dX7_sendOff_1 : decode cX7_sendOff 1 = .ok (.getfield 67, 3) := by decide +kernel
theorem dX7_sendOff_4 : decode cX7_sendOff 4 = .ok (.iconst 2, 1) := by decide +kernel
theorem dX7_sendOff_5 : decode cX7_sendOff 5 = .ok (.aload_n 0, 1) := by decide +kernel
theorem dX7_sendOff_6 : decode cX7_sendOff 6 = .ok (.getfield 138, 3) := by decide +kernel
theorem dX7_sendOff_9 : decode cX7_sendOff 9 = .ok (.i2b, 1) := by decide +kernel
theorem dX7_sendOff_10 : decode cX7_sendOff 10 = .ok (.bastore, 1) := by decide +kernel
theorem dX7_sendOff_11 : decode cX7_sendOff 11 = .ok (.aload_n 0, 1) := by decide +kernel
theorem dX7_sendOff_12 : decode cX7_sendOff 12 = .ok (.getfield 67, 3) := by decide +kernel
theorem dX7_sendOff_15 : decode cX7_sendOff 15 = .ok (.bipush 23, 2) := by decide +kernel
theorem dX7_sendOff_17 : decode cX7_sendOff 17 = .ok (.aload_n 0, 1) := by decide +kernel
theorem dX7_sendOff_18 : decode cX7_sendOff 18 = .ok (.getfield 138, 3) := by decide +kernel
theorem dX7_sendOff_21 : decode cX7_sendOff 21 = .ok (.bipush 24, 2) := by decide +kernel
theorem dX7_sendOff_23 : decode cX7_sendOff 23 = .ok (.isub, 1) := by decide +kernel
theorem dX7_sendOff_24 : decode cX7_sendOff 24 = .ok (.i2b, 1) := by decide +kernel
theorem dX7_sendOff_25 : decode cX7_sendOff 25 = .ok (.bastore, 1) := by decide +kernel
theorem dX7_sendOff_26 : decode cX7_sendOff 26 = .ok (.iconst 0, 1) := by decide +kernel
theorem dX7_sendOff_27 : decode cX7_sendOff 27 = .ok (.istore_n 1, 1) := by decide +kernel
theorem dX7_sendOff_28 : decode cX7_sendOff 28 = .ok (.iconst 0, 1) := by decide +kernel
theorem dX7_sendOff_29 : decode cX7_sendOff 29 = .ok (.istore_n 2, 1) := by decide +kernel
theorem dX7_sendOff_30 : decode cX7_sendOff 30 = .ok (.iload_n 2, 1) := by decide +kernel
theorem dX7_sendOff_31 : decode cX7_sendOff 31 = .ok (.aload_n 0, 1) := by decide +kernel
theorem dX7_sendOff_32 : decode cX7_sendOff 32 = .ok (.getfield 138, 3) := by decide +kernel
theorem dX7_sendOff_35 : decode cX7_sendOff 35 = .ok (.if_icmp .ge 17, 3) := by decide +kernel
theorem dX7_sendOff_38 : decode cX7_sendOff 38 = .ok (.iload_n 1, 1) := by decide +kernel
theorem dX7_sendOff_39 : decode cX7_sendOff 39 = .ok (.aload_n 0, 1) := by decide +kernel
theorem dX7_sendOff_40 : decode cX7_sendOff 40 = .ok (.iload_n 2, 1) := by decide +kernel
theorem dX7_sendOff_41 : decode cX7_sendOff 41 = .ok (.invokevirtual 123, 3) := by decide +kernel
theorem dX7_sendOff_44 : decode cX7_sendOff 44 = .ok (.iadd, 1) := by decide +kernel
theorem dX7_sendOff_45 : decode cX7_sendOff 45 = .ok (.istore_n 1, 1) := by decide +kernel
theorem dX7_sendOff_46 : decode cX7_sendOff 46 = .ok (.iinc 2 1, 3) := by decide +kernel
theorem dX7_sendOff_49 : decode cX7_sendOff 49 = .ok (.goto (-19), 3) := by decide +kernel
theorem dX7_sendOff_52 : decode cX7_sendOff 52 = .ok (.aload_n 0, 1) := by decide +kernel
theorem dX7_sendOff_53 : decode cX7_sendOff 53 = .ok (.iload_n 1, 1) := by decide +kernel
theorem dX7_sendOff_54 : decode cX7_sendOff 54 = .ok (.bipush 8, 2) := by decide +kernel
theorem dX7_sendOff_56 : decode cX7_sendOff 56 = .ok (.ishr, 1) := by decide +kernel
theorem dX7_sendOff_57 : decode cX7_sendOff 57 = .ok (.invokevirtual 242, 3) := by decide +kernel
theorem dX7_sendOff_60 : decode cX7_sendOff 60 = .ok (.aload_n 0, 1) := by decide +kernel
theorem dX7_sendOff_61 : decode cX7_sendOff 61 = .ok (.iload_n 1, 1) := by decide +kernel
theorem dX7_sendOff_62 : decode cX7_sendOff 62 = .ok (.invokevirtual 242, 3) := by decide +kernel
theorem dX7_sendOff_65 : decode cX7_sendOff 65 = .ok (.aload_n 0, 1) := by decide +kernel
theorem dX7_sendOff_66 : decode cX7_sendOff 66 = .ok (.invokevirtual 239, 3) := by decide +kernel
theorem dX7_sendOff_69 : decode cX7_sendOff 69 = .ok (.return_, 1) := by decide +kernel
theorem dX7_heard_0 : decode cX7_heard 0 = .ok (.aload_n 0, 1) := by decide +kernel
theorem dX7_heard_1 : decode cX7_heard 1 = .ok (.getfield 70, 3) := by decide +kernel
theorem dX7_heard_4 : decode cX7_heard 4 = .ok (.iload_n 1, 1) := by decide +kernel
theorem dX7_heard_5 : decode cX7_heard 5 = .ok (.baload, 1) := by decide +kernel
theorem dX7_heard_6 : decode cX7_heard 6 = .ok (.sipush 255, 3) := by decide +kernel
theorem dX7_heard_9 : decode cX7_heard 9 = .ok (.iand, 1) := by decide +kernel
theorem dX7_heard_10 : decode cX7_heard 10 = .ok (.ireturn, 1) := by decide +kernel
theorem dX7_heardSix_0 : decode cX7_heardSix 0 = .ok (.lconst 0, 1) := by decide +kernel
theorem dX7_heardSix_1 : decode cX7_heardSix 1 = .ok (.lstore_n 2, 1) := by decide +kernel
theorem dX7_heardSix_2 : decode cX7_heardSix 2 = .ok (.iconst 0, 1) := by decide +kernel
theorem dX7_heardSix_3 : decode cX7_heardSix 3 = .ok (.istore 4, 2) := by decide +kernel
theorem dX7_heardSix_5 : decode cX7_heardSix 5 = .ok (.iload 4, 2) := by decide +kernel
theorem dX7_heardSix_7 : decode cX7_heardSix 7 = .ok (.bipush 6, 2) := by decide +kernel
theorem dX7_heardSix_9 : decode cX7_heardSix 9 = .ok (.if_icmp .ge 25, 3) := by decide +kernel
theorem dX7_heardSix_12 : decode cX7_heardSix 12 = .ok (.lload_n 2, 1) := by decide +kernel
theorem dX7_heardSix_13 : decode cX7_heardSix 13 = .ok (.ldc2_w 127, 3) := by decide +kernel
theorem dX7_heardSix_16 : decode cX7_heardSix 16 = .ok (.lmul, 1) := by decide +kernel
theorem dX7_heardSix_17 : decode cX7_heardSix 17 = .ok (.aload_n 0, 1) := by decide +kernel
theorem dX7_heardSix_18 : decode cX7_heardSix 18 = .ok (.iload_n 1, 1) := by decide +kernel
theorem dX7_heardSix_19 : decode cX7_heardSix 19 = .ok (.iload 4, 2) := by decide +kernel
theorem dX7_heardSix_21 : decode cX7_heardSix 21 = .ok (.iadd, 1) := by decide +kernel
theorem dX7_heardSix_22 : decode cX7_heardSix 22 = .ok (.invokevirtual 251, 3) := by decide +kernel
theorem dX7_heardSix_25 : decode cX7_heardSix 25 = .ok (.i2l, 1) := by decide +kernel
theorem dX7_heardSix_26 : decode cX7_heardSix 26 = .ok (.ladd, 1) := by decide +kernel
theorem dX7_heardSix_27 : decode cX7_heardSix 27 = .ok (.lstore_n 2, 1) := by decide +kernel
theorem dX7_heardSix_28 : decode cX7_heardSix 28 = .ok (.iinc 4 1, 3) := by decide +kernel
theorem dX7_heardSix_31 : decode cX7_heardSix 31 = .ok (.goto (-26), 3) := by decide +kernel
theorem dX7_heardSix_34 : decode cX7_heardSix 34 = .ok (.lload_n 2, 1) := by decide +kernel
theorem dX7_heardSix_35 : decode cX7_heardSix 35 = .ok (.lreturn, 1) := by decide +kernel
theorem dX7_isReply_0 : decode cX7_isReply 0 = .ok (.aload_n 0, 1) := by decide +kernel
theorem dX7_isReply_1 : decode cX7_isReply 1 = .ok (.getfield 135, 3) := by decide +kernel
theorem dX7_isReply_4 : decode cX7_isReply 4 = .ok (.bipush 26, 2) := by decide +kernel
theorem dX7_isReply_6 : decode cX7_isReply 6 = .ok (.if_icmp .lt 64, 3) := by decide +kernel
theorem dX7_isReply_9 : decode cX7_isReply 9 = .ok (.aload_n 0, 1) := by decide +kernel
theorem dX7_isReply_10 : decode cX7_isReply 10 = .ok (.iconst 0, 1) := by decide +kernel
theorem dX7_isReply_11 : decode cX7_isReply 11 = .ok (.invokevirtual 251, 3) := by decide +kernel
theorem dX7_isReply_14 : decode cX7_isReply 14 = .ok (.sipush 204, 3) := by decide +kernel
theorem dX7_isReply_17 : decode cX7_isReply 17 = .ok (.if_icmp .ne 53, 3) := by decide +kernel
theorem dX7_isReply_20 : decode cX7_isReply 20 = .ok (.aload_n 0, 1) := by decide +kernel
theorem dX7_isReply_21 : decode cX7_isReply 21 = .ok (.iconst 1, 1) := by decide +kernel
theorem dX7_isReply_22 : decode cX7_isReply 22 = .ok (.invokevirtual 251, 3) := by decide +kernel
theorem dX7_isReply_25 : decode cX7_isReply 25 = .ok (.iconst 1, 1) := by decide +kernel
theorem dX7_isReply_26 : decode cX7_isReply 26 = .ok (.if_icmp .ne 44, 3) := by decide +kernel
theorem dX7_isReply_29 : decode cX7_isReply 29 = .ok (.aload_n 0, 1) := by decide +kernel
theorem dX7_isReply_30 : decode cX7_isReply 30 = .ok (.iconst 2, 1) := by decide +kernel
theorem dX7_isReply_31 : decode cX7_isReply 31 = .ok (.invokevirtual 251, 3) := by decide +kernel
theorem dX7_isReply_34 : decode cX7_isReply 34 = .ok (.bipush 24, 2) := by decide +kernel
theorem dX7_isReply_36 : decode cX7_isReply 36 = .ok (.if_icmp .lt 34, 3) := by decide +kernel
theorem dX7_isReply_39 : decode cX7_isReply 39 = .ok (.aload_n 0, 1) := by decide +kernel
theorem dX7_isReply_40 : decode cX7_isReply 40 = .ok (.getfield 135, 3) := by decide +kernel
theorem dX7_isReply_43 : decode cX7_isReply 43 = .ok (.aload_n 0, 1) := by decide +kernel
theorem dX7_isReply_44 : decode cX7_isReply 44 = .ok (.iconst 2, 1) := by decide +kernel
theorem dX7_isReply_45 : decode cX7_isReply 45 = .ok (.invokevirtual 251, 3) := by decide +kernel
theorem dX7_isReply_48 : decode cX7_isReply 48 = .ok (.iconst 2, 1) := by decide +kernel
theorem dX7_isReply_49 : decode cX7_isReply 49 = .ok (.iadd, 1) := by decide +kernel
theorem dX7_isReply_50 : decode cX7_isReply 50 = .ok (.if_icmp .ne 20, 3) := by decide +kernel
theorem dX7_isReply_53 : decode cX7_isReply 53 = .ok (.aload_n 0, 1) := by decide +kernel
theorem dX7_isReply_54 : decode cX7_isReply 54 = .ok (.bipush 23, 2) := by decide +kernel
theorem dX7_isReply_56 : decode cX7_isReply 56 = .ok (.invokevirtual 251, 3) := by decide +kernel
theorem dX7_isReply_59 : decode cX7_isReply 59 = .ok (.aload_n 0, 1) := by decide +kernel
theorem dX7_isReply_60 : decode cX7_isReply 60 = .ok (.iconst 2, 1) := by decide +kernel
theorem dX7_isReply_61 : decode cX7_isReply 61 = .ok (.invokevirtual 251, 3) := by decide +kernel
theorem dX7_isReply_64 : decode cX7_isReply 64 = .ok (.bipush 24, 2) := by decide +kernel
theorem dX7_isReply_66 : decode cX7_isReply 66 = .ok (.isub, 1) := by decide +kernel
theorem dX7_isReply_67 : decode cX7_isReply 67 = .ok (.if_icmp .eq 5, 3) := by decide +kernel
theorem dX7_isReply_70 : decode cX7_isReply 70 = .ok (.iconst 0, 1) := by decide +kernel
theorem dX7_isReply_71 : decode cX7_isReply 71 = .ok (.ireturn, 1) := by decide +kernel
theorem dX7_isReply_72 : decode cX7_isReply 72 = .ok (.iconst 0, 1) := by decide +kernel
theorem dX7_isReply_73 : decode cX7_isReply 73 = .ok (.istore_n 3, 1) := by decide +kernel
theorem dX7_isReply_74 : decode cX7_isReply 74 = .ok (.iconst 0, 1) := by decide +kernel
theorem dX7_isReply_75 : decode cX7_isReply 75 = .ok (.istore 4, 2) := by decide +kernel
theorem dX7_isReply_77 : decode cX7_isReply 77 = .ok (.iload 4, 2) := by decide +kernel
theorem dX7_isReply_79 : decode cX7_isReply 79 = .ok (.aload_n 0, 1) := by decide +kernel
theorem dX7_isReply_80 : decode cX7_isReply 80 = .ok (.iconst 2, 1) := by decide +kernel
theorem dX7_isReply_81 : decode cX7_isReply 81 = .ok (.invokevirtual 251, 3) := by decide +kernel
theorem dX7_isReply_84 : decode cX7_isReply 84 = .ok (.if_icmp .ge 18, 3) := by decide +kernel
theorem dX7_isReply_87 : decode cX7_isReply 87 = .ok (.iload_n 3, 1) := by decide +kernel
theorem dX7_isReply_88 : decode cX7_isReply 88 = .ok (.aload_n 0, 1) := by decide +kernel
theorem dX7_isReply_89 : decode cX7_isReply 89 = .ok (.iload 4, 2) := by decide +kernel
theorem dX7_isReply_91 : decode cX7_isReply 91 = .ok (.invokevirtual 251, 3) := by decide +kernel
theorem dX7_isReply_94 : decode cX7_isReply 94 = .ok (.iadd, 1) := by decide +kernel
theorem dX7_isReply_95 : decode cX7_isReply 95 = .ok (.istore_n 3, 1) := by decide +kernel
theorem dX7_isReply_96 : decode cX7_isReply 96 = .ok (.iinc 4 1, 3) := by decide +kernel
theorem dX7_isReply_99 : decode cX7_isReply 99 = .ok (.goto (-22), 3) := by decide +kernel
theorem dX7_isReply_102 : decode cX7_isReply 102 = .ok (.iload_n 3, 1) := by decide +kernel
theorem dX7_isReply_103 : decode cX7_isReply 103 = .ok (.ldc 176, 2) := by decide +kernel
theorem dX7_isReply_105 : decode cX7_isReply 105 = .ok (.irem, 1) := by decide +kernel
theorem dX7_isReply_106 : decode cX7_isReply 106 = .ok (.aload_n 0, 1) := by decide +kernel
theorem dX7_isReply_107 : decode cX7_isReply 107 = .ok (.aload_n 0, 1) := by decide +kernel
theorem dX7_isReply_108 : decode cX7_isReply 108 = .ok (.iconst 2, 1) := by decide +kernel
theorem dX7_isReply_109 : decode cX7_isReply 109 = .ok (.invokevirtual 251, 3) := by decide +kernel
theorem dX7_isReply_112 : decode cX7_isReply 112 = .ok (.invokevirtual 251, 3) := by decide +kernel
theorem dX7_isReply_115 : decode cX7_isReply 115 = .ok (.sipush 256, 3) := by decide +kernel
theorem dX7_isReply_118 : decode cX7_isReply 118 = .ok (.imul, 1) := by decide +kernel
theorem dX7_isReply_119 : decode cX7_isReply 119 = .ok (.aload_n 0, 1) := by decide +kernel
theorem dX7_isReply_120 : decode cX7_isReply 120 = .ok (.aload_n 0, 1) := by decide +kernel
theorem dX7_isReply_121 : decode cX7_isReply 121 = .ok (.iconst 2, 1) := by decide +kernel
theorem dX7_isReply_122 : decode cX7_isReply 122 = .ok (.invokevirtual 251, 3) := by decide +kernel
theorem dX7_isReply_125 : decode cX7_isReply 125 = .ok (.iconst 1, 1) := by decide +kernel
theorem dX7_isReply_126 : decode cX7_isReply 126 = .ok (.iadd, 1) := by decide +kernel
theorem dX7_isReply_127 : decode cX7_isReply 127 = .ok (.invokevirtual 251, 3) := by decide +kernel
theorem dX7_isReply_130 : decode cX7_isReply 130 = .ok (.iadd, 1) := by decide +kernel
theorem dX7_isReply_131 : decode cX7_isReply 131 = .ok (.if_icmp .ne 7, 3) := by decide +kernel
theorem dX7_isReply_134 : decode cX7_isReply 134 = .ok (.iconst 1, 1) := by decide +kernel
theorem dX7_isReply_135 : decode cX7_isReply 135 = .ok (.goto 4, 3) := by decide +kernel
theorem dX7_isReply_138 : decode cX7_isReply 138 = .ok (.iconst 0, 1) := by decide +kernel
theorem dX7_isReply_139 : decode cX7_isReply 139 = .ok (.istore 4, 2) := by decide +kernel
theorem dX7_isReply_141 : decode cX7_isReply 141 = .ok (.iload 4, 2) := by decide +kernel
theorem dX7_isReply_143 : decode cX7_isReply 143 = .ok (.ifCond .eq 47, 3) := by decide +kernel
theorem dX7_isReply_146 : decode cX7_isReply 146 = .ok (.aload_n 0, 1) := by decide +kernel
theorem dX7_isReply_147 : decode cX7_isReply 147 = .ok (.iconst 3, 1) := by decide +kernel
theorem dX7_isReply_148 : decode cX7_isReply 148 = .ok (.invokevirtual 254, 3) := by decide +kernel
theorem dX7_isReply_151 : decode cX7_isReply 151 = .ok (.sipush 32766, 3) := by decide +kernel
theorem dX7_isReply_154 : decode cX7_isReply 154 = .ok (.lconst 1, 1) := by decide +kernel
theorem dX7_isReply_155 : decode cX7_isReply 155 = .ok (.invokestatic 95, 3) := by decide +kernel
theorem dX7_isReply_158 : decode cX7_isReply 158 = .ok (.lcmp, 1) := by decide +kernel
theorem dX7_isReply_159 : decode cX7_isReply 159 = .ok (.ifCond .ne 31, 3) := by decide +kernel
theorem dX7_isReply_162 : decode cX7_isReply 162 = .ok (.aload_n 0, 1) := by decide +kernel
theorem dX7_isReply_163 : decode cX7_isReply 163 = .ok (.bipush 9, 2) := by decide +kernel
theorem dX7_isReply_165 : decode cX7_isReply 165 = .ok (.invokevirtual 254, 3) := by decide +kernel
theorem dX7_isReply_168 : decode cX7_isReply 168 = .ok (.lload_n 1, 1) := by decide +kernel
theorem dX7_isReply_169 : decode cX7_isReply 169 = .ok (.lcmp, 1) := by decide +kernel
theorem dX7_isReply_170 : decode cX7_isReply 170 = .ok (.ifCond .ne 20, 3) := by decide +kernel
theorem dX7_isReply_173 : decode cX7_isReply 173 = .ok (.aload_n 0, 1) := by decide +kernel
theorem dX7_isReply_174 : decode cX7_isReply 174 = .ok (.bipush 15, 2) := by decide +kernel
theorem dX7_isReply_176 : decode cX7_isReply 176 = .ok (.invokevirtual 251, 3) := by decide +kernel
theorem dX7_isReply_179 : decode cX7_isReply 179 = .ok (.aload_n 0, 1) := by decide +kernel
theorem dX7_isReply_180 : decode cX7_isReply 180 = .ok (.getfield 245, 3) := by decide +kernel
theorem dX7_isReply_183 : decode cX7_isReply 183 = .ok (.if_icmp .ne 7, 3) := by decide +kernel
theorem dX7_isReply_186 : decode cX7_isReply 186 = .ok (.iconst 1, 1) := by decide +kernel
theorem dX7_isReply_187 : decode cX7_isReply 187 = .ok (.goto 4, 3) := by decide +kernel
theorem dX7_isReply_190 : decode cX7_isReply 190 = .ok (.iconst 0, 1) := by decide +kernel
theorem dX7_isReply_191 : decode cX7_isReply 191 = .ok (.ireturn, 1) := by decide +kernel
theorem dX7_ask_0 : decode cX7_ask 0 = .ok (.aload_n 0, 1) := by decide +kernel
theorem dX7_ask_1 : decode cX7_ask 1 = .ok (.iload_n 1, 1) := by decide +kernel
theorem dX7_ask_2 : decode cX7_ask 2 = .ok (.i2l, 1) := by decide +kernel
theorem dX7_ask_3 : decode cX7_ask 3 = .ok (.lconst 0, 1) := by decide +kernel
theorem dX7_ask_4 : decode cX7_ask 4 = .ok (.ldc2_w 158, 3) := by decide +kernel
theorem dX7_ask_7 : decode cX7_ask 7 = .ok (.invokestatic 101, 3) := by decide +kernel
theorem dX7_ask_10 : decode cX7_ask 10 = .ok (.ifCond .eq 57, 3) := by decide +kernel
theorem dX7_ask_13 : decode cX7_ask 13 = .ok (.lload_n 2, 1) := by decide +kernel
theorem dX7_ask_14 : decode cX7_ask 14 = .ok (.lconst 0, 1) := by decide +kernel
theorem dX7_ask_15 : decode cX7_ask 15 = .ok (.ldc2_w 156, 3) := by decide +kernel
theorem dX7_ask_18 : decode cX7_ask 18 = .ok (.invokestatic 101, 3) := by decide +kernel
theorem dX7_ask_21 : decode cX7_ask 21 = .ok (.ifCond .eq 46, 3) := by decide +kernel
theorem dX7_ask_24 : decode cX7_ask 24 = .ok (.iload 4, 2) := by decide +kernel
theorem dX7_ask_26 : decode cX7_ask 26 = .ok (.i2l, 1) := by decide +kernel
theorem dX7_ask_27 : decode cX7_ask 27 = .ok (.lconst 0, 1) := by decide +kernel
theorem dX7_ask_28 : decode cX7_ask 28 = .ok (.ldc2_w 158, 3) := by decide +kernel
theorem dX7_ask_31 : decode cX7_ask 31 = .ok (.invokestatic 101, 3) := by decide +kernel
theorem dX7_ask_34 : decode cX7_ask 34 = .ok (.ifCond .eq 33, 3) := by decide +kernel
theorem dX7_ask_37 : decode cX7_ask 37 = .ok (.iload 5, 2) := by decide +kernel
theorem dX7_ask_39 : decode cX7_ask 39 = .ok (.i2l, 1) := by decide +kernel
theorem dX7_ask_40 : decode cX7_ask 40 = .ok (.lconst 0, 1) := by decide +kernel
theorem dX7_ask_41 : decode cX7_ask 41 = .ok (.ldc2_w 257, 3) := by decide +kernel
theorem dX7_ask_44 : decode cX7_ask 44 = .ok (.invokestatic 101, 3) := by decide +kernel
theorem dX7_ask_47 : decode cX7_ask 47 = .ok (.ifCond .eq 20, 3) := by decide +kernel
theorem dX7_ask_50 : decode cX7_ask 50 = .ok (.iload 6, 2) := by decide +kernel
theorem dX7_ask_52 : decode cX7_ask 52 = .ok (.i2l, 1) := by decide +kernel
theorem dX7_ask_53 : decode cX7_ask 53 = .ok (.lconst 0, 1) := by decide +kernel
theorem dX7_ask_54 : decode cX7_ask 54 = .ok (.ldc2_w 158, 3) := by decide +kernel
theorem dX7_ask_57 : decode cX7_ask 57 = .ok (.invokestatic 101, 3) := by decide +kernel
theorem dX7_ask_60 : decode cX7_ask 60 = .ok (.ifCond .eq 7, 3) := by decide +kernel
theorem dX7_ask_63 : decode cX7_ask 63 = .ok (.iconst 1, 1) := by decide +kernel
theorem dX7_ask_64 : decode cX7_ask 64 = .ok (.goto 4, 3) := by decide +kernel
theorem dX7_ask_67 : decode cX7_ask 67 = .ok (.iconst 0, 1) := by decide +kernel
theorem dX7_ask_68 : decode cX7_ask 68 = .ok (.invokevirtual 119, 3) := by decide +kernel
theorem dX7_ask_71 : decode cX7_ask 71 = .ok (.ifCond .ne 5, 3) := by decide +kernel
theorem dX7_ask_74 : decode cX7_ask 74 = .ok (.iconst 0, 1) := by decide +kernel
theorem dX7_ask_75 : decode cX7_ask 75 = .ok (.ireturn, 1) := by decide +kernel
theorem dX7_ask_76 : decode cX7_ask 76 = .ok (.aload_n 0, 1) := by decide +kernel
theorem dX7_ask_77 : decode cX7_ask 77 = .ok (.iload_n 1, 1) := by decide +kernel
theorem dX7_ask_78 : decode cX7_ask 78 = .ok (.lload_n 2, 1) := by decide +kernel
theorem dX7_ask_79 : decode cX7_ask 79 = .ok (.invokestatic 95, 3) := by decide +kernel
theorem dX7_ask_82 : decode cX7_ask 82 = .ok (.iload 4, 2) := by decide +kernel
theorem dX7_ask_84 : decode cX7_ask 84 = .ok (.iload 5, 2) := by decide +kernel
theorem dX7_ask_86 : decode cX7_ask 86 = .ok (.iload 6, 2) := by decide +kernel
theorem dX7_ask_88 : decode cX7_ask 88 = .ok (.invokevirtual 259, 3) := by decide +kernel
theorem dX7_ask_91 : decode cX7_ask 91 = .ok (.iconst 0, 1) := by decide +kernel
theorem dX7_ask_92 : decode cX7_ask 92 = .ok (.istore 7, 2) := by decide +kernel
theorem dX7_ask_94 : decode cX7_ask 94 = .ok (.iload 7, 2) := by decide +kernel
theorem dX7_ask_96 : decode cX7_ask 96 = .ok (.aload_n 0, 1) := by decide +kernel
theorem dX7_ask_97 : decode cX7_ask 97 = .ok (.getfield 116, 3) := by decide +kernel
theorem dX7_ask_100 : decode cX7_ask 100 = .ok (.if_icmp .ge 28, 3) := by decide +kernel
theorem dX7_ask_103 : decode cX7_ask 103 = .ok (.iload 7, 2) := by decide +kernel
theorem dX7_ask_105 : decode cX7_ask 105 = .ok (.sipush 231, 3) := by decide +kernel
theorem dX7_ask_108 : decode cX7_ask 108 = .ok (.if_icmp .ge 20, 3) := by decide +kernel
theorem dX7_ask_111 : decode cX7_ask 111 = .ok (.aload_n 0, 1) := by decide +kernel
theorem dX7_ask_112 : decode cX7_ask 112 = .ok (.aload_n 0, 1) := by decide +kernel
theorem dX7_ask_113 : decode cX7_ask 113 = .ok (.getfield 64, 3) := by decide +kernel
theorem dX7_ask_116 : decode cX7_ask 116 = .ok (.iload 7, 2) := by decide +kernel
theorem dX7_ask_118 : decode cX7_ask 118 = .ok (.baload, 1) := by decide +kernel
theorem dX7_ask_119 : decode cX7_ask 119 = .ok (.invokevirtual 242, 3) := by decide +kernel
theorem dX7_ask_122 : decode cX7_ask 122 = .ok (.iinc 7 1, 3) := by decide +kernel
theorem dX7_ask_125 : decode cX7_ask 125 = .ok (.goto (-31), 3) := by decide +kernel
theorem dX7_ask_128 : decode cX7_ask 128 = .ok (.aload_n 0, 1) := by decide +kernel
theorem dX7_ask_129 : decode cX7_ask 129 = .ok (.iconst 0, 1) := by decide +kernel
theorem dX7_ask_130 : decode cX7_ask 130 = .ok (.putfield 116, 3) := by decide +kernel
theorem dX7_ask_133 : decode cX7_ask 133 = .ok (.aload_n 0, 1) := by decide +kernel
theorem dX7_ask_134 : decode cX7_ask 134 = .ok (.invokevirtual 263, 3) := by decide +kernel
theorem dX7_ask_137 : decode cX7_ask 137 = .ok (.aload_n 0, 1) := by decide +kernel
theorem dX7_ask_138 : decode cX7_ask 138 = .ok (.getfield 135, 3) := by decide +kernel
theorem dX7_ask_141 : decode cX7_ask 141 = .ok (.ifCond .ne 7, 3) := by decide +kernel
theorem dX7_ask_144 : decode cX7_ask 144 = .ok (.iconst (-1), 1) := by decide +kernel
theorem dX7_ask_145 : decode cX7_ask 145 = .ok (.goto 26, 3) := by decide +kernel
theorem dX7_ask_148 : decode cX7_ask 148 = .ok (.aload_n 0, 1) := by decide +kernel
theorem dX7_ask_149 : decode cX7_ask 149 = .ok (.iload_n 1, 1) := by decide +kernel
theorem dX7_ask_150 : decode cX7_ask 150 = .ok (.lload_n 2, 1) := by decide +kernel
theorem dX7_ask_151 : decode cX7_ask 151 = .ok (.invokestatic 95, 3) := by decide +kernel
theorem dX7_ask_154 : decode cX7_ask 154 = .ok (.invokevirtual 266, 3) := by decide +kernel
theorem dX7_ask_157 : decode cX7_ask 157 = .ok (.ifCond .eq 12, 3) := by decide +kernel
theorem dX7_ask_160 : decode cX7_ask 160 = .ok (.aload_n 0, 1) := by decide +kernel
theorem dX7_ask_161 : decode cX7_ask 161 = .ok (.bipush 16, 2) := by decide +kernel
theorem dX7_ask_163 : decode cX7_ask 163 = .ok (.invokevirtual 251, 3) := by decide +kernel
theorem dX7_ask_166 : decode cX7_ask 166 = .ok (.goto 5, 3) := by decide +kernel
theorem dX7_ask_169 : decode cX7_ask 169 = .ok (.bipush (-2), 2) := by decide +kernel
theorem dX7_ask_171 : decode cX7_ask 171 = .ok (.ireturn, 1) := by decide +kernel
theorem dX7_spoil_0 : decode cX7_spoil 0 = .ok (.aload_n 0, 1) := by decide +kernel
theorem dX7_spoil_1 : decode cX7_spoil 1 = .ok (.iload_n 1, 1) := by decide +kernel
theorem dX7_spoil_2 : decode cX7_spoil 2 = .ok (.i2l, 1) := by decide +kernel
theorem dX7_spoil_3 : decode cX7_spoil 3 = .ok (.lconst 0, 1) := by decide +kernel
theorem dX7_spoil_4 : decode cX7_spoil 4 = .ok (.ldc2_w 270, 3) := by decide +kernel
theorem dX7_spoil_7 : decode cX7_spoil 7 = .ok (.invokestatic 101, 3) := by decide +kernel
theorem dX7_spoil_10 : decode cX7_spoil 10 = .ok (.invokevirtual 119, 3) := by decide +kernel
theorem dX7_spoil_13 : decode cX7_spoil 13 = .ok (.ifCond .ne 4, 3) := by decide +kernel
theorem dX7_spoil_16 : decode cX7_spoil 16 = .ok (.return_, 1) := by decide +kernel
theorem dX7_spoil_17 : decode cX7_spoil 17 = .ok (.aload_n 0, 1) := by decide +kernel
theorem dX7_spoil_18 : decode cX7_spoil 18 = .ok (.getfield 170, 3) := by decide +kernel
theorem dX7_spoil_21 : decode cX7_spoil 21 = .ok (.bipush 16, 2) := by decide +kernel
theorem dX7_spoil_23 : decode cX7_spoil 23 = .ok (.if_icmp .ne 57, 3) := by decide +kernel
theorem dX7_spoil_26 : decode cX7_spoil 26 = .ok (.aload_n 0, 1) := by decide +kernel
theorem dX7_spoil_27 : decode cX7_spoil 27 = .ok (.dup, 1) := by decide +kernel
theorem dX7_spoil_28 : decode cX7_spoil 28 = .ok (.getfield 170, 3) := by decide +kernel
theorem dX7_spoil_31 : decode cX7_spoil 31 = .ok (.iconst 1, 1) := by decide +kernel
theorem dX7_spoil_32 : decode cX7_spoil 32 = .ok (.isub, 1) := by decide +kernel
theorem dX7_spoil_33 : decode cX7_spoil 33 = .ok (.putfield 170, 3) := by decide +kernel
theorem dX7_spoil_36 : decode cX7_spoil 36 = .ok (.iconst 0, 1) := by decide +kernel
theorem dX7_spoil_37 : decode cX7_spoil 37 = .ok (.istore_n 3, 1) := by decide +kernel
theorem dX7_spoil_38 : decode cX7_spoil 38 = .ok (.iload_n 3, 1) := by decide +kernel
theorem dX7_spoil_39 : decode cX7_spoil 39 = .ok (.aload_n 0, 1) := by decide +kernel
theorem dX7_spoil_40 : decode cX7_spoil 40 = .ok (.getfield 170, 3) := by decide +kernel
theorem dX7_spoil_43 : decode cX7_spoil 43 = .ok (.if_icmp .ge 37, 3) := by decide +kernel
theorem dX7_spoil_46 : decode cX7_spoil 46 = .ok (.aload_n 0, 1) := by decide +kernel
theorem dX7_spoil_47 : decode cX7_spoil 47 = .ok (.getfield 76, 3) := by decide +kernel
theorem dX7_spoil_50 : decode cX7_spoil 50 = .ok (.iload_n 3, 1) := by decide +kernel
theorem dX7_spoil_51 : decode cX7_spoil 51 = .ok (.aload_n 0, 1) := by decide +kernel
theorem dX7_spoil_52 : decode cX7_spoil 52 = .ok (.getfield 76, 3) := by decide +kernel
theorem dX7_spoil_55 : decode cX7_spoil 55 = .ok (.iload_n 3, 1) := by decide +kernel
theorem dX7_spoil_56 : decode cX7_spoil 56 = .ok (.iconst 1, 1) := by decide +kernel
theorem dX7_spoil_57 : decode cX7_spoil 57 = .ok (.iadd, 1) := by decide +kernel
theorem dX7_spoil_58 : decode cX7_spoil 58 = .ok (.iaload, 1) := by decide +kernel
theorem dX7_spoil_59 : decode cX7_spoil 59 = .ok (.iastore, 1) := by decide +kernel
theorem dX7_spoil_60 : decode cX7_spoil 60 = .ok (.aload_n 0, 1) := by decide +kernel
theorem dX7_spoil_61 : decode cX7_spoil 61 = .ok (.getfield 79, 3) := by decide +kernel
theorem dX7_spoil_64 : decode cX7_spoil 64 = .ok (.iload_n 3, 1) := by decide +kernel
theorem dX7_spoil_65 : decode cX7_spoil 65 = .ok (.aload_n 0, 1) := by decide +kernel
theorem dX7_spoil_66 : decode cX7_spoil 66 = .ok (.getfield 79, 3) := by decide +kernel
theorem dX7_spoil_69 : decode cX7_spoil 69 = .ok (.iload_n 3, 1) := by decide +kernel
theorem dX7_spoil_70 : decode cX7_spoil 70 = .ok (.iconst 1, 1) := by decide +kernel
theorem dX7_spoil_71 : decode cX7_spoil 71 = .ok (.iadd, 1) := by decide +kernel
theorem dX7_spoil_72 : decode cX7_spoil 72 = .ok (.iaload, 1) := by decide +kernel
theorem dX7_spoil_73 : decode cX7_spoil 73 = .ok (.iastore, 1) := by decide +kernel
theorem dX7_spoil_74 : decode cX7_spoil 74 = .ok (.iinc 3 1, 3) := by decide +kernel
theorem dX7_spoil_77 : decode cX7_spoil 77 = .ok (.goto (-39), 3) := by decide +kernel
theorem dX7_spoil_80 : decode cX7_spoil 80 = .ok (.aload_n 0, 1) := by decide +kernel
theorem dX7_spoil_81 : decode cX7_spoil 81 = .ok (.getfield 76, 3) := by decide +kernel
theorem dX7_spoil_84 : decode cX7_spoil 84 = .ok (.aload_n 0, 1) := by decide +kernel
theorem dX7_spoil_85 : decode cX7_spoil 85 = .ok (.getfield 170, 3) := by decide +kernel
theorem dX7_spoil_88 : decode cX7_spoil 88 = .ok (.iload_n 1, 1) := by decide +kernel
theorem dX7_spoil_89 : decode cX7_spoil 89 = .ok (.iastore, 1) := by decide +kernel
theorem dX7_spoil_90 : decode cX7_spoil 90 = .ok (.aload_n 0, 1) := by decide +kernel
theorem dX7_spoil_91 : decode cX7_spoil 91 = .ok (.getfield 79, 3) := by decide +kernel
theorem dX7_spoil_94 : decode cX7_spoil 94 = .ok (.aload_n 0, 1) := by decide +kernel
theorem dX7_spoil_95 : decode cX7_spoil 95 = .ok (.getfield 170, 3) := by decide +kernel
theorem dX7_spoil_98 : decode cX7_spoil 98 = .ok (.iload_n 2, 1) := by decide +kernel
theorem dX7_spoil_99 : decode cX7_spoil 99 = .ok (.iastore, 1) := by decide +kernel
theorem dX7_spoil_100 : decode cX7_spoil 100 = .ok (.aload_n 0, 1) := by decide +kernel
theorem dX7_spoil_101 : decode cX7_spoil 101 = .ok (.dup, 1) := by decide +kernel
theorem dX7_spoil_102 : decode cX7_spoil 102 = .ok (.getfield 170, 3) := by decide +kernel
theorem dX7_spoil_105 : decode cX7_spoil 105 = .ok (.iconst 1, 1) := by decide +kernel
theorem dX7_spoil_106 : decode cX7_spoil 106 = .ok (.iadd, 1) := by decide +kernel
theorem dX7_spoil_107 : decode cX7_spoil 107 = .ok (.putfield 170, 3) := by decide +kernel
theorem dX7_spoil_110 : decode cX7_spoil 110 = .ok (.return_, 1) := by decide +kernel
theorem dX7_frames_0 : decode cX7_frames 0 = .ok (.aload_n 0, 1) := by decide +kernel
theorem dX7_frames_1 : decode cX7_frames 1 = .ok (.iconst 0, 1) := by decide +kernel
theorem dX7_frames_2 : decode cX7_frames 2 = .ok (.putfield 91, 3) := by decide +kernel
theorem dX7_frames_5 : decode cX7_frames 5 = .ok (.aload_n 0, 1) := by decide +kernel
theorem dX7_frames_6 : decode cX7_frames 6 = .ok (.getfield 129, 3) := by decide +kernel
theorem dX7_frames_9 : decode cX7_frames 9 = .ok (.ireturn, 1) := by decide +kernel
theorem dX7_isLamp_0 : decode cX7_isLamp 0 = .ok (.iload_n 1, 1) := by decide +kernel
theorem dX7_isLamp_1 : decode cX7_isLamp 1 = .ok (.i2l, 1) := by decide +kernel
theorem dX7_isLamp_2 : decode cX7_isLamp 2 = .ok (.lconst 0, 1) := by decide +kernel
theorem dX7_isLamp_3 : decode cX7_isLamp 3 = .ok (.aload_n 0, 1) := by decide +kernel
theorem dX7_isLamp_4 : decode cX7_isLamp 4 = .ok (.getfield 113, 3) := by decide +kernel
theorem dX7_isLamp_7 : decode cX7_isLamp 7 = .ok (.iconst 1, 1) := by decide +kernel
theorem dX7_isLamp_8 : decode cX7_isLamp 8 = .ok (.isub, 1) := by decide +kernel
theorem dX7_isLamp_9 : decode cX7_isLamp 9 = .ok (.i2l, 1) := by decide +kernel
theorem dX7_isLamp_10 : decode cX7_isLamp 10 = .ok (.invokestatic 101, 3) := by decide +kernel
theorem dX7_isLamp_13 : decode cX7_isLamp 13 = .ok (.ireturn, 1) := by decide +kernel
theorem dX7_about_0 : decode cX7_about 0 = .ok (.aload_n 0, 1) := by decide +kernel
theorem dX7_about_1 : decode cX7_about 1 = .ok (.aload_n 0, 1) := by decide +kernel
theorem dX7_about_2 : decode cX7_about 2 = .ok (.iload_n 1, 1) := by decide +kernel
theorem dX7_about_3 : decode cX7_about 3 = .ok (.invokevirtual 272, 3) := by decide +kernel
theorem dX7_about_6 : decode cX7_about 6 = .ok (.ifCond .eq 19, 3) := by decide +kernel
theorem dX7_about_9 : decode cX7_about 9 = .ok (.iload_n 2, 1) := by decide +kernel
theorem dX7_about_10 : decode cX7_about 10 = .ok (.i2l, 1) := by decide +kernel
theorem dX7_about_11 : decode cX7_about 11 = .ok (.lconst 0, 1) := by decide +kernel
theorem dX7_about_12 : decode cX7_about 12 = .ok (.ldc2_w 275, 3) := by decide +kernel
theorem dX7_about_15 : decode cX7_about 15 = .ok (.invokestatic 101, 3) := by decide +kernel
theorem dX7_about_18 : decode cX7_about 18 = .ok (.ifCond .eq 7, 3) := by decide +kernel
theorem dX7_about_21 : decode cX7_about 21 = .ok (.iconst 1, 1) := by decide +kernel
theorem dX7_about_22 : decode cX7_about 22 = .ok (.goto 4, 3) := by decide +kernel
theorem dX7_about_25 : decode cX7_about 25 = .ok (.iconst 0, 1) := by decide +kernel
theorem dX7_about_26 : decode cX7_about 26 = .ok (.invokevirtual 119, 3) := by decide +kernel
theorem dX7_about_29 : decode cX7_about 29 = .ok (.ifCond .ne 5, 3) := by decide +kernel
theorem dX7_about_32 : decode cX7_about 32 = .ok (.iconst 0, 1) := by decide +kernel
theorem dX7_about_33 : decode cX7_about 33 = .ok (.ireturn, 1) := by decide +kernel
theorem dX7_about_34 : decode cX7_about 34 = .ok (.iload_n 2, 1) := by decide +kernel
theorem dX7_about_35 : decode cX7_about 35 = .ok (.tableswitch 161 0 9 #[53, 60, 66, 73, 80, 87, 102, 117, 148, 154], 53) := by decide +kernel
theorem dX7_about_88 : decode cX7_about 88 = .ok (.aload_n 0, 1) := by decide +kernel
theorem dX7_about_89 : decode cX7_about 89 = .ok (.getfield 7, 3) := by decide +kernel
theorem dX7_about_92 : decode cX7_about 92 = .ok (.iload_n 1, 1) := by decide +kernel
theorem dX7_about_93 : decode cX7_about 93 = .ok (.iaload, 1) := by decide +kernel
theorem dX7_about_94 : decode cX7_about 94 = .ok (.ireturn, 1) := by decide +kernel
theorem dX7_about_95 : decode cX7_about 95 = .ok (.aload_n 0, 1) := by decide +kernel
theorem dX7_about_96 : decode cX7_about 96 = .ok (.iload_n 1, 1) := by decide +kernel
theorem dX7_about_97 : decode cX7_about 97 = .ok (.invokevirtual 173, 3) := by decide +kernel
theorem dX7_about_100 : decode cX7_about 100 = .ok (.ireturn, 1) := by decide +kernel
theorem dX7_about_101 : decode cX7_about 101 = .ok (.aload_n 0, 1) := by decide +kernel
theorem dX7_about_102 : decode cX7_about 102 = .ok (.getfield 23, 3) := by decide +kernel
theorem dX7_about_105 : decode cX7_about 105 = .ok (.iload_n 1, 1) := by decide +kernel
theorem dX7_about_106 : decode cX7_about 106 = .ok (.iaload, 1) := by decide +kernel
theorem dX7_about_107 : decode cX7_about 107 = .ok (.ireturn, 1) := by decide +kernel
theorem dX7_about_108 : decode cX7_about 108 = .ok (.aload_n 0, 1) := by decide +kernel
theorem dX7_about_109 : decode cX7_about 109 = .ok (.getfield 20, 3) := by decide +kernel
theorem dX7_about_112 : decode cX7_about 112 = .ok (.iload_n 1, 1) := by decide +kernel
theorem dX7_about_113 : decode cX7_about 113 = .ok (.iaload, 1) := by decide +kernel
theorem dX7_about_114 : decode cX7_about 114 = .ok (.ireturn, 1) := by decide +kernel
theorem dX7_about_115 : decode cX7_about 115 = .ok (.aload_n 0, 1) := by decide +kernel
theorem dX7_about_116 : decode cX7_about 116 = .ok (.getfield 26, 3) := by decide +kernel
theorem dX7_about_119 : decode cX7_about 119 = .ok (.iload_n 1, 1) := by decide +kernel
theorem dX7_about_120 : decode cX7_about 120 = .ok (.iaload, 1) := by decide +kernel
theorem dX7_about_121 : decode cX7_about 121 = .ok (.ireturn, 1) := by decide +kernel
theorem dX7_about_122 : decode cX7_about 122 = .ok (.aload_n 0, 1) := by decide +kernel
theorem dX7_about_123 : decode cX7_about 123 = .ok (.getfield 29, 3) := by decide +kernel
theorem dX7_about_126 : decode cX7_about 126 = .ok (.iload_n 1, 1) := by decide +kernel
theorem dX7_about_127 : decode cX7_about 127 = .ok (.baload, 1) := by decide +kernel
theorem dX7_about_128 : decode cX7_about 128 = .ok (.ifCond .eq 7, 3) := by decide +kernel
theorem dX7_about_131 : decode cX7_about 131 = .ok (.iconst 1, 1) := by decide +kernel
theorem dX7_about_132 : decode cX7_about 132 = .ok (.goto 4, 3) := by decide +kernel
theorem dX7_about_135 : decode cX7_about 135 = .ok (.iconst 0, 1) := by decide +kernel
theorem dX7_about_136 : decode cX7_about 136 = .ok (.ireturn, 1) := by decide +kernel
theorem dX7_about_137 : decode cX7_about 137 = .ok (.aload_n 0, 1) := by decide +kernel
theorem dX7_about_138 : decode cX7_about 138 = .ok (.getfield 33, 3) := by decide +kernel
theorem dX7_about_141 : decode cX7_about 141 = .ok (.iload_n 1, 1) := by decide +kernel
theorem dX7_about_142 : decode cX7_about 142 = .ok (.baload, 1) := by decide +kernel
theorem dX7_about_143 : decode cX7_about 143 = .ok (.ifCond .eq 7, 3) := by decide +kernel
theorem dX7_about_146 : decode cX7_about 146 = .ok (.iconst 1, 1) := by decide +kernel
theorem dX7_about_147 : decode cX7_about 147 = .ok (.goto 4, 3) := by decide +kernel
theorem dX7_about_150 : decode cX7_about 150 = .ok (.iconst 0, 1) := by decide +kernel
theorem dX7_about_151 : decode cX7_about 151 = .ok (.ireturn, 1) := by decide +kernel
theorem dX7_about_152 : decode cX7_about 152 = .ok (.aload_n 0, 1) := by decide +kernel
theorem dX7_about_153 : decode cX7_about 153 = .ok (.getfield 49, 3) := by decide +kernel
theorem dX7_about_156 : decode cX7_about 156 = .ok (.iload_n 1, 1) := by decide +kernel
theorem dX7_about_157 : decode cX7_about 157 = .ok (.iaload, 1) := by decide +kernel
theorem dX7_about_158 : decode cX7_about 158 = .ok (.ifCond .eq 19, 3) := by decide +kernel
theorem dX7_about_161 : decode cX7_about 161 = .ok (.aload_n 0, 1) := by decide +kernel
theorem dX7_about_162 : decode cX7_about 162 = .ok (.getfield 129, 3) := by decide +kernel
theorem dX7_about_165 : decode cX7_about 165 = .ok (.aload_n 0, 1) := by decide +kernel
theorem dX7_about_166 : decode cX7_about 166 = .ok (.getfield 49, 3) := by decide +kernel
theorem dX7_about_169 : decode cX7_about 169 = .ok (.iload_n 1, 1) := by decide +kernel
theorem dX7_about_170 : decode cX7_about 170 = .ok (.iaload, 1) := by decide +kernel
theorem dX7_about_171 : decode cX7_about 171 = .ok (.isub, 1) := by decide +kernel
theorem dX7_about_172 : decode cX7_about 172 = .ok (.bipush 20, 2) := by decide +kernel
theorem dX7_about_174 : decode cX7_about 174 = .ok (.if_icmp .lt 7, 3) := by decide +kernel
theorem dX7_about_177 : decode cX7_about 177 = .ok (.iconst 1, 1) := by decide +kernel
theorem dX7_about_178 : decode cX7_about 178 = .ok (.goto 4, 3) := by decide +kernel
theorem dX7_about_181 : decode cX7_about 181 = .ok (.iconst 0, 1) := by decide +kernel
theorem dX7_about_182 : decode cX7_about 182 = .ok (.ireturn, 1) := by decide +kernel
theorem dX7_about_183 : decode cX7_about 183 = .ok (.aload_n 0, 1) := by decide +kernel
theorem dX7_about_184 : decode cX7_about 184 = .ok (.iload_n 1, 1) := by decide +kernel
theorem dX7_about_185 : decode cX7_about 185 = .ok (.invokevirtual 190, 3) := by decide +kernel
theorem dX7_about_188 : decode cX7_about 188 = .ok (.ireturn, 1) := by decide +kernel
theorem dX7_about_189 : decode cX7_about 189 = .ok (.aload_n 0, 1) := by decide +kernel
theorem dX7_about_190 : decode cX7_about 190 = .ok (.getfield 36, 3) := by decide +kernel
theorem dX7_about_193 : decode cX7_about 193 = .ok (.iload_n 1, 1) := by decide +kernel
theorem dX7_about_194 : decode cX7_about 194 = .ok (.iaload, 1) := by decide +kernel
theorem dX7_about_195 : decode cX7_about 195 = .ok (.ireturn, 1) := by decide +kernel
theorem dX7_about_196 : decode cX7_about 196 = .ok (.aload_n 0, 1) := by decide +kernel
theorem dX7_about_197 : decode cX7_about 197 = .ok (.getfield 43, 3) := by decide +kernel
theorem dX7_about_200 : decode cX7_about 200 = .ok (.iload_n 1, 1) := by decide +kernel
theorem dX7_about_201 : decode cX7_about 201 = .ok (.iaload, 1) := by decide +kernel
theorem dX7_about_202 : decode cX7_about 202 = .ok (.ireturn, 1) := by decide +kernel
theorem dX7_rest_0 : decode cX7_rest 0 = .ok (.aload_n 0, 1) := by decide +kernel
theorem dX7_rest_1 : decode cX7_rest 1 = .ok (.aload_n 0, 1) := by decide +kernel
theorem dX7_rest_2 : decode cX7_rest 2 = .ok (.iload_n 1, 1) := by decide +kernel
theorem dX7_rest_3 : decode cX7_rest 3 = .ok (.invokevirtual 272, 3) := by decide +kernel
theorem dX7_rest_6 : decode cX7_rest 6 = .ok (.invokevirtual 119, 3) := by decide +kernel
theorem dX7_rest_9 : decode cX7_rest 9 = .ok (.ifCond .eq 12, 3) := by decide +kernel
theorem dX7_rest_12 : decode cX7_rest 12 = .ok (.aload_n 0, 1) := by decide +kernel
theorem dX7_rest_13 : decode cX7_rest 13 = .ok (.getfield 13, 3) := by decide +kernel
theorem dX7_rest_16 : decode cX7_rest 16 = .ok (.iload_n 1, 1) := by decide +kernel
theorem dX7_rest_17 : decode cX7_rest 17 = .ok (.laload, 1) := by decide +kernel
theorem dX7_rest_18 : decode cX7_rest 18 = .ok (.goto 4, 3) := by decide +kernel
theorem dX7_rest_21 : decode cX7_rest 21 = .ok (.lconst 0, 1) := by decide +kernel
theorem dX7_rest_22 : decode cX7_rest 22 = .ok (.lreturn, 1) := by decide +kernel
theorem dX7_level_0 : decode cX7_level 0 = .ok (.aload_n 0, 1) := by decide +kernel
theorem dX7_level_1 : decode cX7_level 1 = .ok (.aload_n 0, 1) := by decide +kernel
theorem dX7_level_2 : decode cX7_level 2 = .ok (.iload_n 1, 1) := by decide +kernel
theorem dX7_level_3 : decode cX7_level 3 = .ok (.invokevirtual 272, 3) := by decide +kernel
theorem dX7_level_6 : decode cX7_level 6 = .ok (.ifCond .eq 24, 3) := by decide +kernel
theorem dX7_level_9 : decode cX7_level 9 = .ok (.iload_n 2, 1) := by decide +kernel
theorem dX7_level_10 : decode cX7_level 10 = .ok (.i2l, 1) := by decide +kernel
theorem dX7_level_11 : decode cX7_level 11 = .ok (.lconst 0, 1) := by decide +kernel
theorem dX7_level_12 : decode cX7_level 12 = .ok (.aload_n 0, 1) := by decide +kernel
theorem dX7_level_13 : decode cX7_level 13 = .ok (.iload_n 1, 1) := by decide +kernel
theorem dX7_level_14 : decode cX7_level 14 = .ok (.invokevirtual 173, 3) := by decide +kernel
theorem dX7_level_17 : decode cX7_level 17 = .ok (.iconst 1, 1) := by decide +kernel
theorem dX7_level_18 : decode cX7_level 18 = .ok (.isub, 1) := by decide +kernel
theorem dX7_level_19 : decode cX7_level 19 = .ok (.i2l, 1) := by decide +kernel
theorem dX7_level_20 : decode cX7_level 20 = .ok (.invokestatic 101, 3) := by decide +kernel
theorem dX7_level_23 : decode cX7_level 23 = .ok (.ifCond .eq 7, 3) := by decide +kernel
theorem dX7_level_26 : decode cX7_level 26 = .ok (.iconst 1, 1) := by decide +kernel
theorem dX7_level_27 : decode cX7_level 27 = .ok (.goto 4, 3) := by decide +kernel
theorem dX7_level_30 : decode cX7_level 30 = .ok (.iconst 0, 1) := by decide +kernel
theorem dX7_level_31 : decode cX7_level 31 = .ok (.invokevirtual 119, 3) := by decide +kernel
theorem dX7_level_34 : decode cX7_level 34 = .ok (.ifCond .eq 18, 3) := by decide +kernel
theorem dX7_level_37 : decode cX7_level 37 = .ok (.aload_n 0, 1) := by decide +kernel
theorem dX7_level_38 : decode cX7_level 38 = .ok (.getfield 46, 3) := by decide +kernel
theorem dX7_level_41 : decode cX7_level 41 = .ok (.sipush 512, 3) := by decide +kernel
theorem dX7_level_44 : decode cX7_level 44 = .ok (.iload_n 1, 1) := by decide +kernel
theorem dX7_level_45 : decode cX7_level 45 = .ok (.imul, 1) := by decide +kernel
theorem dX7_level_46 : decode cX7_level 46 = .ok (.iload_n 2, 1) := by decide +kernel
theorem dX7_level_47 : decode cX7_level 47 = .ok (.iadd, 1) := by decide +kernel
theorem dX7_level_48 : decode cX7_level 48 = .ok (.iaload, 1) := by decide +kernel
theorem dX7_level_49 : decode cX7_level 49 = .ok (.goto 4, 3) := by decide +kernel
theorem dX7_level_52 : decode cX7_level 52 = .ok (.iconst 0, 1) := by decide +kernel
theorem dX7_level_53 : decode cX7_level 53 = .ok (.ireturn, 1) := by decide +kernel
theorem dX7_label_0 : decode cX7_label 0 = .ok (.aload_n 0, 1) := by decide +kernel
theorem dX7_label_1 : decode cX7_label 1 = .ok (.aload_n 0, 1) := by decide +kernel
theorem dX7_label_2 : decode cX7_label 2 = .ok (.iload_n 1, 1) := by decide +kernel
theorem dX7_label_3 : decode cX7_label 3 = .ok (.invokevirtual 272, 3) := by decide +kernel
theorem dX7_label_6 : decode cX7_label 6 = .ok (.ifCond .eq 25, 3) := by decide +kernel
theorem dX7_label_9 : decode cX7_label 9 = .ok (.iload_n 2, 1) := by decide +kernel
theorem dX7_label_10 : decode cX7_label 10 = .ok (.i2l, 1) := by decide +kernel
theorem dX7_label_11 : decode cX7_label 11 = .ok (.lconst 0, 1) := by decide +kernel
theorem dX7_label_12 : decode cX7_label 12 = .ok (.aload_n 0, 1) := by decide +kernel
theorem dX7_label_13 : decode cX7_label 13 = .ok (.getfield 36, 3) := by decide +kernel
theorem dX7_label_16 : decode cX7_label 16 = .ok (.iload_n 1, 1) := by decide +kernel
theorem dX7_label_17 : decode cX7_label 17 = .ok (.iaload, 1) := by decide +kernel
theorem dX7_label_18 : decode cX7_label 18 = .ok (.iconst 1, 1) := by decide +kernel
theorem dX7_label_19 : decode cX7_label 19 = .ok (.isub, 1) := by decide +kernel
theorem dX7_label_20 : decode cX7_label 20 = .ok (.i2l, 1) := by decide +kernel
theorem dX7_label_21 : decode cX7_label 21 = .ok (.invokestatic 101, 3) := by decide +kernel
theorem dX7_label_24 : decode cX7_label 24 = .ok (.ifCond .eq 7, 3) := by decide +kernel
theorem dX7_label_27 : decode cX7_label 27 = .ok (.iconst 1, 1) := by decide +kernel
theorem dX7_label_28 : decode cX7_label 28 = .ok (.goto 4, 3) := by decide +kernel
theorem dX7_label_31 : decode cX7_label 31 = .ok (.iconst 0, 1) := by decide +kernel
theorem dX7_label_32 : decode cX7_label 32 = .ok (.invokevirtual 119, 3) := by decide +kernel
theorem dX7_label_35 : decode cX7_label 35 = .ok (.ifCond .eq 21, 3) := by decide +kernel
theorem dX7_label_38 : decode cX7_label 38 = .ok (.aload_n 0, 1) := by decide +kernel
theorem dX7_label_39 : decode cX7_label 39 = .ok (.getfield 39, 3) := by decide +kernel
theorem dX7_label_42 : decode cX7_label 42 = .ok (.bipush 32, 2) := by decide +kernel
theorem dX7_label_44 : decode cX7_label 44 = .ok (.iload_n 1, 1) := by decide +kernel
theorem dX7_label_45 : decode cX7_label 45 = .ok (.imul, 1) := by decide +kernel
theorem dX7_label_46 : decode cX7_label 46 = .ok (.iload_n 2, 1) := by decide +kernel
theorem dX7_label_47 : decode cX7_label 47 = .ok (.iadd, 1) := by decide +kernel
theorem dX7_label_48 : decode cX7_label 48 = .ok (.baload, 1) := by decide +kernel
theorem dX7_label_49 : decode cX7_label 49 = .ok (.sipush 255, 3) := by decide +kernel
theorem dX7_label_52 : decode cX7_label 52 = .ok (.iand, 1) := by decide +kernel
theorem dX7_label_53 : decode cX7_label 53 = .ok (.goto 4, 3) := by decide +kernel
theorem dX7_label_56 : decode cX7_label 56 = .ok (.iconst 0, 1) := by decide +kernel
theorem dX7_label_57 : decode cX7_label 57 = .ok (.ireturn, 1) := by decide +kernel
theorem dX7_silence_0 : decode cX7_silence 0 = .ok (.aload_n 0, 1) := by decide +kernel
theorem dX7_silence_1 : decode cX7_silence 1 = .ok (.aload_n 0, 1) := by decide +kernel
theorem dX7_silence_2 : decode cX7_silence 2 = .ok (.iload_n 1, 1) := by decide +kernel
theorem dX7_silence_3 : decode cX7_silence 3 = .ok (.invokevirtual 272, 3) := by decide +kernel
theorem dX7_silence_6 : decode cX7_silence 6 = .ok (.invokevirtual 119, 3) := by decide +kernel
theorem dX7_silence_9 : decode cX7_silence 9 = .ok (.ifCond .ne 5, 3) := by decide +kernel
theorem dX7_silence_12 : decode cX7_silence 12 = .ok (.iconst 0, 1) := by decide +kernel
theorem dX7_silence_13 : decode cX7_silence 13 = .ok (.ireturn, 1) := by decide +kernel
theorem dX7_silence_14 : decode cX7_silence 14 = .ok (.aload_n 0, 1) := by decide +kernel
theorem dX7_silence_15 : decode cX7_silence 15 = .ok (.getfield 29, 3) := by decide +kernel
theorem dX7_silence_18 : decode cX7_silence 18 = .ok (.iload_n 1, 1) := by decide +kernel
theorem dX7_silence_19 : decode cX7_silence 19 = .ok (.baload, 1) := by decide +kernel
theorem dX7_silence_20 : decode cX7_silence 20 = .ok (.ifCond .eq 7, 3) := by decide +kernel
theorem dX7_silence_23 : decode cX7_silence 23 = .ok (.iconst 1, 1) := by decide +kernel
theorem dX7_silence_24 : decode cX7_silence 24 = .ok (.goto 4, 3) := by decide +kernel
theorem dX7_silence_27 : decode cX7_silence 27 = .ok (.iconst 0, 1) := by decide +kernel
theorem dX7_silence_28 : decode cX7_silence 28 = .ok (.istore_n 3, 1) := by decide +kernel
theorem dX7_silence_29 : decode cX7_silence 29 = .ok (.aload_n 0, 1) := by decide +kernel
theorem dX7_silence_30 : decode cX7_silence 30 = .ok (.getfield 29, 3) := by decide +kernel
theorem dX7_silence_33 : decode cX7_silence 33 = .ok (.iload_n 1, 1) := by decide +kernel
theorem dX7_silence_34 : decode cX7_silence 34 = .ok (.iload_n 2, 1) := by decide +kernel
theorem dX7_silence_35 : decode cX7_silence 35 = .ok (.bastore, 1) := by decide +kernel
theorem dX7_silence_36 : decode cX7_silence 36 = .ok (.iload_n 3, 1) := by decide +kernel
theorem dX7_silence_37 : decode cX7_silence 37 = .ok (.ireturn, 1) := by decide +kernel
theorem dX7_search_0 : decode cX7_search 0 = .ok (.aload_n 0, 1) := by decide +kernel
theorem dX7_search_1 : decode cX7_search 1 = .ok (.iconst 0, 1) := by decide +kernel
theorem dX7_search_2 : decode cX7_search 2 = .ok (.putfield 91, 3) := by decide +kernel
theorem dX7_search_5 : decode cX7_search 5 = .ok (.aload_n 0, 1) := by decide +kernel
theorem dX7_search_6 : decode cX7_search 6 = .ok (.iconst 1, 1) := by decide +kernel
theorem dX7_search_7 : decode cX7_search 7 = .ok (.putfield 277, 3) := by decide +kernel
theorem dX7_search_10 : decode cX7_search 10 = .ok (.aload_n 0, 1) := by decide +kernel
theorem dX7_search_11 : decode cX7_search 11 = .ok (.iconst 0, 1) := by decide +kernel
theorem dX7_search_12 : decode cX7_search 12 = .ok (.putfield 281, 3) := by decide +kernel
theorem dX7_search_15 : decode cX7_search 15 = .ok (.aload_n 0, 1) := by decide +kernel
theorem dX7_search_16 : decode cX7_search 16 = .ok (.iconst 0, 1) := by decide +kernel
theorem dX7_search_17 : decode cX7_search 17 = .ok (.putfield 284, 3) := by decide +kernel
theorem dX7_search_20 : decode cX7_search 20 = .ok (.aload_n 0, 1) := by decide +kernel
theorem dX7_search_21 : decode cX7_search 21 = .ok (.iconst 1, 1) := by decide +kernel
theorem dX7_search_22 : decode cX7_search 22 = .ok (.putfield 287, 3) := by decide +kernel
theorem dX7_search_25 : decode cX7_search 25 = .ok (.aload_n 0, 1) := by decide +kernel
theorem dX7_search_26 : decode cX7_search 26 = .ok (.getfield 82, 3) := by decide +kernel
theorem dX7_search_29 : decode cX7_search 29 = .ok (.iconst 0, 1) := by decide +kernel
theorem dX7_search_30 : decode cX7_search 30 = .ok (.lconst 0, 1) := by decide +kernel
theorem dX7_search_31 : decode cX7_search 31 = .ok (.lastore, 1) := by decide +kernel
theorem dX7_search_32 : decode cX7_search 32 = .ok (.aload_n 0, 1) := by decide +kernel
theorem dX7_search_33 : decode cX7_search 33 = .ok (.getfield 85, 3) := by decide +kernel
theorem dX7_search_36 : decode cX7_search 36 = .ok (.iconst 0, 1) := by decide +kernel
theorem dX7_search_37 : decode cX7_search 37 = .ok (.ldc2_w 290, 3) := by decide +kernel
theorem dX7_search_40 : decode cX7_search 40 = .ok (.lastore, 1) := by decide +kernel
theorem dX7_search_41 : decode cX7_search 41 = .ok (.aload_n 0, 1) := by decide +kernel
theorem dX7_search_42 : decode cX7_search 42 = .ok (.ldc2_w 292, 3) := by decide +kernel
theorem dX7_search_45 : decode cX7_search 45 = .ok (.iconst 0, 1) := by decide +kernel
theorem dX7_search_46 : decode cX7_search 46 = .ok (.bipush 16, 2) := by decide +kernel
theorem dX7_search_48 : decode cX7_search 48 = .ok (.iconst 3, 1) := by decide +kernel
theorem dX7_search_49 : decode cX7_search 49 = .ok (.invokevirtual 259, 3) := by decide +kernel
theorem dX7_search_52 : decode cX7_search 52 = .ok (.aload_n 0, 1) := by decide +kernel
theorem dX7_search_53 : decode cX7_search 53 = .ok (.invokevirtual 263, 3) := by decide +kernel
theorem dX7_search_56 : decode cX7_search 56 = .ok (.iconst 1, 1) := by decide +kernel
theorem dX7_search_57 : decode cX7_search 57 = .ok (.ireturn, 1) := by decide +kernel
theorem dX7_push_0 : decode cX7_push 0 = .ok (.aload_n 0, 1) := by decide +kernel
theorem dX7_push_1 : decode cX7_push 1 = .ok (.getfield 82, 3) := by decide +kernel
theorem dX7_push_4 : decode cX7_push 4 = .ok (.aload_n 0, 1) := by decide +kernel
theorem dX7_push_5 : decode cX7_push 5 = .ok (.getfield 287, 3) := by decide +kernel
theorem dX7_push_8 : decode cX7_push 8 = .ok (.lload_n 1, 1) := by decide +kernel
theorem dX7_push_9 : decode cX7_push 9 = .ok (.lastore, 1) := by decide +kernel
theorem dX7_push_10 : decode cX7_push 10 = .ok (.aload_n 0, 1) := by decide +kernel
theorem dX7_push_11 : decode cX7_push 11 = .ok (.getfield 85, 3) := by decide +kernel
theorem dX7_push_14 : decode cX7_push 14 = .ok (.aload_n 0, 1) := by decide +kernel
theorem dX7_push_15 : decode cX7_push 15 = .ok (.getfield 287, 3) := by decide +kernel
theorem dX7_push_18 : decode cX7_push 18 = .ok (.lload_n 3, 1) := by decide +kernel
theorem dX7_push_19 : decode cX7_push 19 = .ok (.lastore, 1) := by decide +kernel
theorem dX7_push_20 : decode cX7_push 20 = .ok (.aload_n 0, 1) := by decide +kernel
theorem dX7_push_21 : decode cX7_push 21 = .ok (.dup, 1) := by decide +kernel
theorem dX7_push_22 : decode cX7_push 22 = .ok (.getfield 287, 3) := by decide +kernel
theorem dX7_push_25 : decode cX7_push 25 = .ok (.iconst 1, 1) := by decide +kernel
theorem dX7_push_26 : decode cX7_push 26 = .ok (.iadd, 1) := by decide +kernel
theorem dX7_push_27 : decode cX7_push 27 = .ok (.putfield 287, 3) := by decide +kernel
theorem dX7_push_30 : decode cX7_push 30 = .ok (.return_, 1) := by decide +kernel
theorem dX7_isFound_0 : decode cX7_isFound 0 = .ok (.iconst 0, 1) := by decide +kernel
theorem dX7_isFound_1 : decode cX7_isFound 1 = .ok (.istore_n 3, 1) := by decide +kernel
theorem dX7_isFound_2 : decode cX7_isFound 2 = .ok (.iconst 0, 1) := by decide +kernel
theorem dX7_isFound_3 : decode cX7_isFound 3 = .ok (.istore 4, 2) := by decide +kernel
theorem dX7_isFound_5 : decode cX7_isFound 5 = .ok (.iload 4, 2) := by decide +kernel
theorem dX7_isFound_7 : decode cX7_isFound 7 = .ok (.aload_n 0, 1) := by decide +kernel
theorem dX7_isFound_8 : decode cX7_isFound 8 = .ok (.getfield 284, 3) := by decide +kernel
theorem dX7_isFound_11 : decode cX7_isFound 11 = .ok (.if_icmp .ge 31, 3) := by decide +kernel
theorem dX7_isFound_14 : decode cX7_isFound 14 = .ok (.iload_n 3, 1) := by decide +kernel
theorem dX7_isFound_15 : decode cX7_isFound 15 = .ok (.ifCond .ne 15, 3) := by decide +kernel
theorem dX7_isFound_18 : decode cX7_isFound 18 = .ok (.aload_n 0, 1) := by decide +kernel
theorem dX7_isFound_19 : decode cX7_isFound 19 = .ok (.getfield 88, 3) := by decide +kernel
theorem dX7_isFound_22 : decode cX7_isFound 22 = .ok (.iload 4, 2) := by decide +kernel
theorem dX7_isFound_24 : decode cX7_isFound 24 = .ok (.laload, 1) := by decide +kernel
theorem dX7_isFound_25 : decode cX7_isFound 25 = .ok (.lload_n 1, 1) := by decide +kernel
theorem dX7_isFound_26 : decode cX7_isFound 26 = .ok (.lcmp, 1) := by decide +kernel
theorem dX7_isFound_27 : decode cX7_isFound 27 = .ok (.ifCond .ne 7, 3) := by decide +kernel
theorem dX7_isFound_30 : decode cX7_isFound 30 = .ok (.iconst 1, 1) := by decide +kernel
theorem dX7_isFound_31 : decode cX7_isFound 31 = .ok (.goto 4, 3) := by decide +kernel
theorem dX7_isFound_34 : decode cX7_isFound 34 = .ok (.iconst 0, 1) := by decide +kernel
theorem dX7_isFound_35 : decode cX7_isFound 35 = .ok (.istore_n 3, 1) := by decide +kernel
theorem dX7_isFound_36 : decode cX7_isFound 36 = .ok (.iinc 4 1, 3) := by decide +kernel
theorem dX7_isFound_39 : decode cX7_isFound 39 = .ok (.goto (-34), 3) := by decide +kernel
theorem dX7_isFound_42 : decode cX7_isFound 42 = .ok (.iload_n 3, 1) := by decide +kernel
theorem dX7_isFound_43 : decode cX7_isFound 43 = .ok (.ireturn, 1) := by decide +kernel
theorem dX7_tried_0 : decode cX7_tried 0 = .ok (.aload_n 0, 1) := by decide +kernel
theorem dX7_tried_1 : decode cX7_tried 1 = .ok (.lload_n 1, 1) := by decide +kernel
theorem dX7_tried_2 : decode cX7_tried 2 = .ok (.iconst 0, 1) := by decide +kernel
theorem dX7_tried_3 : decode cX7_tried 3 = .ok (.bipush 16, 2) := by decide +kernel
theorem dX7_tried_5 : decode cX7_tried 5 = .ok (.iconst 2, 1) := by decide +kernel
theorem dX7_tried_6 : decode cX7_tried 6 = .ok (.invokevirtual 259, 3) := by decide +kernel
theorem dX7_tried_9 : decode cX7_tried 9 = .ok (.aload_n 0, 1) := by decide +kernel
theorem dX7_tried_10 : decode cX7_tried 10 = .ok (.invokevirtual 263, 3) := by decide +kernel
theorem dX7_tried_13 : decode cX7_tried 13 = .ok (.aload_n 0, 1) := by decide +kernel
theorem dX7_tried_14 : decode cX7_tried 14 = .ok (.getfield 135, 3) := by decide +kernel
theorem dX7_tried_17 : decode cX7_tried 17 = .ok (.ifCond .ne 5, 3) := by decide +kernel
theorem dX7_tried_20 : decode cX7_tried 20 = .ok (.iconst 0, 1) := by decide +kernel
theorem dX7_tried_21 : decode cX7_tried 21 = .ok (.ireturn, 1) := by decide +kernel
theorem dX7_tried_22 : decode cX7_tried 22 = .ok (.aload_n 0, 1) := by decide +kernel
theorem dX7_tried_23 : decode cX7_tried 23 = .ok (.lload_n 1, 1) := by decide +kernel
theorem dX7_tried_24 : decode cX7_tried 24 = .ok (.invokevirtual 266, 3) := by decide +kernel
theorem dX7_tried_27 : decode cX7_tried 27 = .ok (.ifCond .eq 74, 3) := by decide +kernel
theorem dX7_tried_30 : decode cX7_tried 30 = .ok (.aload_n 0, 1) := by decide +kernel
theorem dX7_tried_31 : decode cX7_tried 31 = .ok (.bipush 20, 2) := by decide +kernel
theorem dX7_tried_33 : decode cX7_tried 33 = .ok (.invokevirtual 251, 3) := by decide +kernel
theorem dX7_tried_36 : decode cX7_tried 36 = .ok (.bipush 17, 2) := by decide +kernel
theorem dX7_tried_38 : decode cX7_tried 38 = .ok (.if_icmp .ne 63, 3) := by decide +kernel
theorem dX7_tried_41 : decode cX7_tried 41 = .ok (.aload_n 0, 1) := by decide +kernel
theorem dX7_tried_42 : decode cX7_tried 42 = .ok (.bipush 21, 2) := by decide +kernel
theorem dX7_tried_44 : decode cX7_tried 44 = .ok (.invokevirtual 251, 3) := by decide +kernel
theorem dX7_tried_47 : decode cX7_tried 47 = .ok (.sipush 256, 3) := by decide +kernel
theorem dX7_tried_50 : decode cX7_tried 50 = .ok (.imul, 1) := by decide +kernel
theorem dX7_tried_51 : decode cX7_tried 51 = .ok (.aload_n 0, 1) := by decide +kernel
theorem dX7_tried_52 : decode cX7_tried 52 = .ok (.bipush 22, 2) := by decide +kernel
theorem dX7_tried_54 : decode cX7_tried 54 = .ok (.invokevirtual 251, 3) := by decide +kernel
theorem dX7_tried_57 : decode cX7_tried 57 = .ok (.iadd, 1) := by decide +kernel
theorem dX7_tried_58 : decode cX7_tried 58 = .ok (.iconst 2, 1) := by decide +kernel
theorem dX7_tried_59 : decode cX7_tried 59 = .ok (.if_icmp .ne 42, 3) := by decide +kernel
theorem dX7_tried_62 : decode cX7_tried 62 = .ok (.aload_n 0, 1) := by decide +kernel
theorem dX7_tried_63 : decode cX7_tried 63 = .ok (.bipush 16, 2) := by decide +kernel
theorem dX7_tried_65 : decode cX7_tried 65 = .ok (.invokevirtual 251, 3) := by decide +kernel
theorem dX7_tried_68 : decode cX7_tried 68 = .ok (.ifCond .ne 33, 3) := by decide +kernel
theorem dX7_tried_71 : decode cX7_tried 71 = .ok (.aload_n 0, 1) := by decide +kernel
theorem dX7_tried_72 : decode cX7_tried 72 = .ok (.lload_n 1, 1) := by decide +kernel
theorem dX7_tried_73 : decode cX7_tried 73 = .ok (.invokevirtual 294, 3) := by decide +kernel
theorem dX7_tried_76 : decode cX7_tried 76 = .ok (.ifCond .ne 23, 3) := by decide +kernel
theorem dX7_tried_79 : decode cX7_tried 79 = .ok (.aload_n 0, 1) := by decide +kernel
theorem dX7_tried_80 : decode cX7_tried 80 = .ok (.getfield 88, 3) := by decide +kernel
theorem dX7_tried_83 : decode cX7_tried 83 = .ok (.aload_n 0, 1) := by decide +kernel
theorem dX7_tried_84 : decode cX7_tried 84 = .ok (.getfield 284, 3) := by decide +kernel
theorem dX7_tried_87 : decode cX7_tried 87 = .ok (.lload_n 1, 1) := by decide +kernel
theorem dX7_tried_88 : decode cX7_tried 88 = .ok (.lastore, 1) := by decide +kernel
theorem dX7_tried_89 : decode cX7_tried 89 = .ok (.aload_n 0, 1) := by decide +kernel
theorem dX7_tried_90 : decode cX7_tried 90 = .ok (.dup, 1) := by decide +kernel
theorem dX7_tried_91 : decode cX7_tried 91 = .ok (.getfield 284, 3) := by decide +kernel
theorem dX7_tried_94 : decode cX7_tried 94 = .ok (.iconst 1, 1) := by decide +kernel
theorem dX7_tried_95 : decode cX7_tried 95 = .ok (.iadd, 1) := by decide +kernel
theorem dX7_tried_96 : decode cX7_tried 96 = .ok (.putfield 284, 3) := by decide +kernel
theorem dX7_tried_99 : decode cX7_tried 99 = .ok (.iconst 1, 1) := by decide +kernel
theorem dX7_tried_100 : decode cX7_tried 100 = .ok (.ireturn, 1) := by decide +kernel
theorem dX7_tried_101 : decode cX7_tried 101 = .ok (.aload_n 0, 1) := by decide +kernel
theorem dX7_tried_102 : decode cX7_tried 102 = .ok (.lload_n 1, 1) := by decide +kernel
theorem dX7_tried_103 : decode cX7_tried 103 = .ok (.iconst 0, 1) := by decide +kernel
theorem dX7_tried_104 : decode cX7_tried 104 = .ok (.bipush 16, 2) := by decide +kernel
theorem dX7_tried_106 : decode cX7_tried 106 = .ok (.iconst 3, 1) := by decide +kernel
theorem dX7_tried_107 : decode cX7_tried 107 = .ok (.invokevirtual 259, 3) := by decide +kernel
theorem dX7_tried_110 : decode cX7_tried 110 = .ok (.aload_n 0, 1) := by decide +kernel
theorem dX7_tried_111 : decode cX7_tried 111 = .ok (.invokevirtual 263, 3) := by decide +kernel
theorem dX7_tried_114 : decode cX7_tried 114 = .ok (.iconst 2, 1) := by decide +kernel
theorem dX7_tried_115 : decode cX7_tried 115 = .ok (.ireturn, 1) := by decide +kernel
theorem dX7_shown_0 : decode cX7_shown 0 = .ok (.aload_n 0, 1) := by decide +kernel
theorem dX7_shown_1 : decode cX7_shown 1 = .ok (.getfield 135, 3) := by decide +kernel
theorem dX7_shown_4 : decode cX7_shown 4 = .ok (.bipush 24, 2) := by decide +kernel
theorem dX7_shown_6 : decode cX7_shown 6 = .ok (.if_icmp .eq 7, 3) := by decide +kernel
theorem dX7_shown_9 : decode cX7_shown 9 = .ok (.ldc2_w 297, 3) := by decide +kernel
theorem dX7_shown_12 : decode cX7_shown 12 = .ok (.lreturn, 1) := by decide +kernel
theorem dX7_shown_13 : decode cX7_shown 13 = .ok (.iconst 0, 1) := by decide +kernel
theorem dX7_shown_14 : decode cX7_shown 14 = .ok (.istore_n 1, 1) := by decide +kernel
theorem dX7_shown_15 : decode cX7_shown 15 = .ok (.iload_n 1, 1) := by decide +kernel
theorem dX7_shown_16 : decode cX7_shown 16 = .ok (.bipush 8, 2) := by decide +kernel
theorem dX7_shown_18 : decode cX7_shown 18 = .ok (.if_icmp .ge 36, 3) := by decide +kernel
theorem dX7_shown_21 : decode cX7_shown 21 = .ok (.aload_n 0, 1) := by decide +kernel
theorem dX7_shown_22 : decode cX7_shown 22 = .ok (.iload_n 1, 1) := by decide +kernel
theorem dX7_shown_23 : decode cX7_shown 23 = .ok (.invokevirtual 251, 3) := by decide +kernel
theorem dX7_shown_26 : decode cX7_shown 26 = .ok (.iload_n 1, 1) := by decide +kernel
theorem dX7_shown_27 : decode cX7_shown 27 = .ok (.bipush 7, 2) := by decide +kernel
theorem dX7_shown_29 : decode cX7_shown 29 = .ok (.if_icmp .ge 9, 3) := by decide +kernel
theorem dX7_shown_32 : decode cX7_shown 32 = .ok (.sipush 254, 3) := by decide +kernel
theorem dX7_shown_35 : decode cX7_shown 35 = .ok (.goto 6, 3) := by decide +kernel
theorem dX7_shown_38 : decode cX7_shown 38 = .ok (.sipush 170, 3) := by decide +kernel
theorem dX7_shown_41 : decode cX7_shown 41 = .ok (.if_icmp .eq 7, 3) := by decide +kernel
theorem dX7_shown_44 : decode cX7_shown 44 = .ok (.ldc2_w 297, 3) := by decide +kernel
theorem dX7_shown_47 : decode cX7_shown 47 = .ok (.lreturn, 1) := by decide +kernel
theorem dX7_shown_48 : decode cX7_shown 48 = .ok (.iinc 1 1, 3) := by decide +kernel
theorem dX7_shown_51 : decode cX7_shown 51 = .ok (.goto (-36), 3) := by decide +kernel
theorem dX7_shown_54 : decode cX7_shown 54 = .ok (.lconst 0, 1) := by decide +kernel
theorem dX7_shown_55 : decode cX7_shown 55 = .ok (.lstore_n 1, 1) := by decide +kernel
theorem dX7_shown_56 : decode cX7_shown 56 = .ok (.iconst 0, 1) := by decide +kernel
theorem dX7_shown_57 : decode cX7_shown 57 = .ok (.istore_n 3, 1) := by decide +kernel
theorem dX7_shown_58 : decode cX7_shown 58 = .ok (.iconst 0, 1) := by decide +kernel
theorem dX7_shown_59 : decode cX7_shown 59 = .ok (.istore 4, 2) := by decide +kernel
theorem dX7_shown_61 : decode cX7_shown 61 = .ok (.bipush 8, 2) := by decide +kernel
theorem dX7_shown_63 : decode cX7_shown 63 = .ok (.istore 5, 2) := by decide +kernel
theorem dX7_shown_65 : decode cX7_shown 65 = .ok (.iload 5, 2) := by decide +kernel
theorem dX7_shown_67 : decode cX7_shown 67 = .ok (.bipush 24, 2) := by decide +kernel
theorem dX7_shown_69 : decode cX7_shown 69 = .ok (.if_icmp .ge 98, 3) := by decide +kernel
theorem dX7_shown_72 : decode cX7_shown 72 = .ok (.aload_n 0, 1) := by decide +kernel
theorem dX7_shown_73 : decode cX7_shown 73 = .ok (.iload 5, 2) := by decide +kernel
theorem dX7_shown_75 : decode cX7_shown 75 = .ok (.invokevirtual 251, 3) := by decide +kernel
theorem dX7_shown_78 : decode cX7_shown 78 = .ok (.istore 6, 2) := by decide +kernel
theorem dX7_shown_80 : decode cX7_shown 80 = .ok (.aload_n 0, 1) := by decide +kernel
theorem dX7_shown_81 : decode cX7_shown 81 = .ok (.iload 5, 2) := by decide +kernel
theorem dX7_shown_83 : decode cX7_shown 83 = .ok (.iconst 1, 1) := by decide +kernel
theorem dX7_shown_84 : decode cX7_shown 84 = .ok (.iadd, 1) := by decide +kernel
theorem dX7_shown_85 : decode cX7_shown 85 = .ok (.invokevirtual 251, 3) := by decide +kernel
theorem dX7_shown_88 : decode cX7_shown 88 = .ok (.istore 7, 2) := by decide +kernel
theorem dX7_shown_90 : decode cX7_shown 90 = .ok (.iload 6, 2) := by decide +kernel
theorem dX7_shown_92 : decode cX7_shown 92 = .ok (.sipush 170, 3) := by decide +kernel
theorem dX7_shown_95 : decode cX7_shown 95 = .ok (.iand, 1) := by decide +kernel
theorem dX7_shown_96 : decode cX7_shown 96 = .ok (.sipush 170, 3) := by decide +kernel
theorem dX7_shown_99 : decode cX7_shown 99 = .ok (.if_icmp .ne 13, 3) := by decide +kernel
theorem dX7_shown_102 : decode cX7_shown 102 = .ok (.iload 7, 2) := by decide +kernel
theorem dX7_shown_104 : decode cX7_shown 104 = .ok (.bipush 85, 2) := by decide +kernel
theorem dX7_shown_106 : decode cX7_shown 106 = .ok (.iand, 1) := by decide +kernel
theorem dX7_shown_107 : decode cX7_shown 107 = .ok (.bipush 85, 2) := by decide +kernel
theorem dX7_shown_109 : decode cX7_shown 109 = .ok (.if_icmp .eq 7, 3) := by decide +kernel
theorem dX7_shown_112 : decode cX7_shown 112 = .ok (.ldc2_w 297, 3) := by decide +kernel
theorem dX7_shown_115 : decode cX7_shown 115 = .ok (.lreturn, 1) := by decide +kernel
theorem dX7_shown_116 : decode cX7_shown 116 = .ok (.iload 5, 2) := by decide +kernel
theorem dX7_shown_118 : decode cX7_shown 118 = .ok (.bipush 20, 2) := by decide +kernel
theorem dX7_shown_120 : decode cX7_shown 120 = .ok (.if_icmp .ge 27, 3) := by decide +kernel
theorem dX7_shown_123 : decode cX7_shown 123 = .ok (.iload_n 3, 1) := by decide +kernel
theorem dX7_shown_124 : decode cX7_shown 124 = .ok (.iload 6, 2) := by decide +kernel
theorem dX7_shown_126 : decode cX7_shown 126 = .ok (.iadd, 1) := by decide +kernel
theorem dX7_shown_127 : decode cX7_shown 127 = .ok (.iload 7, 2) := by decide +kernel
theorem dX7_shown_129 : decode cX7_shown 129 = .ok (.iadd, 1) := by decide +kernel
theorem dX7_shown_130 : decode cX7_shown 130 = .ok (.istore_n 3, 1) := by decide +kernel
theorem dX7_shown_131 : decode cX7_shown 131 = .ok (.lload_n 1, 1) := by decide +kernel
theorem dX7_shown_132 : decode cX7_shown 132 = .ok (.ldc2_w 127, 3) := by decide +kernel
theorem dX7_shown_135 : decode cX7_shown 135 = .ok (.lmul, 1) := by decide +kernel
theorem dX7_shown_136 : decode cX7_shown 136 = .ok (.iload 6, 2) := by decide +kernel
theorem dX7_shown_138 : decode cX7_shown 138 = .ok (.iload 7, 2) := by decide +kernel
theorem dX7_shown_140 : decode cX7_shown 140 = .ok (.iand, 1) := by decide +kernel
theorem dX7_shown_141 : decode cX7_shown 141 = .ok (.i2l, 1) := by decide +kernel
theorem dX7_shown_142 : decode cX7_shown 142 = .ok (.ladd, 1) := by decide +kernel
theorem dX7_shown_143 : decode cX7_shown 143 = .ok (.lstore_n 1, 1) := by decide +kernel
theorem dX7_shown_144 : decode cX7_shown 144 = .ok (.goto 17, 3) := by decide +kernel
theorem dX7_shown_147 : decode cX7_shown 147 = .ok (.iload 4, 2) := by decide +kernel
theorem dX7_shown_149 : decode cX7_shown 149 = .ok (.sipush 256, 3) := by decide +kernel
theorem dX7_shown_152 : decode cX7_shown 152 = .ok (.imul, 1) := by decide +kernel
theorem dX7_shown_153 : decode cX7_shown 153 = .ok (.iload 6, 2) := by decide +kernel
theorem dX7_shown_155 : decode cX7_shown 155 = .ok (.iload 7, 2) := by decide +kernel
theorem dX7_shown_157 : decode cX7_shown 157 = .ok (.iand, 1) := by decide +kernel
theorem dX7_shown_158 : decode cX7_shown 158 = .ok (.iadd, 1) := by decide +kernel
theorem dX7_shown_159 : decode cX7_shown 159 = .ok (.istore 4, 2) := by decide +kernel
theorem dX7_shown_161 : decode cX7_shown 161 = .ok (.iinc 5 2, 3) := by decide +kernel
theorem dX7_shown_164 : decode cX7_shown 164 = .ok (.goto (-99), 3) := by decide +kernel
theorem dX7_shown_167 : decode cX7_shown 167 = .ok (.iload_n 3, 1) := by decide +kernel
theorem dX7_shown_168 : decode cX7_shown 168 = .ok (.ldc 176, 2) := by decide +kernel
theorem dX7_shown_170 : decode cX7_shown 170 = .ok (.irem, 1) := by decide +kernel
theorem dX7_shown_171 : decode cX7_shown 171 = .ok (.iload 4, 2) := by decide +kernel
theorem dX7_shown_173 : decode cX7_shown 173 = .ok (.if_icmp .ne 7, 3) := by decide +kernel
theorem dX7_shown_176 : decode cX7_shown 176 = .ok (.lload_n 1, 1) := by decide +kernel
theorem dX7_shown_177 : decode cX7_shown 177 = .ok (.goto 6, 3) := by decide +kernel
theorem dX7_shown_180 : decode cX7_shown 180 = .ok (.ldc2_w 297, 3) := by decide +kernel
theorem dX7_shown_183 : decode cX7_shown 183 = .ok (.lreturn, 1) := by decide +kernel
theorem dX7_isId_0 : decode cX7_isId 0 = .ok (.lload_n 0, 1) := by decide +kernel
theorem dX7_isId_1 : decode cX7_isId 1 = .ok (.ldc2_w 156, 3) := by decide +kernel
theorem dX7_isId_4 : decode cX7_isId 4 = .ok (.land, 1) := by decide +kernel
theorem dX7_isId_5 : decode cX7_isId 5 = .ok (.ldc2_w 156, 3) := by decide +kernel
theorem dX7_isId_8 : decode cX7_isId 8 = .ok (.lcmp, 1) := by decide +kernel
theorem dX7_isId_9 : decode cX7_isId 9 = .ok (.ifCond .eq 7, 3) := by decide +kernel
theorem dX7_isId_12 : decode cX7_isId 12 = .ok (.iconst 1, 1) := by decide +kernel
theorem dX7_isId_13 : decode cX7_isId 13 = .ok (.goto 4, 3) := by decide +kernel
theorem dX7_isId_16 : decode cX7_isId 16 = .ok (.iconst 0, 1) := by decide +kernel
theorem dX7_isId_17 : decode cX7_isId 17 = .ok (.ireturn, 1) := by decide +kernel
theorem dX7_stepOnce_0 : decode cX7_stepOnce 0 = .ok (.aload_n 0, 1) := by decide +kernel
theorem dX7_stepOnce_1 : decode cX7_stepOnce 1 = .ok (.dup, 1) := by decide +kernel
theorem dX7_stepOnce_2 : decode cX7_stepOnce 2 = .ok (.getfield 287, 3) := by decide +kernel
theorem dX7_stepOnce_5 : decode cX7_stepOnce 5 = .ok (.iconst 1, 1) := by decide +kernel
theorem dX7_stepOnce_6 : decode cX7_stepOnce 6 = .ok (.isub, 1) := by decide +kernel
theorem dX7_stepOnce_7 : decode cX7_stepOnce 7 = .ok (.putfield 287, 3) := by decide +kernel
theorem dX7_stepOnce_10 : decode cX7_stepOnce 10 = .ok (.aload_n 0, 1) := by decide +kernel
theorem dX7_stepOnce_11 : decode cX7_stepOnce 11 = .ok (.getfield 82, 3) := by decide +kernel
theorem dX7_stepOnce_14 : decode cX7_stepOnce 14 = .ok (.aload_n 0, 1) := by decide +kernel
theorem dX7_stepOnce_15 : decode cX7_stepOnce 15 = .ok (.getfield 287, 3) := by decide +kernel
theorem dX7_stepOnce_18 : decode cX7_stepOnce 18 = .ok (.laload, 1) := by decide +kernel
theorem dX7_stepOnce_19 : decode cX7_stepOnce 19 = .ok (.lstore_n 1, 1) := by decide +kernel
theorem dX7_stepOnce_20 : decode cX7_stepOnce 20 = .ok (.aload_n 0, 1) := by decide +kernel
theorem dX7_stepOnce_21 : decode cX7_stepOnce 21 = .ok (.getfield 85, 3) := by decide +kernel
theorem dX7_stepOnce_24 : decode cX7_stepOnce 24 = .ok (.aload_n 0, 1) := by decide +kernel
theorem dX7_stepOnce_25 : decode cX7_stepOnce 25 = .ok (.getfield 287, 3) := by decide +kernel
theorem dX7_stepOnce_28 : decode cX7_stepOnce 28 = .ok (.laload, 1) := by decide +kernel
theorem dX7_stepOnce_29 : decode cX7_stepOnce 29 = .ok (.lstore_n 3, 1) := by decide +kernel
theorem dX7_stepOnce_30 : decode cX7_stepOnce 30 = .ok (.aload_n 0, 1) := by decide +kernel
theorem dX7_stepOnce_31 : decode cX7_stepOnce 31 = .ok (.dup, 1) := by decide +kernel
theorem dX7_stepOnce_32 : decode cX7_stepOnce 32 = .ok (.getfield 281, 3) := by decide +kernel
theorem dX7_stepOnce_35 : decode cX7_stepOnce 35 = .ok (.iconst 1, 1) := by decide +kernel
theorem dX7_stepOnce_36 : decode cX7_stepOnce 36 = .ok (.iadd, 1) := by decide +kernel
theorem dX7_stepOnce_37 : decode cX7_stepOnce 37 = .ok (.putfield 281, 3) := by decide +kernel
theorem dX7_stepOnce_40 : decode cX7_stepOnce 40 = .ok (.lload_n 1, 1) := by decide +kernel
theorem dX7_stepOnce_41 : decode cX7_stepOnce 41 = .ok (.lload_n 3, 1) := by decide +kernel
theorem dX7_stepOnce_42 : decode cX7_stepOnce 42 = .ok (.lcmp, 1) := by decide +kernel
theorem dX7_stepOnce_43 : decode cX7_stepOnce 43 = .ok (.ifCond .ne 26, 3) := by decide +kernel
theorem dX7_stepOnce_46 : decode cX7_stepOnce 46 = .ok (.lload_n 1, 1) := by decide +kernel
theorem dX7_stepOnce_47 : decode cX7_stepOnce 47 = .ok (.invokestatic 299, 3) := by decide +kernel
theorem dX7_stepOnce_50 : decode cX7_stepOnce 50 = .ok (.ifCond .eq 18, 3) := by decide +kernel
theorem dX7_stepOnce_53 : decode cX7_stepOnce 53 = .ok (.aload_n 0, 1) := by decide +kernel
theorem dX7_stepOnce_54 : decode cX7_stepOnce 54 = .ok (.lload_n 1, 1) := by decide +kernel
theorem dX7_stepOnce_55 : decode cX7_stepOnce 55 = .ok (.invokevirtual 302, 3) := by decide +kernel
theorem dX7_stepOnce_58 : decode cX7_stepOnce 58 = .ok (.iconst 2, 1) := by decide +kernel
theorem dX7_stepOnce_59 : decode cX7_stepOnce 59 = .ok (.if_icmp .ne 9, 3) := by decide +kernel
theorem dX7_stepOnce_62 : decode cX7_stepOnce 62 = .ok (.aload_n 0, 1) := by decide +kernel
theorem dX7_stepOnce_63 : decode cX7_stepOnce 63 = .ok (.lload_n 1, 1) := by decide +kernel
theorem dX7_stepOnce_64 : decode cX7_stepOnce 64 = .ok (.lload_n 3, 1) := by decide +kernel
theorem dX7_stepOnce_65 : decode cX7_stepOnce 65 = .ok (.invokevirtual 306, 3) := by decide +kernel
theorem dX7_stepOnce_68 : decode cX7_stepOnce 68 = .ok (.return_, 1) := by decide +kernel
theorem dX7_stepOnce_69 : decode cX7_stepOnce 69 = .ok (.aload_n 0, 1) := by decide +kernel
theorem dX7_stepOnce_70 : decode cX7_stepOnce 70 = .ok (.ldc2_w 292, 3) := by decide +kernel
theorem dX7_stepOnce_73 : decode cX7_stepOnce 73 = .ok (.iconst 0, 1) := by decide +kernel
theorem dX7_stepOnce_74 : decode cX7_stepOnce 74 = .ok (.bipush 16, 2) := by decide +kernel
theorem dX7_stepOnce_76 : decode cX7_stepOnce 76 = .ok (.iconst 1, 1) := by decide +kernel
theorem dX7_stepOnce_77 : decode cX7_stepOnce 77 = .ok (.invokevirtual 259, 3) := by decide +kernel
theorem dX7_stepOnce_80 : decode cX7_stepOnce 80 = .ok (.aload_n 0, 1) := by decide +kernel
theorem dX7_stepOnce_81 : decode cX7_stepOnce 81 = .ok (.lload_n 1, 1) := by decide +kernel
theorem dX7_stepOnce_82 : decode cX7_stepOnce 82 = .ok (.invokevirtual 248, 3) := by decide +kernel
theorem dX7_stepOnce_85 : decode cX7_stepOnce 85 = .ok (.aload_n 0, 1) := by decide +kernel
theorem dX7_stepOnce_86 : decode cX7_stepOnce 86 = .ok (.lload_n 3, 1) := by decide +kernel
theorem dX7_stepOnce_87 : decode cX7_stepOnce 87 = .ok (.invokevirtual 248, 3) := by decide +kernel
theorem dX7_stepOnce_90 : decode cX7_stepOnce 90 = .ok (.aload_n 0, 1) := by decide +kernel
theorem dX7_stepOnce_91 : decode cX7_stepOnce 91 = .ok (.invokevirtual 263, 3) := by decide +kernel
theorem dX7_stepOnce_94 : decode cX7_stepOnce 94 = .ok (.aload_n 0, 1) := by decide +kernel
theorem dX7_stepOnce_95 : decode cX7_stepOnce 95 = .ok (.getfield 135, 3) := by decide +kernel
theorem dX7_stepOnce_98 : decode cX7_stepOnce 98 = .ok (.ifCond .ne 4, 3) := by decide +kernel
theorem dX7_stepOnce_101 : decode cX7_stepOnce 101 = .ok (.return_, 1) := by decide +kernel
theorem dX7_stepOnce_102 : decode cX7_stepOnce 102 = .ok (.aload_n 0, 1) := by decide +kernel
theorem dX7_stepOnce_103 : decode cX7_stepOnce 103 = .ok (.invokevirtual 310, 3) := by decide +kernel
theorem dX7_stepOnce_106 : decode cX7_stepOnce 106 = .ok (.lstore 5, 2) := by decide +kernel
theorem dX7_stepOnce_108 : decode cX7_stepOnce 108 = .ok (.lload 5, 2) := by decide +kernel
theorem dX7_stepOnce_110 : decode cX7_stepOnce 110 = .ok (.lload_n 1, 1) := by decide +kernel
theorem dX7_stepOnce_111 : decode cX7_stepOnce 111 = .ok (.lcmp, 1) := by decide +kernel
theorem dX7_stepOnce_112 : decode cX7_stepOnce 112 = .ok (.ifCond .lt 43, 3) := by decide +kernel
theorem dX7_stepOnce_115 : decode cX7_stepOnce 115 = .ok (.lload 5, 2) := by decide +kernel
theorem dX7_stepOnce_117 : decode cX7_stepOnce 117 = .ok (.lload_n 3, 1) := by decide +kernel
theorem dX7_stepOnce_118 : decode cX7_stepOnce 118 = .ok (.lcmp, 1) := by decide +kernel
theorem dX7_stepOnce_119 : decode cX7_stepOnce 119 = .ok (.ifCond .gt 36, 3) := by decide +kernel
theorem dX7_stepOnce_122 : decode cX7_stepOnce 122 = .ok (.lload 5, 2) := by decide +kernel
theorem dX7_stepOnce_124 : decode cX7_stepOnce 124 = .ok (.invokestatic 299, 3) := by decide +kernel
theorem dX7_stepOnce_127 : decode cX7_stepOnce 127 = .ok (.ifCond .eq 28, 3) := by decide +kernel
theorem dX7_stepOnce_130 : decode cX7_stepOnce 130 = .ok (.aload_n 0, 1) := by decide +kernel
theorem dX7_stepOnce_131 : decode cX7_stepOnce 131 = .ok (.lload 5, 2) := by decide +kernel
theorem dX7_stepOnce_133 : decode cX7_stepOnce 133 = .ok (.invokevirtual 294, 3) := by decide +kernel
theorem dX7_stepOnce_136 : decode cX7_stepOnce 136 = .ok (.ifCond .ne 19, 3) := by decide +kernel
theorem dX7_stepOnce_139 : decode cX7_stepOnce 139 = .ok (.aload_n 0, 1) := by decide +kernel
theorem dX7_stepOnce_140 : decode cX7_stepOnce 140 = .ok (.lload 5, 2) := by decide +kernel
theorem dX7_stepOnce_142 : decode cX7_stepOnce 142 = .ok (.invokevirtual 302, 3) := by decide +kernel
theorem dX7_stepOnce_145 : decode cX7_stepOnce 145 = .ok (.ifCond .eq 10, 3) := by decide +kernel
theorem dX7_stepOnce_148 : decode cX7_stepOnce 148 = .ok (.aload_n 0, 1) := by decide +kernel
theorem dX7_stepOnce_149 : decode cX7_stepOnce 149 = .ok (.lload_n 1, 1) := by decide +kernel
theorem dX7_stepOnce_150 : decode cX7_stepOnce 150 = .ok (.lload_n 3, 1) := by decide +kernel
theorem dX7_stepOnce_151 : decode cX7_stepOnce 151 = .ok (.invokevirtual 306, 3) := by decide +kernel
theorem dX7_stepOnce_154 : decode cX7_stepOnce 154 = .ok (.return_, 1) := by decide +kernel
theorem dX7_stepOnce_155 : decode cX7_stepOnce 155 = .ok (.lload_n 1, 1) := by decide +kernel
theorem dX7_stepOnce_156 : decode cX7_stepOnce 156 = .ok (.lload_n 3, 1) := by decide +kernel
theorem dX7_stepOnce_157 : decode cX7_stepOnce 157 = .ok (.ladd, 1) := by decide +kernel
theorem dX7_stepOnce_158 : decode cX7_stepOnce 158 = .ok (.ldc2_w 314, 3) := by decide +kernel
theorem dX7_stepOnce_161 : decode cX7_stepOnce 161 = .ok (.ldiv, 1) := by decide +kernel
theorem dX7_stepOnce_162 : decode cX7_stepOnce 162 = .ok (.lstore 7, 2) := by decide +kernel
theorem dX7_stepOnce_164 : decode cX7_stepOnce 164 = .ok (.aload_n 0, 1) := by decide +kernel
theorem dX7_stepOnce_165 : decode cX7_stepOnce 165 = .ok (.lload 7, 2) := by decide +kernel
theorem dX7_stepOnce_167 : decode cX7_stepOnce 167 = .ok (.lconst 1, 1) := by decide +kernel
theorem dX7_stepOnce_168 : decode cX7_stepOnce 168 = .ok (.ladd, 1) := by decide +kernel
theorem dX7_stepOnce_169 : decode cX7_stepOnce 169 = .ok (.lload_n 3, 1) := by decide +kernel
theorem dX7_stepOnce_170 : decode cX7_stepOnce 170 = .ok (.invokevirtual 306, 3) := by decide +kernel
theorem dX7_stepOnce_173 : decode cX7_stepOnce 173 = .ok (.aload_n 0, 1) := by decide +kernel
theorem dX7_stepOnce_174 : decode cX7_stepOnce 174 = .ok (.lload_n 1, 1) := by decide +kernel
theorem dX7_stepOnce_175 : decode cX7_stepOnce 175 = .ok (.lload 7, 2) := by decide +kernel
theorem dX7_stepOnce_177 : decode cX7_stepOnce 177 = .ok (.invokevirtual 306, 3) := by decide +kernel
theorem dX7_stepOnce_180 : decode cX7_stepOnce 180 = .ok (.return_, 1) := by decide +kernel
theorem dX7_step_0 : decode cX7_step 0 = .ok (.aload_n 0, 1) := by decide +kernel
theorem dX7_step_1 : decode cX7_step 1 = .ok (.aload_n 0, 1) := by decide +kernel
theorem dX7_step_2 : decode cX7_step 2 = .ok (.getfield 277, 3) := by decide +kernel
theorem dX7_step_5 : decode cX7_step 5 = .ok (.ifCond .ne 7, 3) := by decide +kernel
theorem dX7_step_8 : decode cX7_step 8 = .ok (.iconst 1, 1) := by decide +kernel
theorem dX7_step_9 : decode cX7_step 9 = .ok (.goto 20, 3) := by decide +kernel
theorem dX7_step_12 : decode cX7_step 12 = .ok (.iload_n 1, 1) := by decide +kernel
theorem dX7_step_13 : decode cX7_step 13 = .ok (.i2l, 1) := by decide +kernel
theorem dX7_step_14 : decode cX7_step 14 = .ok (.lconst 1, 1) := by decide +kernel
theorem dX7_step_15 : decode cX7_step 15 = .ok (.ldc2_w 316, 3) := by decide +kernel
theorem dX7_step_18 : decode cX7_step 18 = .ok (.invokestatic 101, 3) := by decide +kernel
theorem dX7_step_21 : decode cX7_step 21 = .ok (.ifCond .ne 7, 3) := by decide +kernel
theorem dX7_step_24 : decode cX7_step 24 = .ok (.iconst 2, 1) := by decide +kernel
theorem dX7_step_25 : decode cX7_step 25 = .ok (.goto 4, 3) := by decide +kernel
theorem dX7_step_28 : decode cX7_step 28 = .ok (.iconst 0, 1) := by decide +kernel
theorem dX7_step_29 : decode cX7_step 29 = .ok (.putfield 91, 3) := by decide +kernel
theorem dX7_step_32 : decode cX7_step 32 = .ok (.aload_n 0, 1) := by decide +kernel
theorem dX7_step_33 : decode cX7_step 33 = .ok (.getfield 91, 3) := by decide +kernel
theorem dX7_step_36 : decode cX7_step 36 = .ok (.ifCond .le 5, 3) := by decide +kernel
theorem dX7_step_39 : decode cX7_step 39 = .ok (.iconst 0, 1) := by decide +kernel
theorem dX7_step_40 : decode cX7_step 40 = .ok (.ireturn, 1) := by decide +kernel
theorem dX7_step_41 : decode cX7_step 41 = .ok (.iconst 0, 1) := by decide +kernel
theorem dX7_step_42 : decode cX7_step 42 = .ok (.istore_n 2, 1) := by decide +kernel
theorem dX7_step_43 : decode cX7_step 43 = .ok (.iload_n 2, 1) := by decide +kernel
theorem dX7_step_44 : decode cX7_step 44 = .ok (.iload_n 1, 1) := by decide +kernel
theorem dX7_step_45 : decode cX7_step 45 = .ok (.if_icmp .ge 20, 3) := by decide +kernel
theorem dX7_step_48 : decode cX7_step 48 = .ok (.aload_n 0, 1) := by decide +kernel
theorem dX7_step_49 : decode cX7_step 49 = .ok (.getfield 287, 3) := by decide +kernel
theorem dX7_step_52 : decode cX7_step 52 = .ok (.ifCond .le 13, 3) := by decide +kernel
theorem dX7_step_55 : decode cX7_step 55 = .ok (.aload_n 0, 1) := by decide +kernel
theorem dX7_step_56 : decode cX7_step 56 = .ok (.invokevirtual 318, 3) := by decide +kernel
theorem dX7_step_59 : decode cX7_step 59 = .ok (.iinc 2 1, 3) := by decide +kernel
theorem dX7_step_62 : decode cX7_step 62 = .ok (.goto (-19), 3) := by decide +kernel
theorem dX7_step_65 : decode cX7_step 65 = .ok (.aload_n 0, 1) := by decide +kernel
theorem dX7_step_66 : decode cX7_step 66 = .ok (.getfield 287, 3) := by decide +kernel
theorem dX7_step_69 : decode cX7_step 69 = .ok (.ireturn, 1) := by decide +kernel
theorem dX7_found_0 : decode cX7_found 0 = .ok (.aload_n 0, 1) := by decide +kernel
theorem dX7_found_1 : decode cX7_found 1 = .ok (.iconst 0, 1) := by decide +kernel
theorem dX7_found_2 : decode cX7_found 2 = .ok (.putfield 91, 3) := by decide +kernel
theorem dX7_found_5 : decode cX7_found 5 = .ok (.aload_n 0, 1) := by decide +kernel
theorem dX7_found_6 : decode cX7_found 6 = .ok (.getfield 284, 3) := by decide +kernel
theorem dX7_found_9 : decode cX7_found 9 = .ok (.ireturn, 1) := by decide +kernel
theorem dX7_id_0 : decode cX7_id 0 = .ok (.aload_n 0, 1) := by decide +kernel
theorem dX7_id_1 : decode cX7_id 1 = .ok (.iload_n 1, 1) := by decide +kernel
theorem dX7_id_2 : decode cX7_id 2 = .ok (.i2l, 1) := by decide +kernel
theorem dX7_id_3 : decode cX7_id 3 = .ok (.lconst 0, 1) := by decide +kernel
theorem dX7_id_4 : decode cX7_id 4 = .ok (.aload_n 0, 1) := by decide +kernel
theorem dX7_id_5 : decode cX7_id 5 = .ok (.getfield 284, 3) := by decide +kernel
theorem dX7_id_8 : decode cX7_id 8 = .ok (.iconst 1, 1) := by decide +kernel
theorem dX7_id_9 : decode cX7_id 9 = .ok (.isub, 1) := by decide +kernel
theorem dX7_id_10 : decode cX7_id 10 = .ok (.i2l, 1) := by decide +kernel
theorem dX7_id_11 : decode cX7_id 11 = .ok (.invokestatic 101, 3) := by decide +kernel
theorem dX7_id_14 : decode cX7_id 14 = .ok (.invokevirtual 119, 3) := by decide +kernel
theorem dX7_id_17 : decode cX7_id 17 = .ok (.ifCond .eq 12, 3) := by decide +kernel
theorem dX7_id_20 : decode cX7_id 20 = .ok (.aload_n 0, 1) := by decide +kernel
theorem dX7_id_21 : decode cX7_id 21 = .ok (.getfield 88, 3) := by decide +kernel
theorem dX7_id_24 : decode cX7_id 24 = .ok (.iload_n 1, 1) := by decide +kernel
theorem dX7_id_25 : decode cX7_id 25 = .ok (.laload, 1) := by decide +kernel
theorem dX7_id_26 : decode cX7_id 26 = .ok (.goto 4, 3) := by decide +kernel
theorem dX7_id_29 : decode cX7_id 29 = .ok (.lconst 0, 1) := by decide +kernel
theorem dX7_id_30 : decode cX7_id 30 = .ok (.lreturn, 1) := by decide +kernel
theorem dX7_branch_0 : decode cX7_branch 0 = .ok (.aload_n 0, 1) := by decide +kernel
theorem dX7_branch_1 : decode cX7_branch 1 = .ok (.iload_n 1, 1) := by decide +kernel
theorem dX7_branch_2 : decode cX7_branch 2 = .ok (.iconst 2, 1) := by decide +kernel
theorem dX7_branch_3 : decode cX7_branch 3 = .ok (.if_icmp .eq 20, 3) := by decide +kernel
theorem dX7_branch_6 : decode cX7_branch 6 = .ok (.iload_n 1, 1) := by decide +kernel
theorem dX7_branch_7 : decode cX7_branch 7 = .ok (.i2l, 1) := by decide +kernel
theorem dX7_branch_8 : decode cX7_branch 8 = .ok (.lconst 0, 1) := by decide +kernel
theorem dX7_branch_9 : decode cX7_branch 9 = .ok (.lconst 1, 1) := by decide +kernel
theorem dX7_branch_10 : decode cX7_branch 10 = .ok (.invokestatic 101, 3) := by decide +kernel
theorem dX7_branch_13 : decode cX7_branch 13 = .ok (.ifCond .eq 14, 3) := by decide +kernel
theorem dX7_branch_16 : decode cX7_branch 16 = .ok (.aload_n 0, 1) := by decide +kernel
theorem dX7_branch_17 : decode cX7_branch 17 = .ok (.getfield 287, 3) := by decide +kernel
theorem dX7_branch_20 : decode cX7_branch 20 = .ok (.ifCond .le 7, 3) := by decide +kernel
theorem dX7_branch_23 : decode cX7_branch 23 = .ok (.iconst 1, 1) := by decide +kernel
theorem dX7_branch_24 : decode cX7_branch 24 = .ok (.goto 4, 3) := by decide +kernel
theorem dX7_branch_27 : decode cX7_branch 27 = .ok (.iconst 0, 1) := by decide +kernel
theorem dX7_branch_28 : decode cX7_branch 28 = .ok (.invokevirtual 119, 3) := by decide +kernel
theorem dX7_branch_31 : decode cX7_branch 31 = .ok (.ifCond .ne 5, 3) := by decide +kernel
theorem dX7_branch_34 : decode cX7_branch 34 = .ok (.lconst 0, 1) := by decide +kernel
theorem dX7_branch_35 : decode cX7_branch 35 = .ok (.lreturn, 1) := by decide +kernel
theorem dX7_branch_36 : decode cX7_branch 36 = .ok (.iload_n 1, 1) := by decide +kernel
theorem dX7_branch_37 : decode cX7_branch 37 = .ok (.iconst 2, 1) := by decide +kernel
theorem dX7_branch_38 : decode cX7_branch 38 = .ok (.if_icmp .ne 11, 3) := by decide +kernel
theorem dX7_branch_41 : decode cX7_branch 41 = .ok (.aload_n 0, 1) := by decide +kernel
theorem dX7_branch_42 : decode cX7_branch 42 = .ok (.getfield 281, 3) := by decide +kernel
theorem dX7_branch_45 : decode cX7_branch 45 = .ok (.i2l, 1) := by decide +kernel
theorem dX7_branch_46 : decode cX7_branch 46 = .ok (.goto 32, 3) := by decide +kernel
theorem dX7_branch_49 : decode cX7_branch 49 = .ok (.iload_n 1, 1) := by decide +kernel
theorem dX7_branch_50 : decode cX7_branch 50 = .ok (.ifCond .ne 17, 3) := by decide +kernel
theorem dX7_branch_53 : decode cX7_branch 53 = .ok (.aload_n 0, 1) := by decide +kernel
theorem dX7_branch_54 : decode cX7_branch 54 = .ok (.getfield 82, 3) := by decide +kernel
theorem dX7_branch_57 : decode cX7_branch 57 = .ok (.aload_n 0, 1) := by decide +kernel
theorem dX7_branch_58 : decode cX7_branch 58 = .ok (.getfield 287, 3) := by decide +kernel
theorem dX7_branch_61 : decode cX7_branch 61 = .ok (.iconst 1, 1) := by decide +kernel
theorem dX7_branch_62 : decode cX7_branch 62 = .ok (.isub, 1) := by decide +kernel
theorem dX7_branch_63 : decode cX7_branch 63 = .ok (.laload, 1) := by decide +kernel
theorem dX7_branch_64 : decode cX7_branch 64 = .ok (.goto 14, 3) := by decide +kernel
theorem dX7_branch_67 : decode cX7_branch 67 = .ok (.aload_n 0, 1) := by decide +kernel
theorem dX7_branch_68 : decode cX7_branch 68 = .ok (.getfield 85, 3) := by decide +kernel
theorem dX7_branch_71 : decode cX7_branch 71 = .ok (.aload_n 0, 1) := by decide +kernel
theorem dX7_branch_72 : decode cX7_branch 72 = .ok (.getfield 287, 3) := by decide +kernel
theorem dX7_branch_75 : decode cX7_branch 75 = .ok (.iconst 1, 1) := by decide +kernel
theorem dX7_branch_76 : decode cX7_branch 76 = .ok (.isub, 1) := by decide +kernel
theorem dX7_branch_77 : decode cX7_branch 77 = .ok (.laload, 1) := by decide +kernel
theorem dX7_branch_78 : decode cX7_branch 78 = .ok (.lreturn, 1) := by decide +kernel
