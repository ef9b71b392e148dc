theorem dX11_thrown_0 : decode cX11_thrown 0 = .ok (.aload_n 0, 1) := by decide +kernel
theorem dX11_thrown_1 : decode cX11_thrown 1 = .ok (.getfield 1, 3) := by decide +kernel
theorem dX11_thrown_4 : decode cX11_thrown 4 = .ok (.ireturn, 1) := by decide +kernel
theorem dX11_feed_0 : decode cX11_feed 0 = .ok (.aload_n 0, 1) := by decide +kernel
theorem dX11_feed_1 : decode cX11_feed 1 = .ok (.iconst 0, 1) := by decide +kernel
theorem dX11_feed_2 : decode cX11_feed 2 = .ok (.putfield 1, 3) := by decide +kernel
theorem dX11_feed_5 : decode cX11_feed 5 = .ok (.aload_n 0, 1) := by decide +kernel
theorem dX11_feed_6 : decode cX11_feed 6 = .ok (.lload_n 1, 1) := by decide +kernel
theorem dX11_feed_7 : decode cX11_feed 7 = .ok (.invokevirtual 7, 3) := by decide +kernel
theorem dX11_feed_10 : decode cX11_feed 10 = .ok (.aload_n 0, 1) := by decide +kernel
theorem dX11_feed_11 : decode cX11_feed 11 = .ok (.lload_n 3, 1) := by decide +kernel
theorem dX11_feed_12 : decode cX11_feed 12 = .ok (.invokevirtual 7, 3) := by decide +kernel
theorem dX11_feed_15 : decode cX11_feed 15 = .ok (.aload_n 0, 1) := by decide +kernel
theorem dX11_feed_16 : decode cX11_feed 16 = .ok (.lload 5, 2) := by decide +kernel
theorem dX11_feed_18 : decode cX11_feed 18 = .ok (.invokevirtual 7, 3) := by decide +kernel
theorem dX11_feed_21 : decode cX11_feed 21 = .ok (.aload_n 0, 1) := by decide +kernel
theorem dX11_feed_22 : decode cX11_feed 22 = .ok (.getfield 11, 3) := by decide +kernel
theorem dX11_feed_25 : decode cX11_feed 25 = .ok (.ireturn, 1) := by decide +kernel
theorem dX11_lay_0 : decode cX11_lay 0 = .ok (.bipush 56, 2) := by decide +kernel
theorem dX11_lay_2 : decode cX11_lay 2 = .ok (.istore_n 3, 1) := by decide +kernel
theorem dX11_lay_3 : decode cX11_lay 3 = .ok (.iload_n 3, 1) := by decide +kernel
theorem dX11_lay_4 : decode cX11_lay 4 = .ok (.ifCond .lt 71, 3) := by decide +kernel
theorem dX11_lay_7 : decode cX11_lay 7 = .ok (.lload_n 1, 1) := by decide +kernel
theorem dX11_lay_8 : decode cX11_lay 8 = .ok (.iload_n 3, 1) := by decide +kernel
theorem dX11_lay_9 : decode cX11_lay 9 = .ok (.lshr, 1) := by decide +kernel
theorem dX11_lay_10 : decode cX11_lay 10 = .ok (.l2i, 1) := by decide +kernel
theorem dX11_lay_11 : decode cX11_lay 11 = .ok (.sipush 255, 3) := by decide +kernel
theorem dX11_lay_14 : decode cX11_lay 14 = .ok (.iand, 1) := by decide +kernel
theorem dX11_lay_15 : decode cX11_lay 15 = .ok (.istore 4, 2) := by decide +kernel
theorem dX11_lay_17 : decode cX11_lay 17 = .ok (.iload 4, 2) := by decide +kernel
theorem dX11_lay_19 : decode cX11_lay 19 = .ok (.bipush 10, 2) := by decide +kernel
theorem dX11_lay_21 : decode cX11_lay 21 = .ok (.if_icmp .eq 17, 3) := by decide +kernel
theorem dX11_lay_24 : decode cX11_lay 24 = .ok (.iload 4, 2) := by decide +kernel
theorem dX11_lay_26 : decode cX11_lay 26 = .ok (.bipush 32, 2) := by decide +kernel
theorem dX11_lay_28 : decode cX11_lay 28 = .ok (.if_icmp .lt 41, 3) := by decide +kernel
theorem dX11_lay_31 : decode cX11_lay 31 = .ok (.iload 4, 2) := by decide +kernel
theorem dX11_lay_33 : decode cX11_lay 33 = .ok (.bipush 126, 2) := by decide +kernel
theorem dX11_lay_35 : decode cX11_lay 35 = .ok (.if_icmp .gt 34, 3) := by decide +kernel
theorem dX11_lay_38 : decode cX11_lay 38 = .ok (.aload_n 0, 1) := by decide +kernel
theorem dX11_lay_39 : decode cX11_lay 39 = .ok (.getfield 11, 3) := by decide +kernel
theorem dX11_lay_42 : decode cX11_lay 42 = .ok (.sipush 1000, 3) := by decide +kernel
theorem dX11_lay_45 : decode cX11_lay 45 = .ok (.if_icmp .ge 24, 3) := by decide +kernel
theorem dX11_lay_48 : decode cX11_lay 48 = .ok (.aload_n 0, 1) := by decide +kernel
theorem dX11_lay_49 : decode cX11_lay 49 = .ok (.getfield 14, 3) := by decide +kernel
theorem dX11_lay_52 : decode cX11_lay 52 = .ok (.aload_n 0, 1) := by decide +kernel
theorem dX11_lay_53 : decode cX11_lay 53 = .ok (.getfield 11, 3) := by decide +kernel
theorem dX11_lay_56 : decode cX11_lay 56 = .ok (.iload 4, 2) := by decide +kernel
theorem dX11_lay_58 : decode cX11_lay 58 = .ok (.iastore, 1) := by decide +kernel
theorem dX11_lay_59 : decode cX11_lay 59 = .ok (.aload_n 0, 1) := by decide +kernel
theorem dX11_lay_60 : decode cX11_lay 60 = .ok (.dup, 1) := by decide +kernel
theorem dX11_lay_61 : decode cX11_lay 61 = .ok (.getfield 11, 3) := by decide +kernel
theorem dX11_lay_64 : decode cX11_lay 64 = .ok (.iconst 1, 1) := by decide +kernel
theorem dX11_lay_65 : decode cX11_lay 65 = .ok (.iadd, 1) := by decide +kernel
theorem dX11_lay_66 : decode cX11_lay 66 = .ok (.putfield 11, 3) := by decide +kernel
theorem dX11_lay_69 : decode cX11_lay 69 = .ok (.iinc 3 (-8), 3) := by decide +kernel
theorem dX11_lay_72 : decode cX11_lay 72 = .ok (.goto (-69), 3) := by decide +kernel
theorem dX11_lay_75 : decode cX11_lay 75 = .ok (.return_, 1) := by decide +kernel
theorem dX11_init_0 : decode cX11_init 0 = .ok (.aload_n 0, 1) := by decide +kernel
theorem dX11_init_1 : decode cX11_init 1 = .ok (.invokespecial 18, 3) := by decide +kernel
theorem dX11_init_4 : decode cX11_init 4 = .ok (.aload_n 0, 1) := by decide +kernel
theorem dX11_init_5 : decode cX11_init 5 = .ok (.sipush 1000, 3) := by decide +kernel
theorem dX11_init_8 : decode cX11_init 8 = .ok (.newarray .int, 2) := by decide +kernel
theorem dX11_init_10 : decode cX11_init 10 = .ok (.putfield 14, 3) := by decide +kernel
theorem dX11_init_13 : decode cX11_init 13 = .ok (.aload_n 0, 1) := by decide +kernel
theorem dX11_init_14 : decode cX11_init 14 = .ok (.sipush 1002, 3) := by decide +kernel
theorem dX11_init_17 : decode cX11_init 17 = .ok (.newarray .int, 2) := by decide +kernel
theorem dX11_init_19 : decode cX11_init 19 = .ok (.putfield 24, 3) := by decide +kernel
theorem dX11_init_22 : decode cX11_init 22 = .ok (.aload_n 0, 1) := by decide +kernel
theorem dX11_init_23 : decode cX11_init 23 = .ok (.sipush 1002, 3) := by decide +kernel
theorem dX11_init_26 : decode cX11_init 26 = .ok (.newarray .int, 2) := by decide +kernel
theorem dX11_init_28 : decode cX11_init 28 = .ok (.putfield 27, 3) := by decide +kernel
theorem dX11_init_31 : decode cX11_init 31 = .ok (.aload_n 0, 1) := by decide +kernel
theorem dX11_init_32 : decode cX11_init 32 = .ok (.sipush 1002, 3) := by decide +kernel
theorem dX11_init_35 : decode cX11_init 35 = .ok (.newarray .long, 2) := by decide +kernel
theorem dX11_init_37 : decode cX11_init 37 = .ok (.putfield 30, 3) := by decide +kernel
theorem dX11_init_40 : decode cX11_init 40 = .ok (.aload_n 0, 1) := by decide +kernel
theorem dX11_init_41 : decode cX11_init 41 = .ok (.bipush 16, 2) := by decide +kernel
theorem dX11_init_43 : decode cX11_init 43 = .ok (.newarray .long, 2) := by decide +kernel
theorem dX11_init_45 : decode cX11_init 45 = .ok (.dup, 1) := by decide +kernel
theorem dX11_init_46 : decode cX11_init 46 = .ok (.iconst 0, 1) := by decide +kernel
theorem dX11_init_47 : decode cX11_init 47 = .ok (.ldc2_w 34, 3) := by decide +kernel
theorem dX11_init_50 : decode cX11_init 50 = .ok (.lastore, 1) := by decide +kernel
theorem dX11_init_51 : decode cX11_init 51 = .ok (.dup, 1) := by decide +kernel
theorem dX11_init_52 : decode cX11_init 52 = .ok (.iconst 1, 1) := by decide +kernel
theorem dX11_init_53 : decode cX11_init 53 = .ok (.ldc2_w 36, 3) := by decide +kernel
theorem dX11_init_56 : decode cX11_init 56 = .ok (.lastore, 1) := by decide +kernel
theorem dX11_init_57 : decode cX11_init 57 = .ok (.dup, 1) := by decide +kernel
theorem dX11_init_58 : decode cX11_init 58 = .ok (.iconst 2, 1) := by decide +kernel
theorem dX11_init_59 : decode cX11_init 59 = .ok (.ldc2_w 38, 3) := by decide +kernel
theorem dX11_init_62 : decode cX11_init 62 = .ok (.lastore, 1) := by decide +kernel
theorem dX11_init_63 : decode cX11_init 63 = .ok (.dup, 1) := by decide +kernel
theorem dX11_init_64 : decode cX11_init 64 = .ok (.iconst 3, 1) := by decide +kernel
theorem dX11_init_65 : decode cX11_init 65 = .ok (.ldc2_w 40, 3) := by decide +kernel
theorem dX11_init_68 : decode cX11_init 68 = .ok (.lastore, 1) := by decide +kernel
theorem dX11_init_69 : decode cX11_init 69 = .ok (.dup, 1) := by decide +kernel
theorem dX11_init_70 : decode cX11_init 70 = .ok (.iconst 4, 1) := by decide +kernel
theorem dX11_init_71 : decode cX11_init 71 = .ok (.ldc2_w 42, 3) := by decide +kernel
theorem dX11_init_74 : decode cX11_init 74 = .ok (.lastore, 1) := by decide +kernel
theorem dX11_init_75 : decode cX11_init 75 = .ok (.dup, 1) := by decide +kernel
theorem dX11_init_76 : decode cX11_init 76 = .ok (.iconst 5, 1) := by decide +kernel
theorem dX11_init_77 : decode cX11_init 77 = .ok (.ldc2_w 44, 3) := by decide +kernel
theorem dX11_init_80 : decode cX11_init 80 = .ok (.lastore, 1) := by decide +kernel
theorem dX11_init_81 : decode cX11_init 81 = .ok (.dup, 1) := by decide +kernel
theorem dX11_init_82 : decode cX11_init 82 = .ok (.bipush 6, 2) := by decide +kernel
theorem dX11_init_84 : decode cX11_init 84 = .ok (.ldc2_w 46, 3) := by decide +kernel
theorem dX11_init_87 : decode cX11_init 87 = .ok (.lastore, 1) := by decide +kernel
theorem dX11_init_88 : decode cX11_init 88 = .ok (.dup, 1) := by decide +kernel
theorem dX11_init_89 : decode cX11_init 89 = .ok (.bipush 7, 2) := by decide +kernel
theorem dX11_init_91 : decode cX11_init 91 = .ok (.ldc2_w 48, 3) := by decide +kernel
theorem dX11_init_94 : decode cX11_init 94 = .ok (.lastore, 1) := by decide +kernel
theorem dX11_init_95 : decode cX11_init 95 = .ok (.dup, 1) := by decide +kernel
theorem dX11_init_96 : decode cX11_init 96 = .ok (.bipush 8, 2) := by decide +kernel
theorem dX11_init_98 : decode cX11_init 98 = .ok (.ldc2_w 50, 3) := by decide +kernel
theorem dX11_init_101 : decode cX11_init 101 = .ok (.lastore, 1) := by decide +kernel
theorem dX11_init_102 : decode cX11_init 102 = .ok (.dup, 1) := by decide +kernel
theorem dX11_init_103 : decode cX11_init 103 = .ok (.bipush 9, 2) := by decide +kernel
theorem dX11_init_105 : decode cX11_init 105 = .ok (.ldc2_w 52, 3) := by decide +kernel
theorem dX11_init_108 : decode cX11_init 108 = .ok (.lastore, 1) := by decide +kernel
theorem dX11_init_109 : decode cX11_init 109 = .ok (.dup, 1) := by decide +kernel
theorem dX11_init_110 : decode cX11_init 110 = .ok (.bipush 10, 2) := by decide +kernel
theorem dX11_init_112 : decode cX11_init 112 = .ok (.ldc2_w 54, 3) := by decide +kernel
theorem dX11_init_115 : decode cX11_init 115 = .ok (.lastore, 1) := by decide +kernel
theorem dX11_init_116 : decode cX11_init 116 = .ok (.dup, 1) := by decide +kernel
theorem dX11_init_117 : decode cX11_init 117 = .ok (.bipush 11, 2) := by decide +kernel
theorem dX11_init_119 : decode cX11_init 119 = .ok (.ldc2_w 56, 3) := by decide +kernel
theorem dX11_init_122 : decode cX11_init 122 = .ok (.lastore, 1) := by decide +kernel
theorem dX11_init_123 : decode cX11_init 123 = .ok (.dup, 1) := by decide +kernel
theorem dX11_init_124 : decode cX11_init 124 = .ok (.bipush 12, 2) := by decide +kernel
theorem dX11_init_126 : decode cX11_init 126 = .ok (.ldc2_w 58, 3) := by decide +kernel
theorem dX11_init_129 : decode cX11_init 129 = .ok (.lastore, 1) := by decide +kernel
theorem dX11_init_130 : decode cX11_init 130 = .ok (.dup, 1) := by decide +kernel
theorem dX11_init_131 : decode cX11_init 131 = .ok (.bipush 13, 2) := by decide +kernel
theorem dX11_init_133 : decode cX11_init 133 = .ok (.ldc2_w 60, 3) := by decide +kernel
theorem dX11_init_136 : decode cX11_init 136 = .ok (.lastore, 1) := by decide +kernel
theorem dX11_init_137 : decode cX11_init 137 = .ok (.dup, 1) := by decide +kernel
theorem dX11_init_138 : decode cX11_init 138 = .ok (.bipush 14, 2) := by decide +kernel
theorem dX11_init_140 : decode cX11_init 140 = .ok (.ldc2_w 62, 3) := by decide +kernel
theorem dX11_init_143 : decode cX11_init 143 = .ok (.lastore, 1) := by decide +kernel
theorem dX11_init_144 : decode cX11_init 144 = .ok (.dup, 1) := by decide +kernel
theorem dX11_init_145 : decode cX11_init 145 = .ok (.bipush 15, 2) := by decide +kernel
theorem dX11_init_147 : decode cX11_init 147 = .ok (.ldc2_w 64, 3) := by decide +kernel
theorem dX11_init_150 : decode cX11_init 150 = .ok (.lastore, 1) := by decide +kernel
theorem dX11_init_151 : decode cX11_init 151 = .ok (.putfield 66, 3) := by decide +kernel
theorem dX11_init_154 : decode cX11_init 154 = .ok (.aload_n 0, 1) := by decide +kernel
theorem dX11_init_155 : decode cX11_init 155 = .ok (.sipush 7000, 3) := by decide +kernel
theorem dX11_init_158 : decode cX11_init 158 = .ok (.newarray .int, 2) := by decide +kernel
theorem dX11_init_160 : decode cX11_init 160 = .ok (.putfield 69, 3) := by decide +kernel
theorem dX11_init_163 : decode cX11_init 163 = .ok (.aload_n 0, 1) := by decide +kernel
theorem dX11_init_164 : decode cX11_init 164 = .ok (.sipush 2200, 3) := by decide +kernel
theorem dX11_init_167 : decode cX11_init 167 = .ok (.newarray .int, 2) := by decide +kernel
theorem dX11_init_169 : decode cX11_init 169 = .ok (.putfield 72, 3) := by decide +kernel
theorem dX11_init_172 : decode cX11_init 172 = .ok (.aload_n 0, 1) := by decide +kernel
theorem dX11_init_173 : decode cX11_init 173 = .ok (.sipush 2200, 3) := by decide +kernel
theorem dX11_init_176 : decode cX11_init 176 = .ok (.newarray .int, 2) := by decide +kernel
theorem dX11_init_178 : decode cX11_init 178 = .ok (.putfield 75, 3) := by decide +kernel
theorem dX11_init_181 : decode cX11_init 181 = .ok (.aload_n 0, 1) := by decide +kernel
theorem dX11_init_182 : decode cX11_init 182 = .ok (.bipush 6, 2) := by decide +kernel
theorem dX11_init_184 : decode cX11_init 184 = .ok (.newarray .long, 2) := by decide +kernel
theorem dX11_init_186 : decode cX11_init 186 = .ok (.putfield 78, 3) := by decide +kernel
theorem dX11_init_189 : decode cX11_init 189 = .ok (.aload_n 0, 1) := by decide +kernel
theorem dX11_init_190 : decode cX11_init 190 = .ok (.iconst 4, 1) := by decide +kernel
theorem dX11_init_191 : decode cX11_init 191 = .ok (.newarray .int, 2) := by decide +kernel
theorem dX11_init_193 : decode cX11_init 193 = .ok (.dup, 1) := by decide +kernel
theorem dX11_init_194 : decode cX11_init 194 = .ok (.iconst 0, 1) := by decide +kernel
theorem dX11_init_195 : decode cX11_init 195 = .ok (.iconst 1, 1) := by decide +kernel
theorem dX11_init_196 : decode cX11_init 196 = .ok (.iastore, 1) := by decide +kernel
theorem dX11_init_197 : decode cX11_init 197 = .ok (.dup, 1) := by decide +kernel
theorem dX11_init_198 : decode cX11_init 198 = .ok (.iconst 1, 1) := by decide +kernel
theorem dX11_init_199 : decode cX11_init 199 = .ok (.iconst 2, 1) := by decide +kernel
theorem dX11_init_200 : decode cX11_init 200 = .ok (.iastore, 1) := by decide +kernel
theorem dX11_init_201 : decode cX11_init 201 = .ok (.dup, 1) := by decide +kernel
theorem dX11_init_202 : decode cX11_init 202 = .ok (.iconst 2, 1) := by decide +kernel
theorem dX11_init_203 : decode cX11_init 203 = .ok (.bipush 13, 2) := by decide +kernel
theorem dX11_init_205 : decode cX11_init 205 = .ok (.iastore, 1) := by decide +kernel
theorem dX11_init_206 : decode cX11_init 206 = .ok (.dup, 1) := by decide +kernel
theorem dX11_init_207 : decode cX11_init 207 = .ok (.iconst 3, 1) := by decide +kernel
theorem dX11_init_208 : decode cX11_init 208 = .ok (.bipush 14, 2) := by decide +kernel
theorem dX11_init_210 : decode cX11_init 210 = .ok (.iastore, 1) := by decide +kernel
theorem dX11_init_211 : decode cX11_init 211 = .ok (.putfield 81, 3) := by decide +kernel
theorem dX11_init_214 : decode cX11_init 214 = .ok (.aload_n 0, 1) := by decide +kernel
theorem dX11_init_215 : decode cX11_init 215 = .ok (.iconst 5, 1) := by decide +kernel
theorem dX11_init_216 : decode cX11_init 216 = .ok (.newarray .int, 2) := by decide +kernel
theorem dX11_init_218 : decode cX11_init 218 = .ok (.dup, 1) := by decide +kernel
theorem dX11_init_219 : decode cX11_init 219 = .ok (.iconst 0, 1) := by decide +kernel
theorem dX11_init_220 : decode cX11_init 220 = .ok (.iconst 1, 1) := by decide +kernel
theorem dX11_init_221 : decode cX11_init 221 = .ok (.iastore, 1) := by decide +kernel
theorem dX11_init_222 : decode cX11_init 222 = .ok (.dup, 1) := by decide +kernel
theorem dX11_init_223 : decode cX11_init 223 = .ok (.iconst 1, 1) := by decide +kernel
theorem dX11_init_224 : decode cX11_init 224 = .ok (.iconst 2, 1) := by decide +kernel
theorem dX11_init_225 : decode cX11_init 225 = .ok (.iastore, 1) := by decide +kernel
theorem dX11_init_226 : decode cX11_init 226 = .ok (.dup, 1) := by decide +kernel
theorem dX11_init_227 : decode cX11_init 227 = .ok (.iconst 2, 1) := by decide +kernel
theorem dX11_init_228 : decode cX11_init 228 = .ok (.bipush 13, 2) := by decide +kernel
theorem dX11_init_230 : decode cX11_init 230 = .ok (.iastore, 1) := by decide +kernel
theorem dX11_init_231 : decode cX11_init 231 = .ok (.dup, 1) := by decide +kernel
theorem dX11_init_232 : decode cX11_init 232 = .ok (.iconst 3, 1) := by decide +kernel
theorem dX11_init_233 : decode cX11_init 233 = .ok (.iconst 4, 1) := by decide +kernel
theorem dX11_init_234 : decode cX11_init 234 = .ok (.iastore, 1) := by decide +kernel
theorem dX11_init_235 : decode cX11_init 235 = .ok (.dup, 1) := by decide +kernel
theorem dX11_init_236 : decode cX11_init 236 = .ok (.iconst 4, 1) := by decide +kernel
theorem dX11_init_237 : decode cX11_init 237 = .ok (.bipush 15, 2) := by decide +kernel
theorem dX11_init_239 : decode cX11_init 239 = .ok (.iastore, 1) := by decide +kernel
theorem dX11_init_240 : decode cX11_init 240 = .ok (.putfield 84, 3) := by decide +kernel
theorem dX11_init_243 : decode cX11_init 243 = .ok (.aload_n 0, 1) := by decide +kernel
theorem dX11_init_244 : decode cX11_init 244 = .ok (.iconst 5, 1) := by decide +kernel
theorem dX11_init_245 : decode cX11_init 245 = .ok (.newarray .int, 2) := by decide +kernel
theorem dX11_init_247 : decode cX11_init 247 = .ok (.putfield 87, 3) := by decide +kernel
theorem dX11_init_250 : decode cX11_init 250 = .ok (.aload_n 0, 1) := by decide +kernel
theorem dX11_init_251 : decode cX11_init 251 = .ok (.sipush 1100, 3) := by decide +kernel
theorem dX11_init_254 : decode cX11_init 254 = .ok (.newarray .int, 2) := by decide +kernel
theorem dX11_init_256 : decode cX11_init 256 = .ok (.putfield 90, 3) := by decide +kernel
theorem dX11_init_259 : decode cX11_init 259 = .ok (.aload_n 0, 1) := by decide +kernel
theorem dX11_init_260 : decode cX11_init 260 = .ok (.iconst (-1), 1) := by decide +kernel
theorem dX11_init_261 : decode cX11_init 261 = .ok (.putfield 93, 3) := by decide +kernel
theorem dX11_init_264 : decode cX11_init 264 = .ok (.aload_n 0, 1) := by decide +kernel
theorem dX11_init_265 : decode cX11_init 265 = .ok (.bipush 6, 2) := by decide +kernel
theorem dX11_init_267 : decode cX11_init 267 = .ok (.newarray .int, 2) := by decide +kernel
theorem dX11_init_269 : decode cX11_init 269 = .ok (.putfield 96, 3) := by decide +kernel
theorem dX11_init_272 : decode cX11_init 272 = .ok (.aload_n 0, 1) := by decide +kernel
theorem dX11_init_273 : decode cX11_init 273 = .ok (.bipush 6, 2) := by decide +kernel
theorem dX11_init_275 : decode cX11_init 275 = .ok (.newarray .int, 2) := by decide +kernel
theorem dX11_init_277 : decode cX11_init 277 = .ok (.putfield 99, 3) := by decide +kernel
theorem dX11_init_280 : decode cX11_init 280 = .ok (.aload_n 0, 1) := by decide +kernel
theorem dX11_init_281 : decode cX11_init 281 = .ok (.sipush 1024, 3) := by decide +kernel
theorem dX11_init_284 : decode cX11_init 284 = .ok (.newarray .int, 2) := by decide +kernel
theorem dX11_init_286 : decode cX11_init 286 = .ok (.putfield 102, 3) := by decide +kernel
theorem dX11_init_289 : decode cX11_init 289 = .ok (.aload_n 0, 1) := by decide +kernel
theorem dX11_init_290 : decode cX11_init 290 = .ok (.sipush 256, 3) := by decide +kernel
theorem dX11_init_293 : decode cX11_init 293 = .ok (.newarray .boolean, 2) := by decide +kernel
theorem dX11_init_295 : decode cX11_init 295 = .ok (.putfield 105, 3) := by decide +kernel
theorem dX11_init_298 : decode cX11_init 298 = .ok (.aload_n 0, 1) := by decide +kernel
theorem dX11_init_299 : decode cX11_init 299 = .ok (.bipush 52, 2) := by decide +kernel
theorem dX11_init_301 : decode cX11_init 301 = .ok (.newarray .int, 2) := by decide +kernel
theorem dX11_init_303 : decode cX11_init 303 = .ok (.putfield 109, 3) := by decide +kernel
theorem dX11_init_306 : decode cX11_init 306 = .ok (.aload_n 0, 1) := by decide +kernel
theorem dX11_init_307 : decode cX11_init 307 = .ok (.sipush 260, 3) := by decide +kernel
theorem dX11_init_310 : decode cX11_init 310 = .ok (.newarray .int, 2) := by decide +kernel
theorem dX11_init_312 : decode cX11_init 312 = .ok (.putfield 112, 3) := by decide +kernel
theorem dX11_init_315 : decode cX11_init 315 = .ok (.aload_n 0, 1) := by decide +kernel
theorem dX11_init_316 : decode cX11_init 316 = .ok (.iconst 4, 1) := by decide +kernel
theorem dX11_init_317 : decode cX11_init 317 = .ok (.newarray .boolean, 2) := by decide +kernel
theorem dX11_init_319 : decode cX11_init 319 = .ok (.putfield 115, 3) := by decide +kernel
theorem dX11_init_322 : decode cX11_init 322 = .ok (.aload_n 0, 1) := by decide +kernel
theorem dX11_init_323 : decode cX11_init 323 = .ok (.getfield 69, 3) := by decide +kernel
theorem dX11_init_326 : decode cX11_init 326 = .ok (.iconst 5, 1) := by decide +kernel
theorem dX11_init_327 : decode cX11_init 327 = .ok (.iconst (-1), 1) := by decide +kernel
theorem dX11_init_328 : decode cX11_init 328 = .ok (.iastore, 1) := by decide +kernel
theorem dX11_init_329 : decode cX11_init 329 = .ok (.aload_n 0, 1) := by decide +kernel
theorem dX11_init_330 : decode cX11_init 330 = .ok (.getfield 69, 3) := by decide +kernel
theorem dX11_init_333 : decode cX11_init 333 = .ok (.bipush 6, 2) := by decide +kernel
theorem dX11_init_335 : decode cX11_init 335 = .ok (.iconst (-1), 1) := by decide +kernel
theorem dX11_init_336 : decode cX11_init 336 = .ok (.iastore, 1) := by decide +kernel
theorem dX11_init_337 : decode cX11_init 337 = .ok (.return_, 1) := by decide +kernel
theorem dX11_isLetter_0 : decode cX11_isLetter 0 = .ok (.iload_n 0, 1) := by decide +kernel
theorem dX11_isLetter_1 : decode cX11_isLetter 1 = .ok (.bipush 97, 2) := by decide +kernel
theorem dX11_isLetter_3 : decode cX11_isLetter 3 = .ok (.if_icmp .lt 13, 3) := by decide +kernel
theorem dX11_isLetter_6 : decode cX11_isLetter 6 = .ok (.iload_n 0, 1) := by decide +kernel
theorem dX11_isLetter_7 : decode cX11_isLetter 7 = .ok (.bipush 122, 2) := by decide +kernel
theorem dX11_isLetter_9 : decode cX11_isLetter 9 = .ok (.if_icmp .gt 7, 3) := by decide +kernel
theorem dX11_isLetter_12 : decode cX11_isLetter 12 = .ok (.iconst 1, 1) := by decide +kernel
theorem dX11_isLetter_13 : decode cX11_isLetter 13 = .ok (.goto 4, 3) := by decide +kernel
theorem dX11_isLetter_16 : decode cX11_isLetter 16 = .ok (.iconst 0, 1) := by decide +kernel
theorem dX11_isLetter_17 : decode cX11_isLetter 17 = .ok (.ireturn, 1) := by decide +kernel
theorem dX11_isDigit_0 : decode cX11_isDigit 0 = .ok (.iload_n 0, 1) := by decide +kernel
theorem dX11_isDigit_1 : decode cX11_isDigit 1 = .ok (.bipush 48, 2) := by decide +kernel
theorem dX11_isDigit_3 : decode cX11_isDigit 3 = .ok (.if_icmp .lt 13, 3) := by decide +kernel
theorem dX11_isDigit_6 : decode cX11_isDigit 6 = .ok (.iload_n 0, 1) := by decide +kernel
theorem dX11_isDigit_7 : decode cX11_isDigit 7 = .ok (.bipush 57, 2) := by decide +kernel
theorem dX11_isDigit_9 : decode cX11_isDigit 9 = .ok (.if_icmp .gt 7, 3) := by decide +kernel
theorem dX11_isDigit_12 : decode cX11_isDigit 12 = .ok (.iconst 1, 1) := by decide +kernel
theorem dX11_isDigit_13 : decode cX11_isDigit 13 = .ok (.goto 4, 3) := by decide +kernel
theorem dX11_isDigit_16 : decode cX11_isDigit 16 = .ok (.iconst 0, 1) := by decide +kernel
theorem dX11_isDigit_17 : decode cX11_isDigit 17 = .ok (.ireturn, 1) := by decide +kernel
theorem dX11_rank_0 : decode cX11_rank 0 = .ok (.iload_n 0, 1) := by decide +kernel
theorem dX11_rank_1 : decode cX11_rank 1 = .ok (.invokestatic 118, 3) := by decide +kernel
theorem dX11_rank_4 : decode cX11_rank 4 = .ok (.ifCond .eq 10, 3) := by decide +kernel
theorem dX11_rank_7 : decode cX11_rank 7 = .ok (.iload_n 0, 1) := by decide +kernel
theorem dX11_rank_8 : decode cX11_rank 8 = .ok (.bipush 96, 2) := by decide +kernel
theorem dX11_rank_10 : decode cX11_rank 10 = .ok (.isub, 1) := by decide +kernel
theorem dX11_rank_11 : decode cX11_rank 11 = .ok (.goto 7, 3) := by decide +kernel
theorem dX11_rank_14 : decode cX11_rank 14 = .ok (.iload_n 0, 1) := by decide +kernel
theorem dX11_rank_15 : decode cX11_rank 15 = .ok (.bipush 21, 2) := by decide +kernel
theorem dX11_rank_17 : decode cX11_rank 17 = .ok (.isub, 1) := by decide +kernel
theorem dX11_rank_18 : decode cX11_rank 18 = .ok (.ireturn, 1) := by decide +kernel
theorem dX11_isSignOf_0 : decode cX11_isSignOf 0 = .ok (.iload_n 0, 1) := by decide +kernel
theorem dX11_isSignOf_1 : decode cX11_isSignOf 1 = .ok (.bipush 40, 2) := by decide +kernel
theorem dX11_isSignOf_3 : decode cX11_isSignOf 3 = .ok (.if_icmp .eq 45, 3) := by decide +kernel
theorem dX11_isSignOf_6 : decode cX11_isSignOf 6 = .ok (.iload_n 0, 1) := by decide +kernel
theorem dX11_isSignOf_7 : decode cX11_isSignOf 7 = .ok (.bipush 41, 2) := by decide +kernel
theorem dX11_isSignOf_9 : decode cX11_isSignOf 9 = .ok (.if_icmp .eq 39, 3) := by decide +kernel
theorem dX11_isSignOf_12 : decode cX11_isSignOf 12 = .ok (.iload_n 0, 1) := by decide +kernel
theorem dX11_isSignOf_13 : decode cX11_isSignOf 13 = .ok (.bipush 59, 2) := by decide +kernel
theorem dX11_isSignOf_15 : decode cX11_isSignOf 15 = .ok (.if_icmp .eq 33, 3) := by decide +kernel
theorem dX11_isSignOf_18 : decode cX11_isSignOf 18 = .ok (.iload_n 0, 1) := by decide +kernel
theorem dX11_isSignOf_19 : decode cX11_isSignOf 19 = .ok (.bipush 61, 2) := by decide +kernel
theorem dX11_isSignOf_21 : decode cX11_isSignOf 21 = .ok (.if_icmp .eq 27, 3) := by decide +kernel
theorem dX11_isSignOf_24 : decode cX11_isSignOf 24 = .ok (.iload_n 0, 1) := by decide +kernel
theorem dX11_isSignOf_25 : decode cX11_isSignOf 25 = .ok (.bipush 60, 2) := by decide +kernel
theorem dX11_isSignOf_27 : decode cX11_isSignOf 27 = .ok (.if_icmp .eq 21, 3) := by decide +kernel
theorem dX11_isSignOf_30 : decode cX11_isSignOf 30 = .ok (.iload_n 0, 1) := by decide +kernel
theorem dX11_isSignOf_31 : decode cX11_isSignOf 31 = .ok (.bipush 43, 2) := by decide +kernel
theorem dX11_isSignOf_33 : decode cX11_isSignOf 33 = .ok (.if_icmp .eq 15, 3) := by decide +kernel
theorem dX11_isSignOf_36 : decode cX11_isSignOf 36 = .ok (.iload_n 0, 1) := by decide +kernel
theorem dX11_isSignOf_37 : decode cX11_isSignOf 37 = .ok (.bipush 45, 2) := by decide +kernel
theorem dX11_isSignOf_39 : decode cX11_isSignOf 39 = .ok (.if_icmp .eq 9, 3) := by decide +kernel
theorem dX11_isSignOf_42 : decode cX11_isSignOf 42 = .ok (.iload_n 0, 1) := by decide +kernel
theorem dX11_isSignOf_43 : decode cX11_isSignOf 43 = .ok (.bipush 42, 2) := by decide +kernel
theorem dX11_isSignOf_45 : decode cX11_isSignOf 45 = .ok (.if_icmp .ne 7, 3) := by decide +kernel
theorem dX11_isSignOf_48 : decode cX11_isSignOf 48 = .ok (.iconst 1, 1) := by decide +kernel
theorem dX11_isSignOf_49 : decode cX11_isSignOf 49 = .ok (.goto 4, 3) := by decide +kernel
theorem dX11_isSignOf_52 : decode cX11_isSignOf 52 = .ok (.iconst 0, 1) := by decide +kernel
theorem dX11_isSignOf_53 : decode cX11_isSignOf 53 = .ok (.ireturn, 1) := by decide +kernel
theorem dX11_cutAll_0 : decode cX11_cutAll 0 = .ok (.aload_n 0, 1) := by decide +kernel
theorem dX11_cutAll_1 : decode cX11_cutAll 1 = .ok (.aload_n 0, 1) := by decide +kernel
theorem dX11_cutAll_2 : decode cX11_cutAll 2 = .ok (.getfield 11, 3) := by decide +kernel
theorem dX11_cutAll_5 : decode cX11_cutAll 5 = .ok (.putfield 122, 3) := by decide +kernel
theorem dX11_cutAll_8 : decode cX11_cutAll 8 = .ok (.aload_n 0, 1) := by decide +kernel
theorem dX11_cutAll_9 : decode cX11_cutAll 9 = .ok (.iconst 0, 1) := by decide +kernel
theorem dX11_cutAll_10 : decode cX11_cutAll 10 = .ok (.putfield 11, 3) := by decide +kernel
theorem dX11_cutAll_13 : decode cX11_cutAll 13 = .ok (.iconst 0, 1) := by decide +kernel
theorem dX11_cutAll_14 : decode cX11_cutAll 14 = .ok (.istore_n 1, 1) := by decide +kernel
theorem dX11_cutAll_15 : decode cX11_cutAll 15 = .ok (.iconst 0, 1) := by decide +kernel
theorem dX11_cutAll_16 : decode cX11_cutAll 16 = .ok (.istore_n 2, 1) := by decide +kernel
theorem dX11_cutAll_17 : decode cX11_cutAll 17 = .ok (.iload_n 2, 1) := by decide +kernel
theorem dX11_cutAll_18 : decode cX11_cutAll 18 = .ok (.aload_n 0, 1) := by decide +kernel
theorem dX11_cutAll_19 : decode cX11_cutAll 19 = .ok (.getfield 122, 3) := by decide +kernel
theorem dX11_cutAll_22 : decode cX11_cutAll 22 = .ok (.if_icmp .ge 257, 3) := by decide +kernel
theorem dX11_cutAll_25 : decode cX11_cutAll 25 = .ok (.aload_n 0, 1) := by decide +kernel
theorem dX11_cutAll_26 : decode cX11_cutAll 26 = .ok (.getfield 14, 3) := by decide +kernel
theorem dX11_cutAll_29 : decode cX11_cutAll 29 = .ok (.iload_n 2, 1) := by decide +kernel
theorem dX11_cutAll_30 : decode cX11_cutAll 30 = .ok (.iaload, 1) := by decide +kernel
theorem dX11_cutAll_31 : decode cX11_cutAll 31 = .ok (.istore_n 3, 1) := by decide +kernel
theorem dX11_cutAll_32 : decode cX11_cutAll 32 = .ok (.iload_n 3, 1) := by decide +kernel
theorem dX11_cutAll_33 : decode cX11_cutAll 33 = .ok (.bipush 10, 2) := by decide +kernel
theorem dX11_cutAll_35 : decode cX11_cutAll 35 = .ok (.if_icmp .eq 9, 3) := by decide +kernel
theorem dX11_cutAll_38 : decode cX11_cutAll 38 = .ok (.iload_n 3, 1) := by decide +kernel
theorem dX11_cutAll_39 : decode cX11_cutAll 39 = .ok (.bipush 32, 2) := by decide +kernel
theorem dX11_cutAll_41 : decode cX11_cutAll 41 = .ok (.if_icmp .ne 9, 3) := by decide +kernel
theorem dX11_cutAll_44 : decode cX11_cutAll 44 = .ok (.iinc 2 1, 3) := by decide +kernel
theorem dX11_cutAll_47 : decode cX11_cutAll 47 = .ok (.goto (-30), 3) := by decide +kernel
theorem dX11_cutAll_50 : decode cX11_cutAll 50 = .ok (.iload_n 2, 1) := by decide +kernel
theorem dX11_cutAll_51 : decode cX11_cutAll 51 = .ok (.istore 4, 2) := by decide +kernel
theorem dX11_cutAll_53 : decode cX11_cutAll 53 = .ok (.lconst 0, 1) := by decide +kernel
theorem dX11_cutAll_54 : decode cX11_cutAll 54 = .ok (.lstore 5, 2) := by decide +kernel
theorem dX11_cutAll_56 : decode cX11_cutAll 56 = .ok (.aload_n 0, 1) := by decide +kernel
theorem dX11_cutAll_57 : decode cX11_cutAll 57 = .ok (.getfield 27, 3) := by decide +kernel
theorem dX11_cutAll_60 : decode cX11_cutAll 60 = .ok (.iload_n 1, 1) := by decide +kernel
theorem dX11_cutAll_61 : decode cX11_cutAll 61 = .ok (.iload_n 2, 1) := by decide +kernel
theorem dX11_cutAll_62 : decode cX11_cutAll 62 = .ok (.iastore, 1) := by decide +kernel
theorem dX11_cutAll_63 : decode cX11_cutAll 63 = .ok (.iload_n 3, 1) := by decide +kernel
theorem dX11_cutAll_64 : decode cX11_cutAll 64 = .ok (.invokestatic 118, 3) := by decide +kernel
theorem dX11_cutAll_67 : decode cX11_cutAll 67 = .ok (.ifCond .eq 85, 3) := by decide +kernel
theorem dX11_cutAll_70 : decode cX11_cutAll 70 = .ok (.iload_n 2, 1) := by decide +kernel
theorem dX11_cutAll_71 : decode cX11_cutAll 71 = .ok (.aload_n 0, 1) := by decide +kernel
theorem dX11_cutAll_72 : decode cX11_cutAll 72 = .ok (.getfield 122, 3) := by decide +kernel
theorem dX11_cutAll_75 : decode cX11_cutAll 75 = .ok (.if_icmp .ge 54, 3) := by decide +kernel
theorem dX11_cutAll_78 : decode cX11_cutAll 78 = .ok (.aload_n 0, 1) := by decide +kernel
theorem dX11_cutAll_79 : decode cX11_cutAll 79 = .ok (.getfield 14, 3) := by decide +kernel
theorem dX11_cutAll_82 : decode cX11_cutAll 82 = .ok (.iload_n 2, 1) := by decide +kernel
theorem dX11_cutAll_83 : decode cX11_cutAll 83 = .ok (.iaload, 1) := by decide +kernel
theorem dX11_cutAll_84 : decode cX11_cutAll 84 = .ok (.invokestatic 118, 3) := by decide +kernel
theorem dX11_cutAll_87 : decode cX11_cutAll 87 = .ok (.ifCond .eq 42, 3) := by decide +kernel
theorem dX11_cutAll_90 : decode cX11_cutAll 90 = .ok (.iload_n 2, 1) := by decide +kernel
theorem dX11_cutAll_91 : decode cX11_cutAll 91 = .ok (.iload 4, 2) := by decide +kernel
theorem dX11_cutAll_93 : decode cX11_cutAll 93 = .ok (.isub, 1) := by decide +kernel
theorem dX11_cutAll_94 : decode cX11_cutAll 94 = .ok (.bipush 8, 2) := by decide +kernel
theorem dX11_cutAll_96 : decode cX11_cutAll 96 = .ok (.if_icmp .ge 23, 3) := by decide +kernel
theorem dX11_cutAll_99 : decode cX11_cutAll 99 = .ok (.ldc2_w 125, 3) := by decide +kernel
theorem dX11_cutAll_102 : decode cX11_cutAll 102 = .ok (.lload 5, 2) := by decide +kernel
theorem dX11_cutAll_104 : decode cX11_cutAll 104 = .ok (.lmul, 1) := by decide +kernel
theorem dX11_cutAll_105 : decode cX11_cutAll 105 = .ok (.aload_n 0, 1) := by decide +kernel
theorem dX11_cutAll_106 : decode cX11_cutAll 106 = .ok (.getfield 14, 3) := by decide +kernel
theorem dX11_cutAll_109 : decode cX11_cutAll 109 = .ok (.iload_n 2, 1) := by decide +kernel
theorem dX11_cutAll_110 : decode cX11_cutAll 110 = .ok (.iaload, 1) := by decide +kernel
theorem dX11_cutAll_111 : decode cX11_cutAll 111 = .ok (.invokestatic 127, 3) := by decide +kernel
theorem dX11_cutAll_114 : decode cX11_cutAll 114 = .ok (.i2l, 1) := by decide +kernel
theorem dX11_cutAll_115 : decode cX11_cutAll 115 = .ok (.ladd, 1) := by decide +kernel
theorem dX11_cutAll_116 : decode cX11_cutAll 116 = .ok (.goto 5, 3) := by decide +kernel
theorem dX11_cutAll_119 : decode cX11_cutAll 119 = .ok (.lload 5, 2) := by decide +kernel
theorem dX11_cutAll_121 : decode cX11_cutAll 121 = .ok (.lstore 5, 2) := by decide +kernel
theorem dX11_cutAll_123 : decode cX11_cutAll 123 = .ok (.iinc 2 1, 3) := by decide +kernel
theorem dX11_cutAll_126 : decode cX11_cutAll 126 = .ok (.goto (-56), 3) := by decide +kernel
theorem dX11_cutAll_129 : decode cX11_cutAll 129 = .ok (.aload_n 0, 1) := by decide +kernel
theorem dX11_cutAll_130 : decode cX11_cutAll 130 = .ok (.getfield 24, 3) := by decide +kernel
theorem dX11_cutAll_133 : decode cX11_cutAll 133 = .ok (.iload_n 1, 1) := by decide +kernel
theorem dX11_cutAll_134 : decode cX11_cutAll 134 = .ok (.iload_n 2, 1) := by decide +kernel
theorem dX11_cutAll_135 : decode cX11_cutAll 135 = .ok (.iload 4, 2) := by decide +kernel
theorem dX11_cutAll_137 : decode cX11_cutAll 137 = .ok (.isub, 1) := by decide +kernel
theorem dX11_cutAll_138 : decode cX11_cutAll 138 = .ok (.bipush 8, 2) := by decide +kernel
theorem dX11_cutAll_140 : decode cX11_cutAll 140 = .ok (.if_icmp .le 7, 3) := by decide +kernel
theorem dX11_cutAll_143 : decode cX11_cutAll 143 = .ok (.iconst 4, 1) := by decide +kernel
theorem dX11_cutAll_144 : decode cX11_cutAll 144 = .ok (.goto 4, 3) := by decide +kernel
theorem dX11_cutAll_147 : decode cX11_cutAll 147 = .ok (.iconst 1, 1) := by decide +kernel
theorem dX11_cutAll_148 : decode cX11_cutAll 148 = .ok (.iastore, 1) := by decide +kernel
theorem dX11_cutAll_149 : decode cX11_cutAll 149 = .ok (.goto 116, 3) := by decide +kernel
theorem dX11_cutAll_152 : decode cX11_cutAll 152 = .ok (.iload_n 3, 1) := by decide +kernel
theorem dX11_cutAll_153 : decode cX11_cutAll 153 = .ok (.invokestatic 131, 3) := by decide +kernel
theorem dX11_cutAll_156 : decode cX11_cutAll 156 = .ok (.ifCond .eq 84, 3) := by decide +kernel
theorem dX11_cutAll_159 : decode cX11_cutAll 159 = .ok (.iload_n 2, 1) := by decide +kernel
theorem dX11_cutAll_160 : decode cX11_cutAll 160 = .ok (.aload_n 0, 1) := by decide +kernel
theorem dX11_cutAll_161 : decode cX11_cutAll 161 = .ok (.getfield 122, 3) := by decide +kernel
theorem dX11_cutAll_164 : decode cX11_cutAll 164 = .ok (.if_icmp .ge 54, 3) := by decide +kernel
theorem dX11_cutAll_167 : decode cX11_cutAll 167 = .ok (.aload_n 0, 1) := by decide +kernel
theorem dX11_cutAll_168 : decode cX11_cutAll 168 = .ok (.getfield 14, 3) := by decide +kernel
theorem dX11_cutAll_171 : decode cX11_cutAll 171 = .ok (.iload_n 2, 1) := by decide +kernel
theorem dX11_cutAll_172 : decode cX11_cutAll 172 = .ok (.iaload, 1) := by decide +kernel
theorem dX11_cutAll_173 : decode cX11_cutAll 173 = .ok (.invokestatic 131, 3) := by decide +kernel
theorem dX11_cutAll_176 : decode cX11_cutAll 176 = .ok (.ifCond .eq 42, 3) := by decide +kernel
theorem dX11_cutAll_179 : decode cX11_cutAll 179 = .ok (.iload_n 2, 1) := by decide +kernel
theorem dX11_cutAll_180 : decode cX11_cutAll 180 = .ok (.iload 4, 2) := by decide +kernel
theorem dX11_cutAll_182 : decode cX11_cutAll 182 = .ok (.isub, 1) := by decide +kernel
theorem dX11_cutAll_183 : decode cX11_cutAll 183 = .ok (.iconst 4, 1) := by decide +kernel
theorem dX11_cutAll_184 : decode cX11_cutAll 184 = .ok (.if_icmp .ge 24, 3) := by decide +kernel
theorem dX11_cutAll_187 : decode cX11_cutAll 187 = .ok (.ldc2_w 134, 3) := by decide +kernel
theorem dX11_cutAll_190 : decode cX11_cutAll 190 = .ok (.lload 5, 2) := by decide +kernel
theorem dX11_cutAll_192 : decode cX11_cutAll 192 = .ok (.lmul, 1) := by decide +kernel
theorem dX11_cutAll_193 : decode cX11_cutAll 193 = .ok (.aload_n 0, 1) := by decide +kernel
theorem dX11_cutAll_194 : decode cX11_cutAll 194 = .ok (.getfield 14, 3) := by decide +kernel
theorem dX11_cutAll_197 : decode cX11_cutAll 197 = .ok (.iload_n 2, 1) := by decide +kernel
theorem dX11_cutAll_198 : decode cX11_cutAll 198 = .ok (.iaload, 1) := by decide +kernel
theorem dX11_cutAll_199 : decode cX11_cutAll 199 = .ok (.i2l, 1) := by decide +kernel
theorem dX11_cutAll_200 : decode cX11_cutAll 200 = .ok (.ladd, 1) := by decide +kernel
theorem dX11_cutAll_201 : decode cX11_cutAll 201 = .ok (.ldc2_w 136, 3) := by decide +kernel
theorem dX11_cutAll_204 : decode cX11_cutAll 204 = .ok (.lsub, 1) := by decide +kernel
theorem dX11_cutAll_205 : decode cX11_cutAll 205 = .ok (.goto 5, 3) := by decide +kernel
theorem dX11_cutAll_208 : decode cX11_cutAll 208 = .ok (.lload 5, 2) := by decide +kernel
theorem dX11_cutAll_210 : decode cX11_cutAll 210 = .ok (.lstore 5, 2) := by decide +kernel
theorem dX11_cutAll_212 : decode cX11_cutAll 212 = .ok (.iinc 2 1, 3) := by decide +kernel
theorem dX11_cutAll_215 : decode cX11_cutAll 215 = .ok (.goto (-56), 3) := by decide +kernel
theorem dX11_cutAll_218 : decode cX11_cutAll 218 = .ok (.aload_n 0, 1) := by decide +kernel
theorem dX11_cutAll_219 : decode cX11_cutAll 219 = .ok (.getfield 24, 3) := by decide +kernel
theorem dX11_cutAll_222 : decode cX11_cutAll 222 = .ok (.iload_n 1, 1) := by decide +kernel
theorem dX11_cutAll_223 : decode cX11_cutAll 223 = .ok (.iload_n 2, 1) := by decide +kernel
theorem dX11_cutAll_224 : decode cX11_cutAll 224 = .ok (.iload 4, 2) := by decide +kernel
theorem dX11_cutAll_226 : decode cX11_cutAll 226 = .ok (.isub, 1) := by decide +kernel
theorem dX11_cutAll_227 : decode cX11_cutAll 227 = .ok (.iconst 4, 1) := by decide +kernel
theorem dX11_cutAll_228 : decode cX11_cutAll 228 = .ok (.if_icmp .le 7, 3) := by decide +kernel
theorem dX11_cutAll_231 : decode cX11_cutAll 231 = .ok (.iconst 4, 1) := by decide +kernel
theorem dX11_cutAll_232 : decode cX11_cutAll 232 = .ok (.goto 4, 3) := by decide +kernel
theorem dX11_cutAll_235 : decode cX11_cutAll 235 = .ok (.iconst 2, 1) := by decide +kernel
theorem dX11_cutAll_236 : decode cX11_cutAll 236 = .ok (.iastore, 1) := by decide +kernel
theorem dX11_cutAll_237 : decode cX11_cutAll 237 = .ok (.goto 28, 3) := by decide +kernel
theorem dX11_cutAll_240 : decode cX11_cutAll 240 = .ok (.iload_n 3, 1) := by decide +kernel
theorem dX11_cutAll_241 : decode cX11_cutAll 241 = .ok (.i2l, 1) := by decide +kernel
theorem dX11_cutAll_242 : decode cX11_cutAll 242 = .ok (.lstore 5, 2) := by decide +kernel
theorem dX11_cutAll_244 : decode cX11_cutAll 244 = .ok (.aload_n 0, 1) := by decide +kernel
theorem dX11_cutAll_245 : decode cX11_cutAll 245 = .ok (.getfield 24, 3) := by decide +kernel
theorem dX11_cutAll_248 : decode cX11_cutAll 248 = .ok (.iload_n 1, 1) := by decide +kernel
theorem dX11_cutAll_249 : decode cX11_cutAll 249 = .ok (.iload_n 3, 1) := by decide +kernel
theorem dX11_cutAll_250 : decode cX11_cutAll 250 = .ok (.invokestatic 138, 3) := by decide +kernel
theorem dX11_cutAll_253 : decode cX11_cutAll 253 = .ok (.ifCond .eq 7, 3) := by decide +kernel
theorem dX11_cutAll_256 : decode cX11_cutAll 256 = .ok (.iconst 3, 1) := by decide +kernel
theorem dX11_cutAll_257 : decode cX11_cutAll 257 = .ok (.goto 4, 3) := by decide +kernel
theorem dX11_cutAll_260 : decode cX11_cutAll 260 = .ok (.iconst 4, 1) := by decide +kernel
theorem dX11_cutAll_261 : decode cX11_cutAll 261 = .ok (.iastore, 1) := by decide +kernel
theorem dX11_cutAll_262 : decode cX11_cutAll 262 = .ok (.iinc 2 1, 3) := by decide +kernel
theorem dX11_cutAll_265 : decode cX11_cutAll 265 = .ok (.aload_n 0, 1) := by decide +kernel
theorem dX11_cutAll_266 : decode cX11_cutAll 266 = .ok (.getfield 30, 3) := by decide +kernel
theorem dX11_cutAll_269 : decode cX11_cutAll 269 = .ok (.iload_n 1, 1) := by decide +kernel
theorem dX11_cutAll_270 : decode cX11_cutAll 270 = .ok (.lload 5, 2) := by decide +kernel
theorem dX11_cutAll_272 : decode cX11_cutAll 272 = .ok (.lastore, 1) := by decide +kernel
theorem dX11_cutAll_273 : decode cX11_cutAll 273 = .ok (.iinc 1 1, 3) := by decide +kernel
theorem dX11_cutAll_276 : decode cX11_cutAll 276 = .ok (.goto (-259), 3) := by decide +kernel
theorem dX11_cutAll_279 : decode cX11_cutAll 279 = .ok (.aload_n 0, 1) := by decide +kernel
theorem dX11_cutAll_280 : decode cX11_cutAll 280 = .ok (.getfield 24, 3) := by decide +kernel
theorem dX11_cutAll_283 : decode cX11_cutAll 283 = .ok (.iload_n 1, 1) := by decide +kernel
theorem dX11_cutAll_284 : decode cX11_cutAll 284 = .ok (.iconst 0, 1) := by decide +kernel
theorem dX11_cutAll_285 : decode cX11_cutAll 285 = .ok (.iastore, 1) := by decide +kernel
theorem dX11_cutAll_286 : decode cX11_cutAll 286 = .ok (.aload_n 0, 1) := by decide +kernel
theorem dX11_cutAll_287 : decode cX11_cutAll 287 = .ok (.getfield 27, 3) := by decide +kernel
theorem dX11_cutAll_290 : decode cX11_cutAll 290 = .ok (.iload_n 1, 1) := by decide +kernel
theorem dX11_cutAll_291 : decode cX11_cutAll 291 = .ok (.aload_n 0, 1) := by decide +kernel
theorem dX11_cutAll_292 : decode cX11_cutAll 292 = .ok (.getfield 122, 3) := by decide +kernel
theorem dX11_cutAll_295 : decode cX11_cutAll 295 = .ok (.iastore, 1) := by decide +kernel
theorem dX11_cutAll_296 : decode cX11_cutAll 296 = .ok (.aload_n 0, 1) := by decide +kernel
theorem dX11_cutAll_297 : decode cX11_cutAll 297 = .ok (.iconst 0, 1) := by decide +kernel
theorem dX11_cutAll_298 : decode cX11_cutAll 298 = .ok (.putfield 141, 3) := by decide +kernel
theorem dX11_cutAll_301 : decode cX11_cutAll 301 = .ok (.aload_n 0, 1) := by decide +kernel
theorem dX11_cutAll_302 : decode cX11_cutAll 302 = .ok (.iconst 0, 1) := by decide +kernel
theorem dX11_cutAll_303 : decode cX11_cutAll 303 = .ok (.putfield 144, 3) := by decide +kernel
theorem dX11_cutAll_306 : decode cX11_cutAll 306 = .ok (.return_, 1) := by decide +kernel
theorem dX11_wrong_0 : decode cX11_wrong 0 = .ok (.aload_n 0, 1) := by decide +kernel
theorem dX11_wrong_1 : decode cX11_wrong 1 = .ok (.getfield 144, 3) := by decide +kernel
theorem dX11_wrong_4 : decode cX11_wrong 4 = .ok (.ifCond .ne 21, 3) := by decide +kernel
theorem dX11_wrong_7 : decode cX11_wrong 7 = .ok (.aload_n 0, 1) := by decide +kernel
theorem dX11_wrong_8 : decode cX11_wrong 8 = .ok (.iload_n 1, 1) := by decide +kernel
theorem dX11_wrong_9 : decode cX11_wrong 9 = .ok (.bipush 16, 2) := by decide +kernel
theorem dX11_wrong_11 : decode cX11_wrong 11 = .ok (.aload_n 0, 1) := by decide +kernel
theorem dX11_wrong_12 : decode cX11_wrong 12 = .ok (.getfield 27, 3) := by decide +kernel
theorem dX11_wrong_15 : decode cX11_wrong 15 = .ok (.aload_n 0, 1) := by decide +kernel
theorem dX11_wrong_16 : decode cX11_wrong 16 = .ok (.getfield 141, 3) := by decide +kernel
theorem dX11_wrong_19 : decode cX11_wrong 19 = .ok (.iaload, 1) := by decide +kernel
theorem dX11_wrong_20 : decode cX11_wrong 20 = .ok (.imul, 1) := by decide +kernel
theorem dX11_wrong_21 : decode cX11_wrong 21 = .ok (.iadd, 1) := by decide +kernel
theorem dX11_wrong_22 : decode cX11_wrong 22 = .ok (.putfield 144, 3) := by decide +kernel
theorem dX11_wrong_25 : decode cX11_wrong 25 = .ok (.return_, 1) := by decide +kernel
theorem dX11_isSign_0 : decode cX11_isSign 0 = .ok (.aload_n 0, 1) := by decide +kernel
theorem dX11_isSign_1 : decode cX11_isSign 1 = .ok (.getfield 144, 3) := by decide +kernel
theorem dX11_isSign_4 : decode cX11_isSign 4 = .ok (.ifCond .ne 35, 3) := by decide +kernel
theorem dX11_isSign_7 : decode cX11_isSign 7 = .ok (.aload_n 0, 1) := by decide +kernel
theorem dX11_isSign_8 : decode cX11_isSign 8 = .ok (.getfield 24, 3) := by decide +kernel
theorem dX11_isSign_11 : decode cX11_isSign 11 = .ok (.aload_n 0, 1) := by decide +kernel
theorem dX11_isSign_12 : decode cX11_isSign 12 = .ok (.getfield 141, 3) := by decide +kernel
theorem dX11_isSign_15 : decode cX11_isSign 15 = .ok (.iaload, 1) := by decide +kernel
theorem dX11_isSign_16 : decode cX11_isSign 16 = .ok (.iconst 3, 1) := by decide +kernel
theorem dX11_isSign_17 : decode cX11_isSign 17 = .ok (.if_icmp .ne 22, 3) := by decide +kernel
theorem dX11_isSign_20 : decode cX11_isSign 20 = .ok (.aload_n 0, 1) := by decide +kernel
theorem dX11_isSign_21 : decode cX11_isSign 21 = .ok (.getfield 30, 3) := by decide +kernel
theorem dX11_isSign_24 : decode cX11_isSign 24 = .ok (.aload_n 0, 1) := by decide +kernel
theorem dX11_isSign_25 : decode cX11_isSign 25 = .ok (.getfield 141, 3) := by decide +kernel
theorem dX11_isSign_28 : decode cX11_isSign 28 = .ok (.laload, 1) := by decide +kernel
theorem dX11_isSign_29 : decode cX11_isSign 29 = .ok (.iload_n 1, 1) := by decide +kernel
theorem dX11_isSign_30 : decode cX11_isSign 30 = .ok (.i2l, 1) := by decide +kernel
theorem dX11_isSign_31 : decode cX11_isSign 31 = .ok (.lcmp, 1) := by decide +kernel
theorem dX11_isSign_32 : decode cX11_isSign 32 = .ok (.ifCond .ne 7, 3) := by decide +kernel
theorem dX11_isSign_35 : decode cX11_isSign 35 = .ok (.iconst 1, 1) := by decide +kernel
theorem dX11_isSign_36 : decode cX11_isSign 36 = .ok (.goto 4, 3) := by decide +kernel
theorem dX11_isSign_39 : decode cX11_isSign 39 = .ok (.iconst 0, 1) := by decide +kernel
theorem dX11_isSign_40 : decode cX11_isSign 40 = .ok (.ireturn, 1) := by decide +kernel
theorem dX11_isWord_0 : decode cX11_isWord 0 = .ok (.aload_n 0, 1) := by decide +kernel
theorem dX11_isWord_1 : decode cX11_isWord 1 = .ok (.getfield 144, 3) := by decide +kernel
theorem dX11_isWord_4 : decode cX11_isWord 4 = .ok (.ifCond .ne 39, 3) := by decide +kernel
theorem dX11_isWord_7 : decode cX11_isWord 7 = .ok (.aload_n 0, 1) := by decide +kernel
theorem dX11_isWord_8 : decode cX11_isWord 8 = .ok (.getfield 24, 3) := by decide +kernel
theorem dX11_isWord_11 : decode cX11_isWord 11 = .ok (.aload_n 0, 1) := by decide +kernel
theorem dX11_isWord_12 : decode cX11_isWord 12 = .ok (.getfield 141, 3) := by decide +kernel
theorem dX11_isWord_15 : decode cX11_isWord 15 = .ok (.iaload, 1) := by decide +kernel
theorem dX11_isWord_16 : decode cX11_isWord 16 = .ok (.iconst 1, 1) := by decide +kernel
theorem dX11_isWord_17 : decode cX11_isWord 17 = .ok (.if_icmp .ne 26, 3) := by decide +kernel
theorem dX11_isWord_20 : decode cX11_isWord 20 = .ok (.aload_n 0, 1) := by decide +kernel
theorem dX11_isWord_21 : decode cX11_isWord 21 = .ok (.getfield 30, 3) := by decide +kernel
theorem dX11_isWord_24 : decode cX11_isWord 24 = .ok (.aload_n 0, 1) := by decide +kernel
theorem dX11_isWord_25 : decode cX11_isWord 25 = .ok (.getfield 141, 3) := by decide +kernel
theorem dX11_isWord_28 : decode cX11_isWord 28 = .ok (.laload, 1) := by decide +kernel
theorem dX11_isWord_29 : decode cX11_isWord 29 = .ok (.aload_n 0, 1) := by decide +kernel
theorem dX11_isWord_30 : decode cX11_isWord 30 = .ok (.getfield 66, 3) := by decide +kernel
theorem dX11_isWord_33 : decode cX11_isWord 33 = .ok (.iload_n 1, 1) := by decide +kernel
theorem dX11_isWord_34 : decode cX11_isWord 34 = .ok (.laload, 1) := by decide +kernel
theorem dX11_isWord_35 : decode cX11_isWord 35 = .ok (.lcmp, 1) := by decide +kernel
theorem dX11_isWord_36 : decode cX11_isWord 36 = .ok (.ifCond .ne 7, 3) := by decide +kernel
theorem dX11_isWord_39 : decode cX11_isWord 39 = .ok (.iconst 1, 1) := by decide +kernel
theorem dX11_isWord_40 : decode cX11_isWord 40 = .ok (.goto 4, 3) := by decide +kernel
theorem dX11_isWord_43 : decode cX11_isWord 43 = .ok (.iconst 0, 1) := by decide +kernel
theorem dX11_isWord_44 : decode cX11_isWord 44 = .ok (.ireturn, 1) := by decide +kernel
theorem dX11_takeSign_0 : decode cX11_takeSign 0 = .ok (.aload_n 0, 1) := by decide +kernel
theorem dX11_takeSign_1 : decode cX11_takeSign 1 = .ok (.iload_n 1, 1) := by decide +kernel
theorem dX11_takeSign_2 : decode cX11_takeSign 2 = .ok (.invokevirtual 147, 3) := by decide +kernel
theorem dX11_takeSign_5 : decode cX11_takeSign 5 = .ok (.ifCond .eq 16, 3) := by decide +kernel
theorem dX11_takeSign_8 : decode cX11_takeSign 8 = .ok (.aload_n 0, 1) := by decide +kernel
theorem dX11_takeSign_9 : decode cX11_takeSign 9 = .ok (.dup, 1) := by decide +kernel
theorem dX11_takeSign_10 : decode cX11_takeSign 10 = .ok (.getfield 141, 3) := by decide +kernel
theorem dX11_takeSign_13 : decode cX11_takeSign 13 = .ok (.iconst 1, 1) := by decide +kernel
theorem dX11_takeSign_14 : decode cX11_takeSign 14 = .ok (.iadd, 1) := by decide +kernel
theorem dX11_takeSign_15 : decode cX11_takeSign 15 = .ok (.putfield 141, 3) := by decide +kernel
theorem dX11_takeSign_18 : decode cX11_takeSign 18 = .ok (.goto 8, 3) := by decide +kernel
theorem dX11_takeSign_21 : decode cX11_takeSign 21 = .ok (.aload_n 0, 1) := by decide +kernel
theorem dX11_takeSign_22 : decode cX11_takeSign 22 = .ok (.iconst 1, 1) := by decide +kernel
theorem dX11_takeSign_23 : decode cX11_takeSign 23 = .ok (.invokevirtual 150, 3) := by decide +kernel
theorem dX11_takeSign_26 : decode cX11_takeSign 26 = .ok (.return_, 1) := by decide +kernel
theorem dX11_hasSign_0 : decode cX11_hasSign 0 = .ok (.aload_n 0, 1) := by decide +kernel
theorem dX11_hasSign_1 : decode cX11_hasSign 1 = .ok (.iload_n 1, 1) := by decide +kernel
theorem dX11_hasSign_2 : decode cX11_hasSign 2 = .ok (.invokevirtual 147, 3) := by decide +kernel
theorem dX11_hasSign_5 : decode cX11_hasSign 5 = .ok (.istore_n 2, 1) := by decide +kernel
theorem dX11_hasSign_6 : decode cX11_hasSign 6 = .ok (.aload_n 0, 1) := by decide +kernel
theorem dX11_hasSign_7 : decode cX11_hasSign 7 = .ok (.dup, 1) := by decide +kernel
theorem dX11_hasSign_8 : decode cX11_hasSign 8 = .ok (.getfield 141, 3) := by decide +kernel
theorem dX11_hasSign_11 : decode cX11_hasSign 11 = .ok (.iload_n 2, 1) := by decide +kernel
theorem dX11_hasSign_12 : decode cX11_hasSign 12 = .ok (.ifCond .eq 7, 3) := by decide +kernel
theorem dX11_hasSign_15 : decode cX11_hasSign 15 = .ok (.iconst 1, 1) := by decide +kernel
theorem dX11_hasSign_16 : decode cX11_hasSign 16 = .ok (.goto 4, 3) := by decide +kernel
theorem dX11_hasSign_19 : decode cX11_hasSign 19 = .ok (.iconst 0, 1) := by decide +kernel
theorem dX11_hasSign_20 : decode cX11_hasSign 20 = .ok (.iadd, 1) := by decide +kernel
theorem dX11_hasSign_21 : decode cX11_hasSign 21 = .ok (.putfield 141, 3) := by decide +kernel
theorem dX11_hasSign_24 : decode cX11_hasSign 24 = .ok (.iload_n 2, 1) := by decide +kernel
theorem dX11_hasSign_25 : decode cX11_hasSign 25 = .ok (.ireturn, 1) := by decide +kernel
theorem dX11_hasWord_0 : decode cX11_hasWord 0 = .ok (.aload_n 0, 1) := by decide +kernel
theorem dX11_hasWord_1 : decode cX11_hasWord 1 = .ok (.iload_n 1, 1) := by decide +kernel
theorem dX11_hasWord_2 : decode cX11_hasWord 2 = .ok (.invokevirtual 154, 3) := by decide +kernel
theorem dX11_hasWord_5 : decode cX11_hasWord 5 = .ok (.istore_n 2, 1) := by decide +kernel
theorem dX11_hasWord_6 : decode cX11_hasWord 6 = .ok (.aload_n 0, 1) := by decide +kernel
theorem dX11_hasWord_7 : decode cX11_hasWord 7 = .ok (.dup, 1) := by decide +kernel
theorem dX11_hasWord_8 : decode cX11_hasWord 8 = .ok (.getfield 141, 3) := by decide +kernel
theorem dX11_hasWord_11 : decode cX11_hasWord 11 = .ok (.iload_n 2, 1) := by decide +kernel
theorem dX11_hasWord_12 : decode cX11_hasWord 12 = .ok (.ifCond .eq 7, 3) := by decide +kernel
theorem dX11_hasWord_15 : decode cX11_hasWord 15 = .ok (.iconst 1, 1) := by decide +kernel
theorem dX11_hasWord_16 : decode cX11_hasWord 16 = .ok (.goto 4, 3) := by decide +kernel
theorem dX11_hasWord_19 : decode cX11_hasWord 19 = .ok (.iconst 0, 1) := by decide +kernel
theorem dX11_hasWord_20 : decode cX11_hasWord 20 = .ok (.iadd, 1) := by decide +kernel
theorem dX11_hasWord_21 : decode cX11_hasWord 21 = .ok (.putfield 141, 3) := by decide +kernel
theorem dX11_hasWord_24 : decode cX11_hasWord 24 = .ok (.iload_n 2, 1) := by decide +kernel
theorem dX11_hasWord_25 : decode cX11_hasWord 25 = .ok (.ireturn, 1) := by decide +kernel
theorem dX11_takeWord_0 : decode cX11_takeWord 0 = .ok (.aload_n 0, 1) := by decide +kernel
theorem dX11_takeWord_1 : decode cX11_takeWord 1 = .ok (.iload_n 1, 1) := by decide +kernel
theorem dX11_takeWord_2 : decode cX11_takeWord 2 = .ok (.invokevirtual 157, 3) := by decide +kernel
theorem dX11_takeWord_5 : decode cX11_takeWord 5 = .ok (.ifCond .ne 8, 3) := by decide +kernel
theorem dX11_takeWord_8 : decode cX11_takeWord 8 = .ok (.aload_n 0, 1) := by decide +kernel
theorem dX11_takeWord_9 : decode cX11_takeWord 9 = .ok (.iconst 1, 1) := by decide +kernel
theorem dX11_takeWord_10 : decode cX11_takeWord 10 = .ok (.invokevirtual 150, 3) := by decide +kernel
theorem dX11_takeWord_13 : decode cX11_takeWord 13 = .ok (.return_, 1) := by decide +kernel
theorem dX11_within_0 : decode cX11_within 0 = .ok (.iload_n 0, 1) := by decide +kernel
theorem dX11_within_1 : decode cX11_within 1 = .ok (.iload_n 1, 1) := by decide +kernel
theorem dX11_within_2 : decode cX11_within 2 = .ok (.if_icmp .lt 12, 3) := by decide +kernel
theorem dX11_within_5 : decode cX11_within 5 = .ok (.iload_n 0, 1) := by decide +kernel
theorem dX11_within_6 : decode cX11_within 6 = .ok (.iload_n 2, 1) := by decide +kernel
theorem dX11_within_7 : decode cX11_within 7 = .ok (.if_icmp .gt 7, 3) := by decide +kernel
theorem dX11_within_10 : decode cX11_within 10 = .ok (.iconst 1, 1) := by decide +kernel
theorem dX11_within_11 : decode cX11_within 11 = .ok (.goto 4, 3) := by decide +kernel
theorem dX11_within_14 : decode cX11_within 14 = .ok (.iconst 0, 1) := by decide +kernel
theorem dX11_within_15 : decode cX11_within 15 = .ok (.ireturn, 1) := by decide +kernel
theorem dX11_takeNumber_0 : decode cX11_takeNumber 0 = .ok (.aload_n 0, 1) := by decide +kernel
theorem dX11_takeNumber_1 : decode cX11_takeNumber 1 = .ok (.getfield 144, 3) := by decide +kernel
theorem dX11_takeNumber_4 : decode cX11_takeNumber 4 = .ok (.ifCond .ne 24, 3) := by decide +kernel
theorem dX11_takeNumber_7 : decode cX11_takeNumber 7 = .ok (.aload_n 0, 1) := by decide +kernel
theorem dX11_takeNumber_8 : decode cX11_takeNumber 8 = .ok (.getfield 24, 3) := by decide +kernel
theorem dX11_takeNumber_11 : decode cX11_takeNumber 11 = .ok (.aload_n 0, 1) := by decide +kernel
theorem dX11_takeNumber_12 : decode cX11_takeNumber 12 = .ok (.getfield 141, 3) := by decide +kernel
theorem dX11_takeNumber_15 : decode cX11_takeNumber 15 = .ok (.iaload, 1) := by decide +kernel
theorem dX11_takeNumber_16 : decode cX11_takeNumber 16 = .ok (.iconst 2, 1) := by decide +kernel
theorem dX11_takeNumber_17 : decode cX11_takeNumber 17 = .ok (.if_icmp .eq 11, 3) := by decide +kernel
theorem dX11_takeNumber_20 : decode cX11_takeNumber 20 = .ok (.aload_n 0, 1) := by decide +kernel
theorem dX11_takeNumber_21 : decode cX11_takeNumber 21 = .ok (.iconst 1, 1) := by decide +kernel
theorem dX11_takeNumber_22 : decode cX11_takeNumber 22 = .ok (.invokevirtual 150, 3) := by decide +kernel
theorem dX11_takeNumber_25 : decode cX11_takeNumber 25 = .ok (.goto 45, 3) := by decide +kernel
theorem dX11_takeNumber_28 : decode cX11_takeNumber 28 = .ok (.aload_n 0, 1) := by decide +kernel
theorem dX11_takeNumber_29 : decode cX11_takeNumber 29 = .ok (.getfield 144, 3) := by decide +kernel
theorem dX11_takeNumber_32 : decode cX11_takeNumber 32 = .ok (.ifCond .ne 38, 3) := by decide +kernel
theorem dX11_takeNumber_35 : decode cX11_takeNumber 35 = .ok (.aload_n 0, 1) := by decide +kernel
theorem dX11_takeNumber_36 : decode cX11_takeNumber 36 = .ok (.getfield 30, 3) := by decide +kernel
theorem dX11_takeNumber_39 : decode cX11_takeNumber 39 = .ok (.aload_n 0, 1) := by decide +kernel
theorem dX11_takeNumber_40 : decode cX11_takeNumber 40 = .ok (.getfield 141, 3) := by decide +kernel
theorem dX11_takeNumber_43 : decode cX11_takeNumber 43 = .ok (.laload, 1) := by decide +kernel
theorem dX11_takeNumber_44 : decode cX11_takeNumber 44 = .ok (.iload_n 1, 1) := by decide +kernel
theorem dX11_takeNumber_45 : decode cX11_takeNumber 45 = .ok (.i2l, 1) := by decide +kernel
theorem dX11_takeNumber_46 : decode cX11_takeNumber 46 = .ok (.lcmp, 1) := by decide +kernel
theorem dX11_takeNumber_47 : decode cX11_takeNumber 47 = .ok (.ifCond .lt 18, 3) := by decide +kernel
theorem dX11_takeNumber_50 : decode cX11_takeNumber 50 = .ok (.aload_n 0, 1) := by decide +kernel
theorem dX11_takeNumber_51 : decode cX11_takeNumber 51 = .ok (.getfield 30, 3) := by decide +kernel
theorem dX11_takeNumber_54 : decode cX11_takeNumber 54 = .ok (.aload_n 0, 1) := by decide +kernel
theorem dX11_takeNumber_55 : decode cX11_takeNumber 55 = .ok (.getfield 141, 3) := by decide +kernel
theorem dX11_takeNumber_58 : decode cX11_takeNumber 58 = .ok (.laload, 1) := by decide +kernel
theorem dX11_takeNumber_59 : decode cX11_takeNumber 59 = .ok (.iload_n 2, 1) := by decide +kernel
theorem dX11_takeNumber_60 : decode cX11_takeNumber 60 = .ok (.i2l, 1) := by decide +kernel
theorem dX11_takeNumber_61 : decode cX11_takeNumber 61 = .ok (.lcmp, 1) := by decide +kernel
theorem dX11_takeNumber_62 : decode cX11_takeNumber 62 = .ok (.ifCond .le 8, 3) := by decide +kernel
theorem dX11_takeNumber_65 : decode cX11_takeNumber 65 = .ok (.aload_n 0, 1) := by decide +kernel
theorem dX11_takeNumber_66 : decode cX11_takeNumber 66 = .ok (.iconst 4, 1) := by decide +kernel
theorem dX11_takeNumber_67 : decode cX11_takeNumber 67 = .ok (.invokevirtual 150, 3) := by decide +kernel
theorem dX11_takeNumber_70 : decode cX11_takeNumber 70 = .ok (.aload_n 0, 1) := by decide +kernel
theorem dX11_takeNumber_71 : decode cX11_takeNumber 71 = .ok (.getfield 144, 3) := by decide +kernel
theorem dX11_takeNumber_74 : decode cX11_takeNumber 74 = .ok (.ifCond .le 5, 3) := by decide +kernel
theorem dX11_takeNumber_77 : decode cX11_takeNumber 77 = .ok (.iconst 0, 1) := by decide +kernel
theorem dX11_takeNumber_78 : decode cX11_takeNumber 78 = .ok (.ireturn, 1) := by decide +kernel
theorem dX11_takeNumber_79 : decode cX11_takeNumber 79 = .ok (.aload_n 0, 1) := by decide +kernel
theorem dX11_takeNumber_80 : decode cX11_takeNumber 80 = .ok (.dup, 1) := by decide +kernel
theorem dX11_takeNumber_81 : decode cX11_takeNumber 81 = .ok (.getfield 141, 3) := by decide +kernel
theorem dX11_takeNumber_84 : decode cX11_takeNumber 84 = .ok (.iconst 1, 1) := by decide +kernel
theorem dX11_takeNumber_85 : decode cX11_takeNumber 85 = .ok (.iadd, 1) := by decide +kernel
theorem dX11_takeNumber_86 : decode cX11_takeNumber 86 = .ok (.putfield 141, 3) := by decide +kernel
theorem dX11_takeNumber_89 : decode cX11_takeNumber 89 = .ok (.aload_n 0, 1) := by decide +kernel
theorem dX11_takeNumber_90 : decode cX11_takeNumber 90 = .ok (.getfield 30, 3) := by decide +kernel
theorem dX11_takeNumber_93 : decode cX11_takeNumber 93 = .ok (.aload_n 0, 1) := by decide +kernel
theorem dX11_takeNumber_94 : decode cX11_takeNumber 94 = .ok (.getfield 141, 3) := by decide +kernel
theorem dX11_takeNumber_97 : decode cX11_takeNumber 97 = .ok (.iconst 1, 1) := by decide +kernel
theorem dX11_takeNumber_98 : decode cX11_takeNumber 98 = .ok (.isub, 1) := by decide +kernel
theorem dX11_takeNumber_99 : decode cX11_takeNumber 99 = .ok (.laload, 1) := by decide +kernel
theorem dX11_takeNumber_100 : decode cX11_takeNumber 100 = .ok (.l2i, 1) := by decide +kernel
theorem dX11_takeNumber_101 : decode cX11_takeNumber 101 = .ok (.ireturn, 1) := by decide +kernel
theorem dX11_takeAfter_0 : decode cX11_takeAfter 0 = .ok (.aload_n 0, 1) := by decide +kernel
theorem dX11_takeAfter_1 : decode cX11_takeAfter 1 = .ok (.iload_n 1, 1) := by decide +kernel
theorem dX11_takeAfter_2 : decode cX11_takeAfter 2 = .ok (.invokevirtual 160, 3) := by decide +kernel
theorem dX11_takeAfter_5 : decode cX11_takeAfter 5 = .ok (.aload_n 0, 1) := by decide +kernel
theorem dX11_takeAfter_6 : decode cX11_takeAfter 6 = .ok (.iload_n 2, 1) := by decide +kernel
theorem dX11_takeAfter_7 : decode cX11_takeAfter 7 = .ok (.iload_n 3, 1) := by decide +kernel
theorem dX11_takeAfter_8 : decode cX11_takeAfter 8 = .ok (.invokevirtual 163, 3) := by decide +kernel
theorem dX11_takeAfter_11 : decode cX11_takeAfter 11 = .ok (.ireturn, 1) := by decide +kernel
theorem dX11_isName_0 : decode cX11_isName 0 = .ok (.aload_n 0, 1) := by decide +kernel
theorem dX11_isName_1 : decode cX11_isName 1 = .ok (.getfield 144, 3) := by decide +kernel
theorem dX11_isName_4 : decode cX11_isName 4 = .ok (.ifCond .ne 20, 3) := by decide +kernel
theorem dX11_isName_7 : decode cX11_isName 7 = .ok (.aload_n 0, 1) := by decide +kernel
theorem dX11_isName_8 : decode cX11_isName 8 = .ok (.getfield 24, 3) := by decide +kernel
theorem dX11_isName_11 : decode cX11_isName 11 = .ok (.aload_n 0, 1) := by decide +kernel
theorem dX11_isName_12 : decode cX11_isName 12 = .ok (.getfield 141, 3) := by decide +kernel
theorem dX11_isName_15 : decode cX11_isName 15 = .ok (.iaload, 1) := by decide +kernel
theorem dX11_isName_16 : decode cX11_isName 16 = .ok (.iconst 1, 1) := by decide +kernel
theorem dX11_isName_17 : decode cX11_isName 17 = .ok (.if_icmp .ne 7, 3) := by decide +kernel
theorem dX11_isName_20 : decode cX11_isName 20 = .ok (.iconst 1, 1) := by decide +kernel
theorem dX11_isName_21 : decode cX11_isName 21 = .ok (.goto 4, 3) := by decide +kernel
theorem dX11_isName_24 : decode cX11_isName 24 = .ok (.iconst 0, 1) := by decide +kernel
theorem dX11_isName_25 : decode cX11_isName 25 = .ok (.istore_n 1, 1) := by decide +kernel
theorem dX11_isName_26 : decode cX11_isName 26 = .ok (.iconst 0, 1) := by decide +kernel
theorem dX11_isName_27 : decode cX11_isName 27 = .ok (.istore_n 2, 1) := by decide +kernel
theorem dX11_isName_28 : decode cX11_isName 28 = .ok (.iload_n 2, 1) := by decide +kernel
theorem dX11_isName_29 : decode cX11_isName 29 = .ok (.bipush 13, 2) := by decide +kernel
theorem dX11_isName_31 : decode cX11_isName 31 = .ok (.if_icmp .ge 38, 3) := by decide +kernel
theorem dX11_isName_34 : decode cX11_isName 34 = .ok (.iload_n 1, 1) := by decide +kernel
theorem dX11_isName_35 : decode cX11_isName 35 = .ok (.ifCond .eq 26, 3) := by decide +kernel
theorem dX11_isName_38 : decode cX11_isName 38 = .ok (.aload_n 0, 1) := by decide +kernel
theorem dX11_isName_39 : decode cX11_isName 39 = .ok (.getfield 30, 3) := by decide +kernel
theorem dX11_isName_42 : decode cX11_isName 42 = .ok (.aload_n 0, 1) := by decide +kernel
theorem dX11_isName_43 : decode cX11_isName 43 = .ok (.getfield 141, 3) := by decide +kernel
theorem dX11_isName_46 : decode cX11_isName 46 = .ok (.laload, 1) := by decide +kernel
theorem dX11_isName_47 : decode cX11_isName 47 = .ok (.aload_n 0, 1) := by decide +kernel
theorem dX11_isName_48 : decode cX11_isName 48 = .ok (.getfield 66, 3) := by decide +kernel
theorem dX11_isName_51 : decode cX11_isName 51 = .ok (.iload_n 2, 1) := by decide +kernel
theorem dX11_isName_52 : decode cX11_isName 52 = .ok (.laload, 1) := by decide +kernel
theorem dX11_isName_53 : decode cX11_isName 53 = .ok (.lcmp, 1) := by decide +kernel
theorem dX11_isName_54 : decode cX11_isName 54 = .ok (.ifCond .eq 7, 3) := by decide +kernel
theorem dX11_isName_57 : decode cX11_isName 57 = .ok (.iconst 1, 1) := by decide +kernel
theorem dX11_isName_58 : decode cX11_isName 58 = .ok (.goto 4, 3) := by decide +kernel
theorem dX11_isName_61 : decode cX11_isName 61 = .ok (.iconst 0, 1) := by decide +kernel
theorem dX11_isName_62 : decode cX11_isName 62 = .ok (.istore_n 1, 1) := by decide +kernel
theorem dX11_isName_63 : decode cX11_isName 63 = .ok (.iinc 2 1, 3) := by decide +kernel
theorem dX11_isName_66 : decode cX11_isName 66 = .ok (.goto (-38), 3) := by decide +kernel
theorem dX11_isName_69 : decode cX11_isName 69 = .ok (.iload_n 1, 1) := by decide +kernel
theorem dX11_isName_70 : decode cX11_isName 70 = .ok (.ireturn, 1) := by decide +kernel
theorem dX11_carry_0 : decode cX11_carry 0 = .ok (.iconst 0, 1) := by decide +kernel
theorem dX11_carry_1 : decode cX11_carry 1 = .ok (.istore_n 3, 1) := by decide +kernel
theorem dX11_carry_2 : decode cX11_carry 2 = .ok (.iload_n 3, 1) := by decide +kernel
theorem dX11_carry_3 : decode cX11_carry 3 = .ok (.sipush 1000, 3) := by decide +kernel
theorem dX11_carry_6 : decode cX11_carry 6 = .ok (.if_icmp .ge 33, 3) := by decide +kernel
theorem dX11_carry_9 : decode cX11_carry 9 = .ok (.aload_n 0, 1) := by decide +kernel
theorem dX11_carry_10 : decode cX11_carry 10 = .ok (.getfield 69, 3) := by decide +kernel
theorem dX11_carry_13 : decode cX11_carry 13 = .ok (.sipush 1000, 3) := by decide +kernel
theorem dX11_carry_16 : decode cX11_carry 16 = .ok (.iload_n 2, 1) := by decide +kernel
theorem dX11_carry_17 : decode cX11_carry 17 = .ok (.imul, 1) := by decide +kernel
theorem dX11_carry_18 : decode cX11_carry 18 = .ok (.iload_n 3, 1) := by decide +kernel
theorem dX11_carry_19 : decode cX11_carry 19 = .ok (.iadd, 1) := by decide +kernel
theorem dX11_carry_20 : decode cX11_carry 20 = .ok (.aload_n 0, 1) := by decide +kernel
theorem dX11_carry_21 : decode cX11_carry 21 = .ok (.getfield 69, 3) := by decide +kernel
theorem dX11_carry_24 : decode cX11_carry 24 = .ok (.sipush 1000, 3) := by decide +kernel
theorem dX11_carry_27 : decode cX11_carry 27 = .ok (.iload_n 1, 1) := by decide +kernel
theorem dX11_carry_28 : decode cX11_carry 28 = .ok (.imul, 1) := by decide +kernel
theorem dX11_carry_29 : decode cX11_carry 29 = .ok (.iload_n 3, 1) := by decide +kernel
theorem dX11_carry_30 : decode cX11_carry 30 = .ok (.iadd, 1) := by decide +kernel
theorem dX11_carry_31 : decode cX11_carry 31 = .ok (.iaload, 1) := by decide +kernel
theorem dX11_carry_32 : decode cX11_carry 32 = .ok (.iastore, 1) := by decide +kernel
theorem dX11_carry_33 : decode cX11_carry 33 = .ok (.iinc 3 1, 3) := by decide +kernel
theorem dX11_carry_36 : decode cX11_carry 36 = .ok (.goto (-34), 3) := by decide +kernel
theorem dX11_carry_39 : decode cX11_carry 39 = .ok (.return_, 1) := by decide +kernel
theorem dX11_mountain_0 : decode cX11_mountain 0 = .ok (.aload_n 0, 1) := by decide +kernel
theorem dX11_mountain_1 : decode cX11_mountain 1 = .ok (.iconst 0, 1) := by decide +kernel
theorem dX11_mountain_2 : decode cX11_mountain 2 = .ok (.putfield 1, 3) := by decide +kernel
theorem dX11_mountain_5 : decode cX11_mountain 5 = .ok (.aload_n 0, 1) := by decide +kernel
theorem dX11_mountain_6 : decode cX11_mountain 6 = .ok (.invokevirtual 167, 3) := by decide +kernel
theorem dX11_mountain_9 : decode cX11_mountain 9 = .ok (.aload_n 0, 1) := by decide +kernel
theorem dX11_mountain_10 : decode cX11_mountain 10 = .ok (.iconst 0, 1) := by decide +kernel
theorem dX11_mountain_11 : decode cX11_mountain 11 = .ok (.putfield 170, 3) := by decide +kernel
theorem dX11_mountain_14 : decode cX11_mountain 14 = .ok (.aload_n 0, 1) := by decide +kernel
theorem dX11_mountain_15 : decode cX11_mountain 15 = .ok (.iconst 0, 1) := by decide +kernel
theorem dX11_mountain_16 : decode cX11_mountain 16 = .ok (.putfield 173, 3) := by decide +kernel
theorem dX11_mountain_19 : decode cX11_mountain 19 = .ok (.iconst 0, 1) := by decide +kernel
theorem dX11_mountain_20 : decode cX11_mountain 20 = .ok (.istore_n 1, 1) := by decide +kernel
theorem dX11_mountain_21 : decode cX11_mountain 21 = .ok (.iload_n 1, 1) := by decide +kernel
theorem dX11_mountain_22 : decode cX11_mountain 22 = .ok (.sipush 1000, 3) := by decide +kernel
theorem dX11_mountain_25 : decode cX11_mountain 25 = .ok (.if_icmp .ge 36, 3) := by decide +kernel
theorem dX11_mountain_28 : decode cX11_mountain 28 = .ok (.aload_n 0, 1) := by decide +kernel
theorem dX11_mountain_29 : decode cX11_mountain 29 = .ok (.getfield 69, 3) := by decide +kernel
theorem dX11_mountain_32 : decode cX11_mountain 32 = .ok (.sipush 1000, 3) := by decide +kernel
theorem dX11_mountain_35 : decode cX11_mountain 35 = .ok (.iload_n 1, 1) := by decide +kernel
theorem dX11_mountain_36 : decode cX11_mountain 36 = .ok (.iadd, 1) := by decide +kernel
theorem dX11_mountain_37 : decode cX11_mountain 37 = .ok (.iload_n 1, 1) := by decide +kernel
theorem dX11_mountain_38 : decode cX11_mountain 38 = .ok (.bipush 50, 2) := by decide +kernel
theorem dX11_mountain_40 : decode cX11_mountain 40 = .ok (.if_icmp .lt 13, 3) := by decide +kernel
theorem dX11_mountain_43 : decode cX11_mountain 43 = .ok (.iload_n 1, 1) := by decide +kernel
theorem dX11_mountain_44 : decode cX11_mountain 44 = .ok (.bipush 74, 2) := by decide +kernel
theorem dX11_mountain_46 : decode cX11_mountain 46 = .ok (.if_icmp .ge 7, 3) := by decide +kernel
theorem dX11_mountain_49 : decode cX11_mountain 49 = .ok (.iconst 1, 1) := by decide +kernel
theorem dX11_mountain_50 : decode cX11_mountain 50 = .ok (.goto 4, 3) := by decide +kernel
theorem dX11_mountain_53 : decode cX11_mountain 53 = .ok (.iconst 0, 1) := by decide +kernel
theorem dX11_mountain_54 : decode cX11_mountain 54 = .ok (.iastore, 1) := by decide +kernel
theorem dX11_mountain_55 : decode cX11_mountain 55 = .ok (.iinc 1 1, 3) := by decide +kernel
theorem dX11_mountain_58 : decode cX11_mountain 58 = .ok (.goto (-37), 3) := by decide +kernel
theorem dX11_mountain_61 : decode cX11_mountain 61 = .ok (.aload_n 0, 1) := by decide +kernel
theorem dX11_mountain_62 : decode cX11_mountain 62 = .ok (.getfield 69, 3) := by decide +kernel
theorem dX11_mountain_65 : decode cX11_mountain 65 = .ok (.sipush 1005, 3) := by decide +kernel
theorem dX11_mountain_68 : decode cX11_mountain 68 = .ok (.iconst (-1), 1) := by decide +kernel
theorem dX11_mountain_69 : decode cX11_mountain 69 = .ok (.iastore, 1) := by decide +kernel
theorem dX11_mountain_70 : decode cX11_mountain 70 = .ok (.aload_n 0, 1) := by decide +kernel
theorem dX11_mountain_71 : decode cX11_mountain 71 = .ok (.getfield 69, 3) := by decide +kernel
theorem dX11_mountain_74 : decode cX11_mountain 74 = .ok (.sipush 1006, 3) := by decide +kernel
theorem dX11_mountain_77 : decode cX11_mountain 77 = .ok (.iconst (-1), 1) := by decide +kernel
theorem dX11_mountain_78 : decode cX11_mountain 78 = .ok (.iastore, 1) := by decide +kernel
theorem dX11_mountain_79 : decode cX11_mountain 79 = .ok (.aload_n 0, 1) := by decide +kernel
theorem dX11_mountain_80 : decode cX11_mountain 80 = .ok (.getfield 144, 3) := by decide +kernel
theorem dX11_mountain_83 : decode cX11_mountain 83 = .ok (.ifCond .ne 28, 3) := by decide +kernel
theorem dX11_mountain_86 : decode cX11_mountain 86 = .ok (.aload_n 0, 1) := by decide +kernel
theorem dX11_mountain_87 : decode cX11_mountain 87 = .ok (.getfield 24, 3) := by decide +kernel
theorem dX11_mountain_90 : decode cX11_mountain 90 = .ok (.aload_n 0, 1) := by decide +kernel
theorem dX11_mountain_91 : decode cX11_mountain 91 = .ok (.getfield 141, 3) := by decide +kernel
theorem dX11_mountain_94 : decode cX11_mountain 94 = .ok (.iaload, 1) := by decide +kernel
theorem dX11_mountain_95 : decode cX11_mountain 95 = .ok (.ifCond .eq 16, 3) := by decide +kernel
theorem dX11_mountain_98 : decode cX11_mountain 98 = .ok (.aload_n 0, 1) := by decide +kernel
theorem dX11_mountain_99 : decode cX11_mountain 99 = .ok (.invokevirtual 176, 3) := by decide +kernel
theorem dX11_mountain_102 : decode cX11_mountain 102 = .ok (.aload_n 0, 1) := by decide +kernel
theorem dX11_mountain_103 : decode cX11_mountain 103 = .ok (.bipush 59, 2) := by decide +kernel
theorem dX11_mountain_105 : decode cX11_mountain 105 = .ok (.invokevirtual 179, 3) := by decide +kernel
theorem dX11_mountain_108 : decode cX11_mountain 108 = .ok (.goto (-29), 3) := by decide +kernel
theorem dX11_mountain_111 : decode cX11_mountain 111 = .ok (.aload_n 0, 1) := by decide +kernel
theorem dX11_mountain_112 : decode cX11_mountain 112 = .ok (.getfield 144, 3) := by decide +kernel
theorem dX11_mountain_115 : decode cX11_mountain 115 = .ok (.ifCond .le 8, 3) := by decide +kernel
theorem dX11_mountain_118 : decode cX11_mountain 118 = .ok (.aload_n 0, 1) := by decide +kernel
theorem dX11_mountain_119 : decode cX11_mountain 119 = .ok (.getfield 144, 3) := by decide +kernel
theorem dX11_mountain_122 : decode cX11_mountain 122 = .ok (.ireturn, 1) := by decide +kernel
theorem dX11_mountain_123 : decode cX11_mountain 123 = .ok (.aload_n 0, 1) := by decide +kernel
theorem dX11_mountain_124 : decode cX11_mountain 124 = .ok (.iconst 1, 1) := by decide +kernel
theorem dX11_mountain_125 : decode cX11_mountain 125 = .ok (.iconst 0, 1) := by decide +kernel
theorem dX11_mountain_126 : decode cX11_mountain 126 = .ok (.invokevirtual 182, 3) := by decide +kernel
theorem dX11_mountain_129 : decode cX11_mountain 129 = .ok (.iconst 0, 1) := by decide +kernel
theorem dX11_mountain_130 : decode cX11_mountain 130 = .ok (.istore_n 1, 1) := by decide +kernel
theorem dX11_mountain_131 : decode cX11_mountain 131 = .ok (.iload_n 1, 1) := by decide +kernel
theorem dX11_mountain_132 : decode cX11_mountain 132 = .ok (.aload_n 0, 1) := by decide +kernel
theorem dX11_mountain_133 : decode cX11_mountain 133 = .ok (.getfield 170, 3) := by decide +kernel
theorem dX11_mountain_136 : decode cX11_mountain 136 = .ok (.if_icmp .ge 41, 3) := by decide +kernel
theorem dX11_mountain_139 : decode cX11_mountain 139 = .ok (.aload_n 0, 1) := by decide +kernel
theorem dX11_mountain_140 : decode cX11_mountain 140 = .ok (.getfield 72, 3) := by decide +kernel
theorem dX11_mountain_143 : decode cX11_mountain 143 = .ok (.iload_n 1, 1) := by decide +kernel
theorem dX11_mountain_144 : decode cX11_mountain 144 = .ok (.aload_n 0, 1) := by decide +kernel
theorem dX11_mountain_145 : decode cX11_mountain 145 = .ok (.getfield 72, 3) := by decide +kernel
theorem dX11_mountain_148 : decode cX11_mountain 148 = .ok (.sipush 1100, 3) := by decide +kernel
theorem dX11_mountain_151 : decode cX11_mountain 151 = .ok (.iload_n 1, 1) := by decide +kernel
theorem dX11_mountain_152 : decode cX11_mountain 152 = .ok (.iadd, 1) := by decide +kernel
theorem dX11_mountain_153 : decode cX11_mountain 153 = .ok (.iaload, 1) := by decide +kernel
theorem dX11_mountain_154 : decode cX11_mountain 154 = .ok (.iastore, 1) := by decide +kernel
theorem dX11_mountain_155 : decode cX11_mountain 155 = .ok (.aload_n 0, 1) := by decide +kernel
theorem dX11_mountain_156 : decode cX11_mountain 156 = .ok (.getfield 75, 3) := by decide +kernel
theorem dX11_mountain_159 : decode cX11_mountain 159 = .ok (.iload_n 1, 1) := by decide +kernel
theorem dX11_mountain_160 : decode cX11_mountain 160 = .ok (.aload_n 0, 1) := by decide +kernel
theorem dX11_mountain_161 : decode cX11_mountain 161 = .ok (.getfield 75, 3) := by decide +kernel
theorem dX11_mountain_164 : decode cX11_mountain 164 = .ok (.sipush 1100, 3) := by decide +kernel
theorem dX11_mountain_167 : decode cX11_mountain 167 = .ok (.iload_n 1, 1) := by decide +kernel
theorem dX11_mountain_168 : decode cX11_mountain 168 = .ok (.iadd, 1) := by decide +kernel
theorem dX11_mountain_169 : decode cX11_mountain 169 = .ok (.iaload, 1) := by decide +kernel
theorem dX11_mountain_170 : decode cX11_mountain 170 = .ok (.iastore, 1) := by decide +kernel
theorem dX11_mountain_171 : decode cX11_mountain 171 = .ok (.iinc 1 1, 3) := by decide +kernel
theorem dX11_mountain_174 : decode cX11_mountain 174 = .ok (.goto (-43), 3) := by decide +kernel
theorem dX11_mountain_177 : decode cX11_mountain 177 = .ok (.iconst 0, 1) := by decide +kernel
theorem dX11_mountain_178 : decode cX11_mountain 178 = .ok (.istore_n 1, 1) := by decide +kernel
theorem dX11_mountain_179 : decode cX11_mountain 179 = .ok (.iload_n 1, 1) := by decide +kernel
theorem dX11_mountain_180 : decode cX11_mountain 180 = .ok (.iconst 4, 1) := by decide +kernel
theorem dX11_mountain_181 : decode cX11_mountain 181 = .ok (.if_icmp .ge 16, 3) := by decide +kernel
theorem dX11_mountain_184 : decode cX11_mountain 184 = .ok (.aload_n 0, 1) := by decide +kernel
theorem dX11_mountain_185 : decode cX11_mountain 185 = .ok (.getfield 115, 3) := by decide +kernel
theorem dX11_mountain_188 : decode cX11_mountain 188 = .ok (.iload_n 1, 1) := by decide +kernel
theorem dX11_mountain_189 : decode cX11_mountain 189 = .ok (.iconst 0, 1) := by decide +kernel
theorem dX11_mountain_190 : decode cX11_mountain 190 = .ok (.bastore, 1) := by decide +kernel
theorem dX11_mountain_191 : decode cX11_mountain 191 = .ok (.iinc 1 1, 3) := by decide +kernel
theorem dX11_mountain_194 : decode cX11_mountain 194 = .ok (.goto (-15), 3) := by decide +kernel
theorem dX11_mountain_197 : decode cX11_mountain 197 = .ok (.iconst 0, 1) := by decide +kernel
theorem dX11_mountain_198 : decode cX11_mountain 198 = .ok (.ireturn, 1) := by decide +kernel
theorem dX11_readLine_0 : decode cX11_readLine 0 = .ok (.aload_n 0, 1) := by decide +kernel
theorem dX11_readLine_1 : decode cX11_readLine 1 = .ok (.iconst 0, 1) := by decide +kernel
theorem dX11_readLine_2 : decode cX11_readLine 2 = .ok (.invokevirtual 154, 3) := by decide +kernel
theorem dX11_readLine_5 : decode cX11_readLine 5 = .ok (.ifCond .eq 10, 3) := by decide +kernel
theorem dX11_readLine_8 : decode cX11_readLine 8 = .ok (.aload_n 0, 1) := by decide +kernel
theorem dX11_readLine_9 : decode cX11_readLine 9 = .ok (.invokevirtual 186, 3) := by decide +kernel
theorem dX11_readLine_12 : decode cX11_readLine 12 = .ok (.goto 88, 3) := by decide +kernel
theorem dX11_readLine_15 : decode cX11_readLine 15 = .ok (.aload_n 0, 1) := by decide +kernel
theorem dX11_readLine_16 : decode cX11_readLine 16 = .ok (.iconst 4, 1) := by decide +kernel
theorem dX11_readLine_17 : decode cX11_readLine 17 = .ok (.invokevirtual 154, 3) := by decide +kernel
theorem dX11_readLine_20 : decode cX11_readLine 20 = .ok (.ifCond .ne 11, 3) := by decide +kernel
theorem dX11_readLine_23 : decode cX11_readLine 23 = .ok (.aload_n 0, 1) := by decide +kernel
theorem dX11_readLine_24 : decode cX11_readLine 24 = .ok (.iconst 5, 1) := by decide +kernel
theorem dX11_readLine_25 : decode cX11_readLine 25 = .ok (.invokevirtual 154, 3) := by decide +kernel
theorem dX11_readLine_28 : decode cX11_readLine 28 = .ok (.ifCond .eq 10, 3) := by decide +kernel
theorem dX11_readLine_31 : decode cX11_readLine 31 = .ok (.aload_n 0, 1) := by decide +kernel
theorem dX11_readLine_32 : decode cX11_readLine 32 = .ok (.invokevirtual 189, 3) := by decide +kernel
theorem dX11_readLine_35 : decode cX11_readLine 35 = .ok (.goto 65, 3) := by decide +kernel
theorem dX11_readLine_38 : decode cX11_readLine 38 = .ok (.aload_n 0, 1) := by decide +kernel
theorem dX11_readLine_39 : decode cX11_readLine 39 = .ok (.bipush 6, 2) := by decide +kernel
theorem dX11_readLine_41 : decode cX11_readLine 41 = .ok (.invokevirtual 154, 3) := by decide +kernel
theorem dX11_readLine_44 : decode cX11_readLine 44 = .ok (.ifCond .eq 10, 3) := by decide +kernel
theorem dX11_readLine_47 : decode cX11_readLine 47 = .ok (.aload_n 0, 1) := by decide +kernel
theorem dX11_readLine_48 : decode cX11_readLine 48 = .ok (.invokevirtual 192, 3) := by decide +kernel
theorem dX11_readLine_51 : decode cX11_readLine 51 = .ok (.goto 49, 3) := by decide +kernel
theorem dX11_readLine_54 : decode cX11_readLine 54 = .ok (.aload_n 0, 1) := by decide +kernel
theorem dX11_readLine_55 : decode cX11_readLine 55 = .ok (.bipush 7, 2) := by decide +kernel
theorem dX11_readLine_57 : decode cX11_readLine 57 = .ok (.invokevirtual 154, 3) := by decide +kernel
theorem dX11_readLine_60 : decode cX11_readLine 60 = .ok (.ifCond .eq 10, 3) := by decide +kernel
theorem dX11_readLine_63 : decode cX11_readLine 63 = .ok (.aload_n 0, 1) := by decide +kernel
theorem dX11_readLine_64 : decode cX11_readLine 64 = .ok (.invokevirtual 195, 3) := by decide +kernel
theorem dX11_readLine_67 : decode cX11_readLine 67 = .ok (.goto 33, 3) := by decide +kernel
theorem dX11_readLine_70 : decode cX11_readLine 70 = .ok (.aload_n 0, 1) := by decide +kernel
theorem dX11_readLine_71 : decode cX11_readLine 71 = .ok (.bipush 8, 2) := by decide +kernel
theorem dX11_readLine_73 : decode cX11_readLine 73 = .ok (.invokevirtual 154, 3) := by decide +kernel
theorem dX11_readLine_76 : decode cX11_readLine 76 = .ok (.ifCond .ne 12, 3) := by decide +kernel
theorem dX11_readLine_79 : decode cX11_readLine 79 = .ok (.aload_n 0, 1) := by decide +kernel
theorem dX11_readLine_80 : decode cX11_readLine 80 = .ok (.bipush 9, 2) := by decide +kernel
theorem dX11_readLine_82 : decode cX11_readLine 82 = .ok (.invokevirtual 154, 3) := by decide +kernel
theorem dX11_readLine_85 : decode cX11_readLine 85 = .ok (.ifCond .eq 10, 3) := by decide +kernel
theorem dX11_readLine_88 : decode cX11_readLine 88 = .ok (.aload_n 0, 1) := by decide +kernel
theorem dX11_readLine_89 : decode cX11_readLine 89 = .ok (.invokevirtual 198, 3) := by decide +kernel
theorem dX11_readLine_92 : decode cX11_readLine 92 = .ok (.goto 8, 3) := by decide +kernel
theorem dX11_readLine_95 : decode cX11_readLine 95 = .ok (.aload_n 0, 1) := by decide +kernel
theorem dX11_readLine_96 : decode cX11_readLine 96 = .ok (.iconst 1, 1) := by decide +kernel
theorem dX11_readLine_97 : decode cX11_readLine 97 = .ok (.invokevirtual 150, 3) := by decide +kernel
theorem dX11_readLine_100 : decode cX11_readLine 100 = .ok (.return_, 1) := by decide +kernel
theorem dX11_readFarm_0 : decode cX11_readFarm 0 = .ok (.aload_n 0, 1) := by decide +kernel
theorem dX11_readFarm_1 : decode cX11_readFarm 1 = .ok (.getfield 69, 3) := by decide +kernel
theorem dX11_readFarm_4 : decode cX11_readFarm 4 = .ok (.sipush 1000, 3) := by decide +kernel
theorem dX11_readFarm_7 : decode cX11_readFarm 7 = .ok (.iaload, 1) := by decide +kernel
theorem dX11_readFarm_8 : decode cX11_readFarm 8 = .ok (.istore_n 1, 1) := by decide +kernel
theorem dX11_readFarm_9 : decode cX11_readFarm 9 = .ok (.iload_n 1, 1) := by decide +kernel
theorem dX11_readFarm_10 : decode cX11_readFarm 10 = .ok (.bipush 6, 2) := by decide +kernel
theorem dX11_readFarm_12 : decode cX11_readFarm 12 = .ok (.if_icmp .ne 9, 3) := by decide +kernel
theorem dX11_readFarm_15 : decode cX11_readFarm 15 = .ok (.aload_n 0, 1) := by decide +kernel
theorem dX11_readFarm_16 : decode cX11_readFarm 16 = .ok (.iconst 5, 1) := by decide +kernel
theorem dX11_readFarm_17 : decode cX11_readFarm 17 = .ok (.invokevirtual 150, 3) := by decide +kernel
theorem dX11_readFarm_20 : decode cX11_readFarm 20 = .ok (.return_, 1) := by decide +kernel
theorem dX11_readFarm_21 : decode cX11_readFarm 21 = .ok (.aload_n 0, 1) := by decide +kernel
theorem dX11_readFarm_22 : decode cX11_readFarm 22 = .ok (.dup, 1) := by decide +kernel
theorem dX11_readFarm_23 : decode cX11_readFarm 23 = .ok (.getfield 141, 3) := by decide +kernel
theorem dX11_readFarm_26 : decode cX11_readFarm 26 = .ok (.iconst 1, 1) := by decide +kernel
theorem dX11_readFarm_27 : decode cX11_readFarm 27 = .ok (.iadd, 1) := by decide +kernel
theorem dX11_readFarm_28 : decode cX11_readFarm 28 = .ok (.putfield 141, 3) := by decide +kernel
theorem dX11_readFarm_31 : decode cX11_readFarm 31 = .ok (.aload_n 0, 1) := by decide +kernel
theorem dX11_readFarm_32 : decode cX11_readFarm 32 = .ok (.invokevirtual 201, 3) := by decide +kernel
theorem dX11_readFarm_35 : decode cX11_readFarm 35 = .ok (.ifCond .ne 8, 3) := by decide +kernel
theorem dX11_readFarm_38 : decode cX11_readFarm 38 = .ok (.aload_n 0, 1) := by decide +kernel
theorem dX11_readFarm_39 : decode cX11_readFarm 39 = .ok (.iconst 1, 1) := by decide +kernel
theorem dX11_readFarm_40 : decode cX11_readFarm 40 = .ok (.invokevirtual 150, 3) := by decide +kernel
theorem dX11_readFarm_43 : decode cX11_readFarm 43 = .ok (.iconst 0, 1) := by decide +kernel
theorem dX11_readFarm_44 : decode cX11_readFarm 44 = .ok (.istore_n 2, 1) := by decide +kernel
theorem dX11_readFarm_45 : decode cX11_readFarm 45 = .ok (.iload_n 2, 1) := by decide +kernel
theorem dX11_readFarm_46 : decode cX11_readFarm 46 = .ok (.iload_n 1, 1) := by decide +kernel
theorem dX11_readFarm_47 : decode cX11_readFarm 47 = .ok (.if_icmp .ge 40, 3) := by decide +kernel
theorem dX11_readFarm_50 : decode cX11_readFarm 50 = .ok (.aload_n 0, 1) := by decide +kernel
theorem dX11_readFarm_51 : decode cX11_readFarm 51 = .ok (.getfield 144, 3) := by decide +kernel
theorem dX11_readFarm_54 : decode cX11_readFarm 54 = .ok (.ifCond .ne 33, 3) := by decide +kernel
theorem dX11_readFarm_57 : decode cX11_readFarm 57 = .ok (.aload_n 0, 1) := by decide +kernel
theorem dX11_readFarm_58 : decode cX11_readFarm 58 = .ok (.getfield 78, 3) := by decide +kernel
theorem dX11_readFarm_61 : decode cX11_readFarm 61 = .ok (.iload_n 2, 1) := by decide +kernel
theorem dX11_readFarm_62 : decode cX11_readFarm 62 = .ok (.laload, 1) := by decide +kernel
theorem dX11_readFarm_63 : decode cX11_readFarm 63 = .ok (.aload_n 0, 1) := by decide +kernel
theorem dX11_readFarm_64 : decode cX11_readFarm 64 = .ok (.getfield 30, 3) := by decide +kernel
theorem dX11_readFarm_67 : decode cX11_readFarm 67 = .ok (.aload_n 0, 1) := by decide +kernel
theorem dX11_readFarm_68 : decode cX11_readFarm 68 = .ok (.getfield 141, 3) := by decide +kernel
theorem dX11_readFarm_71 : decode cX11_readFarm 71 = .ok (.laload, 1) := by decide +kernel
theorem dX11_readFarm_72 : decode cX11_readFarm 72 = .ok (.lcmp, 1) := by decide +kernel
theorem dX11_readFarm_73 : decode cX11_readFarm 73 = .ok (.ifCond .ne 8, 3) := by decide +kernel
theorem dX11_readFarm_76 : decode cX11_readFarm 76 = .ok (.aload_n 0, 1) := by decide +kernel
theorem dX11_readFarm_77 : decode cX11_readFarm 77 = .ok (.iconst 3, 1) := by decide +kernel
theorem dX11_readFarm_78 : decode cX11_readFarm 78 = .ok (.invokevirtual 150, 3) := by decide +kernel
theorem dX11_readFarm_81 : decode cX11_readFarm 81 = .ok (.iinc 2 1, 3) := by decide +kernel
theorem dX11_readFarm_84 : decode cX11_readFarm 84 = .ok (.goto (-39), 3) := by decide +kernel
theorem dX11_readFarm_87 : decode cX11_readFarm 87 = .ok (.aload_n 0, 1) := by decide +kernel
theorem dX11_readFarm_88 : decode cX11_readFarm 88 = .ok (.getfield 144, 3) := by decide +kernel
theorem dX11_readFarm_91 : decode cX11_readFarm 91 = .ok (.ifCond .le 4, 3) := by decide +kernel
theorem dX11_readFarm_94 : decode cX11_readFarm 94 = .ok (.return_, 1) := by decide +kernel
theorem dX11_readFarm_95 : decode cX11_readFarm 95 = .ok (.aload_n 0, 1) := by decide +kernel
theorem dX11_readFarm_96 : decode cX11_readFarm 96 = .ok (.getfield 78, 3) := by decide +kernel
theorem dX11_readFarm_99 : decode cX11_readFarm 99 = .ok (.iload_n 1, 1) := by decide +kernel
theorem dX11_readFarm_100 : decode cX11_readFarm 100 = .ok (.aload_n 0, 1) := by decide +kernel
theorem dX11_readFarm_101 : decode cX11_readFarm 101 = .ok (.getfield 30, 3) := by decide +kernel
theorem dX11_readFarm_104 : decode cX11_readFarm 104 = .ok (.aload_n 0, 1) := by decide +kernel
theorem dX11_readFarm_105 : decode cX11_readFarm 105 = .ok (.getfield 141, 3) := by decide +kernel
theorem dX11_readFarm_108 : decode cX11_readFarm 108 = .ok (.laload, 1) := by decide +kernel
theorem dX11_readFarm_109 : decode cX11_readFarm 109 = .ok (.lastore, 1) := by decide +kernel
theorem dX11_readFarm_110 : decode cX11_readFarm 110 = .ok (.aload_n 0, 1) := by decide +kernel
theorem dX11_readFarm_111 : decode cX11_readFarm 111 = .ok (.dup, 1) := by decide +kernel
theorem dX11_readFarm_112 : decode cX11_readFarm 112 = .ok (.getfield 141, 3) := by decide +kernel
theorem dX11_readFarm_115 : decode cX11_readFarm 115 = .ok (.iconst 1, 1) := by decide +kernel
theorem dX11_readFarm_116 : decode cX11_readFarm 116 = .ok (.iadd, 1) := by decide +kernel
theorem dX11_readFarm_117 : decode cX11_readFarm 117 = .ok (.putfield 141, 3) := by decide +kernel
theorem dX11_readFarm_120 : decode cX11_readFarm 120 = .ok (.sipush 1008, 3) := by decide +kernel
theorem dX11_readFarm_123 : decode cX11_readFarm 123 = .ok (.bipush 7, 2) := by decide +kernel
theorem dX11_readFarm_125 : decode cX11_readFarm 125 = .ok (.iload_n 1, 1) := by decide +kernel
theorem dX11_readFarm_126 : decode cX11_readFarm 126 = .ok (.imul, 1) := by decide +kernel
theorem dX11_readFarm_127 : decode cX11_readFarm 127 = .ok (.iadd, 1) := by decide +kernel
theorem dX11_readFarm_128 : decode cX11_readFarm 128 = .ok (.istore_n 2, 1) := by decide +kernel
theorem dX11_readFarm_129 : decode cX11_readFarm 129 = .ok (.aload_n 0, 1) := by decide +kernel
theorem dX11_readFarm_130 : decode cX11_readFarm 130 = .ok (.getfield 69, 3) := by decide +kernel
theorem dX11_readFarm_133 : decode cX11_readFarm 133 = .ok (.iload_n 2, 1) := by decide +kernel
theorem dX11_readFarm_134 : decode cX11_readFarm 134 = .ok (.iconst 0, 1) := by decide +kernel
theorem dX11_readFarm_135 : decode cX11_readFarm 135 = .ok (.iadd, 1) := by decide +kernel
theorem dX11_readFarm_136 : decode cX11_readFarm 136 = .ok (.aload_n 0, 1) := by decide +kernel
theorem dX11_readFarm_137 : decode cX11_readFarm 137 = .ok (.iconst 1, 1) := by decide +kernel
theorem dX11_readFarm_138 : decode cX11_readFarm 138 = .ok (.iconst 0, 1) := by decide +kernel
theorem dX11_readFarm_139 : decode cX11_readFarm 139 = .ok (.sipush 9999, 3) := by decide +kernel
theorem dX11_readFarm_142 : decode cX11_readFarm 142 = .ok (.invokevirtual 205, 3) := by decide +kernel
theorem dX11_readFarm_145 : decode cX11_readFarm 145 = .ok (.iastore, 1) := by decide +kernel
theorem dX11_readFarm_146 : decode cX11_readFarm 146 = .ok (.aload_n 0, 1) := by decide +kernel
theorem dX11_readFarm_147 : decode cX11_readFarm 147 = .ok (.getfield 69, 3) := by decide +kernel
theorem dX11_readFarm_150 : decode cX11_readFarm 150 = .ok (.iload_n 2, 1) := by decide +kernel
theorem dX11_readFarm_151 : decode cX11_readFarm 151 = .ok (.iconst 1, 1) := by decide +kernel
theorem dX11_readFarm_152 : decode cX11_readFarm 152 = .ok (.iadd, 1) := by decide +kernel
theorem dX11_readFarm_153 : decode cX11_readFarm 153 = .ok (.aload_n 0, 1) := by decide +kernel
theorem dX11_readFarm_154 : decode cX11_readFarm 154 = .ok (.iconst 2, 1) := by decide +kernel
theorem dX11_readFarm_155 : decode cX11_readFarm 155 = .ok (.iconst 0, 1) := by decide +kernel
theorem dX11_readFarm_156 : decode cX11_readFarm 156 = .ok (.bipush 9, 2) := by decide +kernel
theorem dX11_readFarm_158 : decode cX11_readFarm 158 = .ok (.invokevirtual 205, 3) := by decide +kernel
theorem dX11_readFarm_161 : decode cX11_readFarm 161 = .ok (.iastore, 1) := by decide +kernel
theorem dX11_readFarm_162 : decode cX11_readFarm 162 = .ok (.aload_n 0, 1) := by decide +kernel
theorem dX11_readFarm_163 : decode cX11_readFarm 163 = .ok (.getfield 69, 3) := by decide +kernel
theorem dX11_readFarm_166 : decode cX11_readFarm 166 = .ok (.iload_n 2, 1) := by decide +kernel
theorem dX11_readFarm_167 : decode cX11_readFarm 167 = .ok (.iconst 2, 1) := by decide +kernel
theorem dX11_readFarm_168 : decode cX11_readFarm 168 = .ok (.iadd, 1) := by decide +kernel
theorem dX11_readFarm_169 : decode cX11_readFarm 169 = .ok (.aload_n 0, 1) := by decide +kernel
theorem dX11_readFarm_170 : decode cX11_readFarm 170 = .ok (.iconst 3, 1) := by decide +kernel
theorem dX11_readFarm_171 : decode cX11_readFarm 171 = .ok (.iconst 0, 1) := by decide +kernel
theorem dX11_readFarm_172 : decode cX11_readFarm 172 = .ok (.bipush 99, 2) := by decide +kernel
theorem dX11_readFarm_174 : decode cX11_readFarm 174 = .ok (.invokevirtual 205, 3) := by decide +kernel
theorem dX11_readFarm_177 : decode cX11_readFarm 177 = .ok (.iastore, 1) := by decide +kernel
theorem dX11_readFarm_178 : decode cX11_readFarm 178 = .ok (.aload_n 0, 1) := by decide +kernel
theorem dX11_readFarm_179 : decode cX11_readFarm 179 = .ok (.getfield 69, 3) := by decide +kernel
theorem dX11_readFarm_182 : decode cX11_readFarm 182 = .ok (.sipush 1000, 3) := by decide +kernel
theorem dX11_readFarm_185 : decode cX11_readFarm 185 = .ok (.dup2, 1) := by decide +kernel
theorem dX11_readFarm_186 : decode cX11_readFarm 186 = .ok (.iaload, 1) := by decide +kernel
theorem dX11_readFarm_187 : decode cX11_readFarm 187 = .ok (.iconst 1, 1) := by decide +kernel
theorem dX11_readFarm_188 : decode cX11_readFarm 188 = .ok (.iadd, 1) := by decide +kernel
theorem dX11_readFarm_189 : decode cX11_readFarm 189 = .ok (.iastore, 1) := by decide +kernel
theorem dX11_readFarm_190 : decode cX11_readFarm 190 = .ok (.return_, 1) := by decide +kernel
theorem dX11_farmHere_0 : decode cX11_farmHere 0 = .ok (.aload_n 0, 1) := by decide +kernel
theorem dX11_farmHere_1 : decode cX11_farmHere 1 = .ok (.invokevirtual 201, 3) := by decide +kernel
theorem dX11_farmHere_4 : decode cX11_farmHere 4 = .ok (.ifCond .ne 10, 3) := by decide +kernel
theorem dX11_farmHere_7 : decode cX11_farmHere 7 = .ok (.aload_n 0, 1) := by decide +kernel
theorem dX11_farmHere_8 : decode cX11_farmHere 8 = .ok (.iconst 1, 1) := by decide +kernel
theorem dX11_farmHere_9 : decode cX11_farmHere 9 = .ok (.invokevirtual 150, 3) := by decide +kernel
theorem dX11_farmHere_12 : decode cX11_farmHere 12 = .ok (.iconst (-1), 1) := by decide +kernel
theorem dX11_farmHere_13 : decode cX11_farmHere 13 = .ok (.ireturn, 1) := by decide +kernel
theorem dX11_farmHere_14 : decode cX11_farmHere 14 = .ok (.iconst 0, 1) := by decide +kernel
theorem dX11_farmHere_15 : decode cX11_farmHere 15 = .ok (.istore_n 1, 1) := by decide +kernel
theorem dX11_farmHere_16 : decode cX11_farmHere 16 = .ok (.iload_n 1, 1) := by decide +kernel
theorem dX11_farmHere_17 : decode cX11_farmHere 17 = .ok (.aload_n 0, 1) := by decide +kernel
theorem dX11_farmHere_18 : decode cX11_farmHere 18 = .ok (.getfield 69, 3) := by decide +kernel
theorem dX11_farmHere_21 : decode cX11_farmHere 21 = .ok (.sipush 1000, 3) := by decide +kernel
theorem dX11_farmHere_24 : decode cX11_farmHere 24 = .ok (.iaload, 1) := by decide +kernel
theorem dX11_farmHere_25 : decode cX11_farmHere 25 = .ok (.if_icmp .ge 30, 3) := by decide +kernel
theorem dX11_farmHere_28 : decode cX11_farmHere 28 = .ok (.aload_n 0, 1) := by decide +kernel
theorem dX11_farmHere_29 : decode cX11_farmHere 29 = .ok (.getfield 78, 3) := by decide +kernel
theorem dX11_farmHere_32 : decode cX11_farmHere 32 = .ok (.iload_n 1, 1) := by decide +kernel
theorem dX11_farmHere_33 : decode cX11_farmHere 33 = .ok (.laload, 1) := by decide +kernel
theorem dX11_farmHere_34 : decode cX11_farmHere 34 = .ok (.aload_n 0, 1) := by decide +kernel
theorem dX11_farmHere_35 : decode cX11_farmHere 35 = .ok (.getfield 30, 3) := by decide +kernel
theorem dX11_farmHere_38 : decode cX11_farmHere 38 = .ok (.aload_n 0, 1) := by decide +kernel
theorem dX11_farmHere_39 : decode cX11_farmHere 39 = .ok (.getfield 141, 3) := by decide +kernel
theorem dX11_farmHere_42 : decode cX11_farmHere 42 = .ok (.laload, 1) := by decide +kernel
theorem dX11_farmHere_43 : decode cX11_farmHere 43 = .ok (.lcmp, 1) := by decide +kernel
theorem dX11_farmHere_44 : decode cX11_farmHere 44 = .ok (.ifCond .ne 5, 3) := by decide +kernel
theorem dX11_farmHere_47 : decode cX11_farmHere 47 = .ok (.iload_n 1, 1) := by decide +kernel
theorem dX11_farmHere_48 : decode cX11_farmHere 48 = .ok (.ireturn, 1) := by decide +kernel
theorem dX11_farmHere_49 : decode cX11_farmHere 49 = .ok (.iinc 1 1, 3) := by decide +kernel
theorem dX11_farmHere_52 : decode cX11_farmHere 52 = .ok (.goto (-36), 3) := by decide +kernel
theorem dX11_farmHere_55 : decode cX11_farmHere 55 = .ok (.aload_n 0, 1) := by decide +kernel
theorem dX11_farmHere_56 : decode cX11_farmHere 56 = .ok (.iconst 2, 1) := by decide +kernel
theorem dX11_farmHere_57 : decode cX11_farmHere 57 = .ok (.invokevirtual 150, 3) := by decide +kernel
theorem dX11_farmHere_60 : decode cX11_farmHere 60 = .ok (.iconst (-1), 1) := by decide +kernel
theorem dX11_farmHere_61 : decode cX11_farmHere 61 = .ok (.ireturn, 1) := by decide +kernel
theorem dX11_takeTwo_0 : decode cX11_takeTwo 0 = .ok (.aload_n 0, 1) := by decide +kernel
theorem dX11_takeTwo_1 : decode cX11_takeTwo 1 = .ok (.dup, 1) := by decide +kernel
theorem dX11_takeTwo_2 : decode cX11_takeTwo 2 = .ok (.getfield 141, 3) := by decide +kernel
theorem dX11_takeTwo_5 : decode cX11_takeTwo 5 = .ok (.iconst 1, 1) := by decide +kernel
theorem dX11_takeTwo_6 : decode cX11_takeTwo 6 = .ok (.iadd, 1) := by decide +kernel
theorem dX11_takeTwo_7 : decode cX11_takeTwo 7 = .ok (.putfield 141, 3) := by decide +kernel
theorem dX11_takeTwo_10 : decode cX11_takeTwo 10 = .ok (.aload_n 0, 1) := by decide +kernel
theorem dX11_takeTwo_11 : decode cX11_takeTwo 11 = .ok (.invokevirtual 209, 3) := by decide +kernel
theorem dX11_takeTwo_14 : decode cX11_takeTwo 14 = .ok (.istore_n 3, 1) := by decide +kernel
theorem dX11_takeTwo_15 : decode cX11_takeTwo 15 = .ok (.aload_n 0, 1) := by decide +kernel
theorem dX11_takeTwo_16 : decode cX11_takeTwo 16 = .ok (.getfield 144, 3) := by decide +kernel
theorem dX11_takeTwo_19 : decode cX11_takeTwo 19 = .ok (.ifCond .ne 31, 3) := by decide +kernel
theorem dX11_takeTwo_22 : decode cX11_takeTwo 22 = .ok (.iload_n 2, 1) := by decide +kernel
theorem dX11_takeTwo_23 : decode cX11_takeTwo 23 = .ok (.ifCond .ne 27, 3) := by decide +kernel
theorem dX11_takeTwo_26 : decode cX11_takeTwo 26 = .ok (.aload_n 0, 1) := by decide +kernel
theorem dX11_takeTwo_27 : decode cX11_takeTwo 27 = .ok (.getfield 69, 3) := by decide +kernel
theorem dX11_takeTwo_30 : decode cX11_takeTwo 30 = .ok (.sipush 1008, 3) := by decide +kernel
theorem dX11_takeTwo_33 : decode cX11_takeTwo 33 = .ok (.bipush 7, 2) := by decide +kernel
theorem dX11_takeTwo_35 : decode cX11_takeTwo 35 = .ok (.iload_n 3, 1) := by decide +kernel
theorem dX11_takeTwo_36 : decode cX11_takeTwo 36 = .ok (.imul, 1) := by decide +kernel
theorem dX11_takeTwo_37 : decode cX11_takeTwo 37 = .ok (.iadd, 1) := by decide +kernel
theorem dX11_takeTwo_38 : decode cX11_takeTwo 38 = .ok (.bipush 6, 2) := by decide +kernel
theorem dX11_takeTwo_40 : decode cX11_takeTwo 40 = .ok (.iadd, 1) := by decide +kernel
theorem dX11_takeTwo_41 : decode cX11_takeTwo 41 = .ok (.iaload, 1) := by decide +kernel
theorem dX11_takeTwo_42 : decode cX11_takeTwo 42 = .ok (.ifCond .le 8, 3) := by decide +kernel
theorem dX11_takeTwo_45 : decode cX11_takeTwo 45 = .ok (.aload_n 0, 1) := by decide +kernel
theorem dX11_takeTwo_46 : decode cX11_takeTwo 46 = .ok (.iconst 3, 1) := by decide +kernel
theorem dX11_takeTwo_47 : decode cX11_takeTwo 47 = .ok (.invokevirtual 150, 3) := by decide +kernel
theorem dX11_takeTwo_50 : decode cX11_takeTwo 50 = .ok (.aload_n 0, 1) := by decide +kernel
theorem dX11_takeTwo_51 : decode cX11_takeTwo 51 = .ok (.dup, 1) := by decide +kernel
theorem dX11_takeTwo_52 : decode cX11_takeTwo 52 = .ok (.getfield 141, 3) := by decide +kernel
theorem dX11_takeTwo_55 : decode cX11_takeTwo 55 = .ok (.aload_n 0, 1) := by decide +kernel
theorem dX11_takeTwo_56 : decode cX11_takeTwo 56 = .ok (.getfield 144, 3) := by decide +kernel
theorem dX11_takeTwo_59 : decode cX11_takeTwo 59 = .ok (.ifCond .le 7, 3) := by decide +kernel
theorem dX11_takeTwo_62 : decode cX11_takeTwo 62 = .ok (.iconst 0, 1) := by decide +kernel
theorem dX11_takeTwo_63 : decode cX11_takeTwo 63 = .ok (.goto 4, 3) := by decide +kernel
theorem dX11_takeTwo_66 : decode cX11_takeTwo 66 = .ok (.iconst 1, 1) := by decide +kernel
theorem dX11_takeTwo_67 : decode cX11_takeTwo 67 = .ok (.iadd, 1) := by decide +kernel
theorem dX11_takeTwo_68 : decode cX11_takeTwo 68 = .ok (.putfield 141, 3) := by decide +kernel
theorem dX11_takeTwo_71 : decode cX11_takeTwo 71 = .ok (.aload_n 0, 1) := by decide +kernel
theorem dX11_takeTwo_72 : decode cX11_takeTwo 72 = .ok (.getfield 144, 3) := by decide +kernel
theorem dX11_takeTwo_75 : decode cX11_takeTwo 75 = .ok (.ifCond .le 7, 3) := by decide +kernel
theorem dX11_takeTwo_78 : decode cX11_takeTwo 78 = .ok (.iconst (-1), 1) := by decide +kernel
theorem dX11_takeTwo_79 : decode cX11_takeTwo 79 = .ok (.goto 7, 3) := by decide +kernel
theorem dX11_takeTwo_82 : decode cX11_takeTwo 82 = .ok (.aload_n 0, 1) := by decide +kernel
theorem dX11_takeTwo_83 : decode cX11_takeTwo 83 = .ok (.invokevirtual 209, 3) := by decide +kernel
theorem dX11_takeTwo_86 : decode cX11_takeTwo 86 = .ok (.istore 4, 2) := by decide +kernel
theorem dX11_takeTwo_88 : decode cX11_takeTwo 88 = .ok (.aload_n 0, 1) := by decide +kernel
theorem dX11_takeTwo_89 : decode cX11_takeTwo 89 = .ok (.getfield 144, 3) := by decide +kernel
theorem dX11_takeTwo_92 : decode cX11_takeTwo 92 = .ok (.ifCond .ne 39, 3) := by decide +kernel
theorem dX11_takeTwo_95 : decode cX11_takeTwo 95 = .ok (.iload_n 3, 1) := by decide +kernel
theorem dX11_takeTwo_96 : decode cX11_takeTwo 96 = .ok (.iload 4, 2) := by decide +kernel
theorem dX11_takeTwo_98 : decode cX11_takeTwo 98 = .ok (.if_icmp .eq 28, 3) := by decide +kernel
theorem dX11_takeTwo_101 : decode cX11_takeTwo 101 = .ok (.iload_n 2, 1) := by decide +kernel
theorem dX11_takeTwo_102 : decode cX11_takeTwo 102 = .ok (.ifCond .eq 29, 3) := by decide +kernel
theorem dX11_takeTwo_105 : decode cX11_takeTwo 105 = .ok (.aload_n 0, 1) := by decide +kernel
theorem dX11_takeTwo_106 : decode cX11_takeTwo 106 = .ok (.getfield 69, 3) := by decide +kernel
theorem dX11_takeTwo_109 : decode cX11_takeTwo 109 = .ok (.sipush 1000, 3) := by decide +kernel
theorem dX11_takeTwo_112 : decode cX11_takeTwo 112 = .ok (.iload_n 1, 1) := by decide +kernel
theorem dX11_takeTwo_113 : decode cX11_takeTwo 113 = .ok (.iadd, 1) := by decide +kernel
theorem dX11_takeTwo_114 : decode cX11_takeTwo 114 = .ok (.bipush 6, 2) := by decide +kernel
theorem dX11_takeTwo_116 : decode cX11_takeTwo 116 = .ok (.iload_n 3, 1) := by decide +kernel
theorem dX11_takeTwo_117 : decode cX11_takeTwo 117 = .ok (.imul, 1) := by decide +kernel
theorem dX11_takeTwo_118 : decode cX11_takeTwo 118 = .ok (.iadd, 1) := by decide +kernel
theorem dX11_takeTwo_119 : decode cX11_takeTwo 119 = .ok (.iload 4, 2) := by decide +kernel
theorem dX11_takeTwo_121 : decode cX11_takeTwo 121 = .ok (.iadd, 1) := by decide +kernel
theorem dX11_takeTwo_122 : decode cX11_takeTwo 122 = .ok (.iaload, 1) := by decide +kernel
theorem dX11_takeTwo_123 : decode cX11_takeTwo 123 = .ok (.ifCond .le 8, 3) := by decide +kernel
theorem dX11_takeTwo_126 : decode cX11_takeTwo 126 = .ok (.aload_n 0, 1) := by decide +kernel
theorem dX11_takeTwo_127 : decode cX11_takeTwo 127 = .ok (.iconst 3, 1) := by decide +kernel
theorem dX11_takeTwo_128 : decode cX11_takeTwo 128 = .ok (.invokevirtual 150, 3) := by decide +kernel
theorem dX11_takeTwo_131 : decode cX11_takeTwo 131 = .ok (.aload_n 0, 1) := by decide +kernel
theorem dX11_takeTwo_132 : decode cX11_takeTwo 132 = .ok (.dup, 1) := by decide +kernel
theorem dX11_takeTwo_133 : decode cX11_takeTwo 133 = .ok (.getfield 141, 3) := by decide +kernel
theorem dX11_takeTwo_136 : decode cX11_takeTwo 136 = .ok (.aload_n 0, 1) := by decide +kernel
theorem dX11_takeTwo_137 : decode cX11_takeTwo 137 = .ok (.getfield 144, 3) := by decide +kernel
theorem dX11_takeTwo_140 : decode cX11_takeTwo 140 = .ok (.ifCond .le 7, 3) := by decide +kernel
theorem dX11_takeTwo_143 : decode cX11_takeTwo 143 = .ok (.iconst 0, 1) := by decide +kernel
theorem dX11_takeTwo_144 : decode cX11_takeTwo 144 = .ok (.goto 4, 3) := by decide +kernel
theorem dX11_takeTwo_147 : decode cX11_takeTwo 147 = .ok (.iconst 1, 1) := by decide +kernel
theorem dX11_takeTwo_148 : decode cX11_takeTwo 148 = .ok (.iadd, 1) := by decide +kernel
theorem dX11_takeTwo_149 : decode cX11_takeTwo 149 = .ok (.putfield 141, 3) := by decide +kernel
theorem dX11_takeTwo_152 : decode cX11_takeTwo 152 = .ok (.bipush 6, 2) := by decide +kernel
theorem dX11_takeTwo_154 : decode cX11_takeTwo 154 = .ok (.iload_n 3, 1) := by decide +kernel
theorem dX11_takeTwo_155 : decode cX11_takeTwo 155 = .ok (.imul, 1) := by decide +kernel
theorem dX11_takeTwo_156 : decode cX11_takeTwo 156 = .ok (.iload 4, 2) := by decide +kernel
theorem dX11_takeTwo_158 : decode cX11_takeTwo 158 = .ok (.iadd, 1) := by decide +kernel
theorem dX11_takeTwo_159 : decode cX11_takeTwo 159 = .ok (.ireturn, 1) := by decide +kernel
theorem dX11_readPair_0 : decode cX11_readPair 0 = .ok (.aload_n 0, 1) := by decide +kernel
theorem dX11_readPair_1 : decode cX11_readPair 1 = .ok (.iconst 4, 1) := by decide +kernel
theorem dX11_readPair_2 : decode cX11_readPair 2 = .ok (.invokevirtual 154, 3) := by decide +kernel
theorem dX11_readPair_5 : decode cX11_readPair 5 = .ok (.istore_n 1, 1) := by decide +kernel
theorem dX11_readPair_6 : decode cX11_readPair 6 = .ok (.iload_n 1, 1) := by decide +kernel
theorem dX11_readPair_7 : decode cX11_readPair 7 = .ok (.ifCond .eq 8, 3) := by decide +kernel
theorem dX11_readPair_10 : decode cX11_readPair 10 = .ok (.bipush 74, 2) := by decide +kernel
theorem dX11_readPair_12 : decode cX11_readPair 12 = .ok (.goto 5, 3) := by decide +kernel
theorem dX11_readPair_15 : decode cX11_readPair 15 = .ok (.bipush 110, 2) := by decide +kernel
theorem dX11_readPair_17 : decode cX11_readPair 17 = .ok (.istore_n 2, 1) := by decide +kernel
theorem dX11_readPair_18 : decode cX11_readPair 18 = .ok (.aload_n 0, 1) := by decide +kernel
theorem dX11_readPair_19 : decode cX11_readPair 19 = .ok (.iload_n 2, 1) := by decide +kernel
theorem dX11_readPair_20 : decode cX11_readPair 20 = .ok (.iconst 1, 1) := by decide +kernel
theorem dX11_readPair_21 : decode cX11_readPair 21 = .ok (.invokevirtual 213, 3) := by decide +kernel
theorem dX11_readPair_24 : decode cX11_readPair 24 = .ok (.istore_n 3, 1) := by decide +kernel
theorem dX11_readPair_25 : decode cX11_readPair 25 = .ok (.iload_n 1, 1) := by decide +kernel
theorem dX11_readPair_26 : decode cX11_readPair 26 = .ok (.ifCond .eq 15, 3) := by decide +kernel
theorem dX11_readPair_29 : decode cX11_readPair 29 = .ok (.iconst 1, 1) := by decide +kernel
theorem dX11_readPair_30 : decode cX11_readPair 30 = .ok (.aload_n 0, 1) := by decide +kernel
theorem dX11_readPair_31 : decode cX11_readPair 31 = .ok (.iconst 0, 1) := by decide +kernel
theorem dX11_readPair_32 : decode cX11_readPair 32 = .ok (.bipush 99, 2) := by decide +kernel
theorem dX11_readPair_34 : decode cX11_readPair 34 = .ok (.invokevirtual 163, 3) := by decide +kernel
theorem dX11_readPair_37 : decode cX11_readPair 37 = .ok (.iadd, 1) := by decide +kernel
theorem dX11_readPair_38 : decode cX11_readPair 38 = .ok (.goto 4, 3) := by decide +kernel
theorem dX11_readPair_41 : decode cX11_readPair 41 = .ok (.iconst 1, 1) := by decide +kernel
theorem dX11_readPair_42 : decode cX11_readPair 42 = .ok (.istore 4, 2) := by decide +kernel
theorem dX11_readPair_44 : decode cX11_readPair 44 = .ok (.aload_n 0, 1) := by decide +kernel
theorem dX11_readPair_45 : decode cX11_readPair 45 = .ok (.getfield 144, 3) := by decide +kernel
theorem dX11_readPair_48 : decode cX11_readPair 48 = .ok (.ifCond .ne 42, 3) := by decide +kernel
theorem dX11_readPair_51 : decode cX11_readPair 51 = .ok (.aload_n 0, 1) := by decide +kernel
theorem dX11_readPair_52 : decode cX11_readPair 52 = .ok (.getfield 69, 3) := by decide +kernel
theorem dX11_readPair_55 : decode cX11_readPair 55 = .ok (.sipush 1000, 3) := by decide +kernel
theorem dX11_readPair_58 : decode cX11_readPair 58 = .ok (.iload_n 2, 1) := by decide +kernel
theorem dX11_readPair_59 : decode cX11_readPair 59 = .ok (.iadd, 1) := by decide +kernel
theorem dX11_readPair_60 : decode cX11_readPair 60 = .ok (.iload_n 3, 1) := by decide +kernel
theorem dX11_readPair_61 : decode cX11_readPair 61 = .ok (.iadd, 1) := by decide +kernel
theorem dX11_readPair_62 : decode cX11_readPair 62 = .ok (.iload 4, 2) := by decide +kernel
theorem dX11_readPair_64 : decode cX11_readPair 64 = .ok (.iastore, 1) := by decide +kernel
theorem dX11_readPair_65 : decode cX11_readPair 65 = .ok (.aload_n 0, 1) := by decide +kernel
theorem dX11_readPair_66 : decode cX11_readPair 66 = .ok (.getfield 69, 3) := by decide +kernel
theorem dX11_readPair_69 : decode cX11_readPair 69 = .ok (.sipush 1000, 3) := by decide +kernel
theorem dX11_readPair_72 : decode cX11_readPair 72 = .ok (.iload_n 2, 1) := by decide +kernel
theorem dX11_readPair_73 : decode cX11_readPair 73 = .ok (.iadd, 1) := by decide +kernel
theorem dX11_readPair_74 : decode cX11_readPair 74 = .ok (.bipush 6, 2) := by decide +kernel
theorem dX11_readPair_76 : decode cX11_readPair 76 = .ok (.iload_n 3, 1) := by decide +kernel
theorem dX11_readPair_77 : decode cX11_readPair 77 = .ok (.bipush 6, 2) := by decide +kernel
theorem dX11_readPair_79 : decode cX11_readPair 79 = .ok (.irem, 1) := by decide +kernel
theorem dX11_readPair_80 : decode cX11_readPair 80 = .ok (.imul, 1) := by decide +kernel
theorem dX11_readPair_81 : decode cX11_readPair 81 = .ok (.iadd, 1) := by decide +kernel
theorem dX11_readPair_82 : decode cX11_readPair 82 = .ok (.iload_n 3, 1) := by decide +kernel
theorem dX11_readPair_83 : decode cX11_readPair 83 = .ok (.bipush 6, 2) := by decide +kernel
theorem dX11_readPair_85 : decode cX11_readPair 85 = .ok (.idiv, 1) := by decide +kernel
theorem dX11_readPair_86 : decode cX11_readPair 86 = .ok (.iadd, 1) := by decide +kernel
theorem dX11_readPair_87 : decode cX11_readPair 87 = .ok (.iload 4, 2) := by decide +kernel
theorem dX11_readPair_89 : decode cX11_readPair 89 = .ok (.iastore, 1) := by decide +kernel
theorem dX11_readPair_90 : decode cX11_readPair 90 = .ok (.return_, 1) := by decide +kernel
theorem dX11_readShare_0 : decode cX11_readShare 0 = .ok (.aload_n 0, 1) := by decide +kernel
theorem dX11_readShare_1 : decode cX11_readShare 1 = .ok (.iconst (-1), 1) := by decide +kernel
theorem dX11_readShare_2 : decode cX11_readShare 2 = .ok (.iconst 0, 1) := by decide +kernel
theorem dX11_readShare_3 : decode cX11_readShare 3 = .ok (.invokevirtual 213, 3) := by decide +kernel
theorem dX11_readShare_6 : decode cX11_readShare 6 = .ok (.istore_n 1, 1) := by decide +kernel
theorem dX11_readShare_7 : decode cX11_readShare 7 = .ok (.aload_n 0, 1) := by decide +kernel
theorem dX11_readShare_8 : decode cX11_readShare 8 = .ok (.getfield 144, 3) := by decide +kernel
theorem dX11_readShare_11 : decode cX11_readShare 11 = .ok (.ifCond .ne 28, 3) := by decide +kernel
theorem dX11_readShare_14 : decode cX11_readShare 14 = .ok (.aload_n 0, 1) := by decide +kernel
theorem dX11_readShare_15 : decode cX11_readShare 15 = .ok (.getfield 69, 3) := by decide +kernel
theorem dX11_readShare_18 : decode cX11_readShare 18 = .ok (.sipush 1008, 3) := by decide +kernel
theorem dX11_readShare_21 : decode cX11_readShare 21 = .ok (.bipush 7, 2) := by decide +kernel
theorem dX11_readShare_23 : decode cX11_readShare 23 = .ok (.iload_n 1, 1) := by decide +kernel
theorem dX11_readShare_24 : decode cX11_readShare 24 = .ok (.bipush 6, 2) := by decide +kernel
theorem dX11_readShare_26 : decode cX11_readShare 26 = .ok (.idiv, 1) := by decide +kernel
theorem dX11_readShare_27 : decode cX11_readShare 27 = .ok (.imul, 1) := by decide +kernel
theorem dX11_readShare_28 : decode cX11_readShare 28 = .ok (.iadd, 1) := by decide +kernel
theorem dX11_readShare_29 : decode cX11_readShare 29 = .ok (.bipush 6, 2) := by decide +kernel
theorem dX11_readShare_31 : decode cX11_readShare 31 = .ok (.iadd, 1) := by decide +kernel
theorem dX11_readShare_32 : decode cX11_readShare 32 = .ok (.iconst 1, 1) := by decide +kernel
theorem dX11_readShare_33 : decode cX11_readShare 33 = .ok (.iload_n 1, 1) := by decide +kernel
theorem dX11_readShare_34 : decode cX11_readShare 34 = .ok (.bipush 6, 2) := by decide +kernel
theorem dX11_readShare_36 : decode cX11_readShare 36 = .ok (.irem, 1) := by decide +kernel
theorem dX11_readShare_37 : decode cX11_readShare 37 = .ok (.iadd, 1) := by decide +kernel
theorem dX11_readShare_38 : decode cX11_readShare 38 = .ok (.iastore, 1) := by decide +kernel
theorem dX11_readShare_39 : decode cX11_readShare 39 = .ok (.return_, 1) := by decide +kernel
theorem dX11_readTooth_0 : decode cX11_readTooth 0 = .ok (.aload_n 0, 1) := by decide +kernel
theorem dX11_readTooth_1 : decode cX11_readTooth 1 = .ok (.dup, 1) := by decide +kernel
theorem dX11_readTooth_2 : decode cX11_readTooth 2 = .ok (.getfield 141, 3) := by decide +kernel
theorem dX11_readTooth_5 : decode cX11_readTooth 5 = .ok (.iconst 1, 1) := by decide +kernel
theorem dX11_readTooth_6 : decode cX11_readTooth 6 = .ok (.iadd, 1) := by decide +kernel
theorem dX11_readTooth_7 : decode cX11_readTooth 7 = .ok (.putfield 141, 3) := by decide +kernel
theorem dX11_readTooth_10 : decode cX11_readTooth 10 = .ok (.aload_n 0, 1) := by decide +kernel
theorem dX11_readTooth_11 : decode cX11_readTooth 11 = .ok (.invokevirtual 209, 3) := by decide +kernel
theorem dX11_readTooth_14 : decode cX11_readTooth 14 = .ok (.istore_n 1, 1) := by decide +kernel
theorem dX11_readTooth_15 : decode cX11_readTooth 15 = .ok (.aload_n 0, 1) := by decide +kernel
theorem dX11_readTooth_16 : decode cX11_readTooth 16 = .ok (.getfield 144, 3) := by decide +kernel
theorem dX11_readTooth_19 : decode cX11_readTooth 19 = .ok (.ifCond .ne 20, 3) := by decide +kernel
theorem dX11_readTooth_22 : decode cX11_readTooth 22 = .ok (.aload_n 0, 1) := by decide +kernel
theorem dX11_readTooth_23 : decode cX11_readTooth 23 = .ok (.getfield 173, 3) := by decide +kernel
theorem dX11_readTooth_26 : decode cX11_readTooth 26 = .ok (.iload_n 1, 1) := by decide +kernel
theorem dX11_readTooth_27 : decode cX11_readTooth 27 = .ok (.ishr, 1) := by decide +kernel
theorem dX11_readTooth_28 : decode cX11_readTooth 28 = .ok (.iconst 1, 1) := by decide +kernel
theorem dX11_readTooth_29 : decode cX11_readTooth 29 = .ok (.iand, 1) := by decide +kernel
theorem dX11_readTooth_30 : decode cX11_readTooth 30 = .ok (.iconst 1, 1) := by decide +kernel
theorem dX11_readTooth_31 : decode cX11_readTooth 31 = .ok (.if_icmp .ne 8, 3) := by decide +kernel
theorem dX11_readTooth_34 : decode cX11_readTooth 34 = .ok (.aload_n 0, 1) := by decide +kernel
theorem dX11_readTooth_35 : decode cX11_readTooth 35 = .ok (.iconst 3, 1) := by decide +kernel
theorem dX11_readTooth_36 : decode cX11_readTooth 36 = .ok (.invokevirtual 150, 3) := by decide +kernel
theorem dX11_readTooth_39 : decode cX11_readTooth 39 = .ok (.aload_n 0, 1) := by decide +kernel
theorem dX11_readTooth_40 : decode cX11_readTooth 40 = .ok (.dup, 1) := by decide +kernel
theorem dX11_readTooth_41 : decode cX11_readTooth 41 = .ok (.getfield 141, 3) := by decide +kernel
theorem dX11_readTooth_44 : decode cX11_readTooth 44 = .ok (.aload_n 0, 1) := by decide +kernel
theorem dX11_readTooth_45 : decode cX11_readTooth 45 = .ok (.getfield 144, 3) := by decide +kernel
theorem dX11_readTooth_48 : decode cX11_readTooth 48 = .ok (.ifCond .le 7, 3) := by decide +kernel
theorem dX11_readTooth_51 : decode cX11_readTooth 51 = .ok (.iconst 0, 1) := by decide +kernel
theorem dX11_readTooth_52 : decode cX11_readTooth 52 = .ok (.goto 4, 3) := by decide +kernel
theorem dX11_readTooth_55 : decode cX11_readTooth 55 = .ok (.iconst 1, 1) := by decide +kernel
theorem dX11_readTooth_56 : decode cX11_readTooth 56 = .ok (.iadd, 1) := by decide +kernel
theorem dX11_readTooth_57 : decode cX11_readTooth 57 = .ok (.putfield 141, 3) := by decide +kernel
theorem dX11_readTooth_60 : decode cX11_readTooth 60 = .ok (.iconst 0, 1) := by decide +kernel
theorem dX11_readTooth_61 : decode cX11_readTooth 61 = .ok (.istore_n 2, 1) := by decide +kernel
theorem dX11_readTooth_62 : decode cX11_readTooth 62 = .ok (.iconst 0, 1) := by decide +kernel
theorem dX11_readTooth_63 : decode cX11_readTooth 63 = .ok (.istore_n 3, 1) := by decide +kernel
theorem dX11_readTooth_64 : decode cX11_readTooth 64 = .ok (.iload_n 3, 1) := by decide +kernel
theorem dX11_readTooth_65 : decode cX11_readTooth 65 = .ok (.iconst 4, 1) := by decide +kernel
theorem dX11_readTooth_66 : decode cX11_readTooth 66 = .ok (.if_icmp .ge 95, 3) := by decide +kernel
theorem dX11_readTooth_69 : decode cX11_readTooth 69 = .ok (.aload_n 0, 1) := by decide +kernel
theorem dX11_readTooth_70 : decode cX11_readTooth 70 = .ok (.getfield 144, 3) := by decide +kernel
theorem dX11_readTooth_73 : decode cX11_readTooth 73 = .ok (.ifCond .ne 88, 3) := by decide +kernel
theorem dX11_readTooth_76 : decode cX11_readTooth 76 = .ok (.iload_n 3, 1) := by decide +kernel
theorem dX11_readTooth_77 : decode cX11_readTooth 77 = .ok (.iconst 3, 1) := by decide +kernel
theorem dX11_readTooth_78 : decode cX11_readTooth 78 = .ok (.if_icmp .ne 39, 3) := by decide +kernel
theorem dX11_readTooth_81 : decode cX11_readTooth 81 = .ok (.iload_n 2, 1) := by decide +kernel
theorem dX11_readTooth_82 : decode cX11_readTooth 82 = .ok (.ifCond .ne 35, 3) := by decide +kernel
theorem dX11_readTooth_85 : decode cX11_readTooth 85 = .ok (.aload_n 0, 1) := by decide +kernel
theorem dX11_readTooth_86 : decode cX11_readTooth 86 = .ok (.getfield 24, 3) := by decide +kernel
theorem dX11_readTooth_89 : decode cX11_readTooth 89 = .ok (.aload_n 0, 1) := by decide +kernel
theorem dX11_readTooth_90 : decode cX11_readTooth 90 = .ok (.getfield 141, 3) := by decide +kernel
theorem dX11_readTooth_93 : decode cX11_readTooth 93 = .ok (.iaload, 1) := by decide +kernel
theorem dX11_readTooth_94 : decode cX11_readTooth 94 = .ok (.iconst 2, 1) := by decide +kernel
theorem dX11_readTooth_95 : decode cX11_readTooth 95 = .ok (.if_icmp .ne 22, 3) := by decide +kernel
theorem dX11_readTooth_98 : decode cX11_readTooth 98 = .ok (.aload_n 0, 1) := by decide +kernel
theorem dX11_readTooth_99 : decode cX11_readTooth 99 = .ok (.getfield 30, 3) := by decide +kernel
theorem dX11_readTooth_102 : decode cX11_readTooth 102 = .ok (.aload_n 0, 1) := by decide +kernel
theorem dX11_readTooth_103 : decode cX11_readTooth 103 = .ok (.getfield 141, 3) := by decide +kernel
theorem dX11_readTooth_106 : decode cX11_readTooth 106 = .ok (.laload, 1) := by decide +kernel
theorem dX11_readTooth_107 : decode cX11_readTooth 107 = .ok (.lconst 0, 1) := by decide +kernel
theorem dX11_readTooth_108 : decode cX11_readTooth 108 = .ok (.lcmp, 1) := by decide +kernel
theorem dX11_readTooth_109 : decode cX11_readTooth 109 = .ok (.ifCond .ne 8, 3) := by decide +kernel
theorem dX11_readTooth_112 : decode cX11_readTooth 112 = .ok (.aload_n 0, 1) := by decide +kernel
theorem dX11_readTooth_113 : decode cX11_readTooth 113 = .ok (.iconst 4, 1) := by decide +kernel
theorem dX11_readTooth_114 : decode cX11_readTooth 114 = .ok (.invokevirtual 150, 3) := by decide +kernel
theorem dX11_readTooth_117 : decode cX11_readTooth 117 = .ok (.aload_n 0, 1) := by decide +kernel
theorem dX11_readTooth_118 : decode cX11_readTooth 118 = .ok (.getfield 69, 3) := by decide +kernel
theorem dX11_readTooth_121 : decode cX11_readTooth 121 = .ok (.sipush 1050, 3) := by decide +kernel
theorem dX11_readTooth_124 : decode cX11_readTooth 124 = .ok (.iconst 4, 1) := by decide +kernel
theorem dX11_readTooth_125 : decode cX11_readTooth 125 = .ok (.iload_n 1, 1) := by decide +kernel
theorem dX11_readTooth_126 : decode cX11_readTooth 126 = .ok (.imul, 1) := by decide +kernel
theorem dX11_readTooth_127 : decode cX11_readTooth 127 = .ok (.iadd, 1) := by decide +kernel
theorem dX11_readTooth_128 : decode cX11_readTooth 128 = .ok (.iload_n 3, 1) := by decide +kernel
theorem dX11_readTooth_129 : decode cX11_readTooth 129 = .ok (.iadd, 1) := by decide +kernel
theorem dX11_readTooth_130 : decode cX11_readTooth 130 = .ok (.aload_n 0, 1) := by decide +kernel
theorem dX11_readTooth_131 : decode cX11_readTooth 131 = .ok (.iconst 0, 1) := by decide +kernel
theorem dX11_readTooth_132 : decode cX11_readTooth 132 = .ok (.bipush 9, 2) := by decide +kernel
theorem dX11_readTooth_134 : decode cX11_readTooth 134 = .ok (.invokevirtual 163, 3) := by decide +kernel
theorem dX11_readTooth_137 : decode cX11_readTooth 137 = .ok (.iastore, 1) := by decide +kernel
theorem dX11_readTooth_138 : decode cX11_readTooth 138 = .ok (.iload_n 2, 1) := by decide +kernel
theorem dX11_readTooth_139 : decode cX11_readTooth 139 = .ok (.aload_n 0, 1) := by decide +kernel
theorem dX11_readTooth_140 : decode cX11_readTooth 140 = .ok (.getfield 69, 3) := by decide +kernel
theorem dX11_readTooth_143 : decode cX11_readTooth 143 = .ok (.sipush 1050, 3) := by decide +kernel
theorem dX11_readTooth_146 : decode cX11_readTooth 146 = .ok (.iconst 4, 1) := by decide +kernel
theorem dX11_readTooth_147 : decode cX11_readTooth 147 = .ok (.iload_n 1, 1) := by decide +kernel
theorem dX11_readTooth_148 : decode cX11_readTooth 148 = .ok (.imul, 1) := by decide +kernel
theorem dX11_readTooth_149 : decode cX11_readTooth 149 = .ok (.iadd, 1) := by decide +kernel
theorem dX11_readTooth_150 : decode cX11_readTooth 150 = .ok (.iload_n 3, 1) := by decide +kernel
theorem dX11_readTooth_151 : decode cX11_readTooth 151 = .ok (.iadd, 1) := by decide +kernel
theorem dX11_readTooth_152 : decode cX11_readTooth 152 = .ok (.iaload, 1) := by decide +kernel
theorem dX11_readTooth_153 : decode cX11_readTooth 153 = .ok (.iadd, 1) := by decide +kernel
theorem dX11_readTooth_154 : decode cX11_readTooth 154 = .ok (.istore_n 2, 1) := by decide +kernel
theorem dX11_readTooth_155 : decode cX11_readTooth 155 = .ok (.iinc 3 1, 3) := by decide +kernel
theorem dX11_readTooth_158 : decode cX11_readTooth 158 = .ok (.goto (-94), 3) := by decide +kernel
theorem dX11_readTooth_161 : decode cX11_readTooth 161 = .ok (.aload_n 0, 1) := by decide +kernel
theorem dX11_readTooth_162 : decode cX11_readTooth 162 = .ok (.dup, 1) := by decide +kernel
theorem dX11_readTooth_163 : decode cX11_readTooth 163 = .ok (.getfield 173, 3) := by decide +kernel
theorem dX11_readTooth_166 : decode cX11_readTooth 166 = .ok (.aload_n 0, 1) := by decide +kernel
theorem dX11_readTooth_167 : decode cX11_readTooth 167 = .ok (.getfield 144, 3) := by decide +kernel
theorem dX11_readTooth_170 : decode cX11_readTooth 170 = .ok (.ifCond .le 7, 3) := by decide +kernel
theorem dX11_readTooth_173 : decode cX11_readTooth 173 = .ok (.iconst 0, 1) := by decide +kernel
theorem dX11_readTooth_174 : decode cX11_readTooth 174 = .ok (.goto 6, 3) := by decide +kernel
theorem dX11_readTooth_177 : decode cX11_readTooth 177 = .ok (.iconst 1, 1) := by decide +kernel
theorem dX11_readTooth_178 : decode cX11_readTooth 178 = .ok (.iload_n 1, 1) := by decide +kernel
theorem dX11_readTooth_179 : decode cX11_readTooth 179 = .ok (.ishl, 1) := by decide +kernel
theorem dX11_readTooth_180 : decode cX11_readTooth 180 = .ok (.ior, 1) := by decide +kernel
theorem dX11_readTooth_181 : decode cX11_readTooth 181 = .ok (.putfield 173, 3) := by decide +kernel
theorem dX11_readTooth_184 : decode cX11_readTooth 184 = .ok (.return_, 1) := by decide +kernel
theorem dX11_readRule_0 : decode cX11_readRule 0 = .ok (.aload_n 0, 1) := by decide +kernel
theorem dX11_readRule_1 : decode cX11_readRule 1 = .ok (.aload_n 0, 1) := by decide +kernel
theorem dX11_readRule_2 : decode cX11_readRule 2 = .ok (.bipush 8, 2) := by decide +kernel
theorem dX11_readRule_4 : decode cX11_readRule 4 = .ok (.invokevirtual 154, 3) := by decide +kernel
theorem dX11_readRule_7 : decode cX11_readRule 7 = .ok (.putfield 217, 3) := by decide +kernel
theorem dX11_readRule_10 : decode cX11_readRule 10 = .ok (.sipush 1000, 3) := by decide +kernel
theorem dX11_readRule_13 : decode cX11_readRule 13 = .ok (.aload_n 0, 1) := by decide +kernel
theorem dX11_readRule_14 : decode cX11_readRule 14 = .ok (.getfield 217, 3) := by decide +kernel
theorem dX11_readRule_17 : decode cX11_readRule 17 = .ok (.ifCond .eq 7, 3) := by decide +kernel
theorem dX11_readRule_20 : decode cX11_readRule 20 = .ok (.iconst 5, 1) := by decide +kernel
theorem dX11_readRule_21 : decode cX11_readRule 21 = .ok (.goto 5, 3) := by decide +kernel
theorem dX11_readRule_24 : decode cX11_readRule 24 = .ok (.bipush 6, 2) := by decide +kernel
theorem dX11_readRule_26 : decode cX11_readRule 26 = .ok (.iadd, 1) := by decide +kernel
theorem dX11_readRule_27 : decode cX11_readRule 27 = .ok (.istore_n 1, 1) := by decide +kernel
theorem dX11_readRule_28 : decode cX11_readRule 28 = .ok (.aload_n 0, 1) := by decide +kernel
theorem dX11_readRule_29 : decode cX11_readRule 29 = .ok (.getfield 69, 3) := by decide +kernel
theorem dX11_readRule_32 : decode cX11_readRule 32 = .ok (.iload_n 1, 1) := by decide +kernel
theorem dX11_readRule_33 : decode cX11_readRule 33 = .ok (.iaload, 1) := by decide +kernel
theorem dX11_readRule_34 : decode cX11_readRule 34 = .ok (.ifCond .lt 9, 3) := by decide +kernel
theorem dX11_readRule_37 : decode cX11_readRule 37 = .ok (.aload_n 0, 1) := by decide +kernel
theorem dX11_readRule_38 : decode cX11_readRule 38 = .ok (.iconst 3, 1) := by decide +kernel
theorem dX11_readRule_39 : decode cX11_readRule 39 = .ok (.invokevirtual 150, 3) := by decide +kernel
theorem dX11_readRule_42 : decode cX11_readRule 42 = .ok (.return_, 1) := by decide +kernel
theorem dX11_readRule_43 : decode cX11_readRule 43 = .ok (.aload_n 0, 1) := by decide +kernel
theorem dX11_readRule_44 : decode cX11_readRule 44 = .ok (.dup, 1) := by decide +kernel
theorem dX11_readRule_45 : decode cX11_readRule 45 = .ok (.getfield 141, 3) := by decide +kernel
theorem dX11_readRule_48 : decode cX11_readRule 48 = .ok (.iconst 1, 1) := by decide +kernel
theorem dX11_readRule_49 : decode cX11_readRule 49 = .ok (.iadd, 1) := by decide +kernel
theorem dX11_readRule_50 : decode cX11_readRule 50 = .ok (.putfield 141, 3) := by decide +kernel
theorem dX11_readRule_53 : decode cX11_readRule 53 = .ok (.aload_n 0, 1) := by decide +kernel
theorem dX11_readRule_54 : decode cX11_readRule 54 = .ok (.getfield 69, 3) := by decide +kernel
theorem dX11_readRule_57 : decode cX11_readRule 57 = .ok (.iload_n 1, 1) := by decide +kernel
theorem dX11_readRule_58 : decode cX11_readRule 58 = .ok (.aload_n 0, 1) := by decide +kernel
theorem dX11_readRule_59 : decode cX11_readRule 59 = .ok (.getfield 170, 3) := by decide +kernel
theorem dX11_readRule_62 : decode cX11_readRule 62 = .ok (.iastore, 1) := by decide +kernel
theorem dX11_readRule_63 : decode cX11_readRule 63 = .ok (.aload_n 0, 1) := by decide +kernel
theorem dX11_readRule_64 : decode cX11_readRule 64 = .ok (.iconst 0, 1) := by decide +kernel
theorem dX11_readRule_65 : decode cX11_readRule 65 = .ok (.invokevirtual 221, 3) := by decide +kernel
theorem dX11_readRule_68 : decode cX11_readRule 68 = .ok (.aload_n 0, 1) := by decide +kernel
theorem dX11_readRule_69 : decode cX11_readRule 69 = .ok (.iconst 0, 1) := by decide +kernel
theorem dX11_readRule_70 : decode cX11_readRule 70 = .ok (.iconst 0, 1) := by decide +kernel
theorem dX11_readRule_71 : decode cX11_readRule 71 = .ok (.invokevirtual 224, 3) := by decide +kernel
theorem dX11_readRule_74 : decode cX11_readRule 74 = .ok (.return_, 1) := by decide +kernel
theorem dX11_emit_0 : decode cX11_emit 0 = .ok (.aload_n 0, 1) := by decide +kernel
theorem dX11_emit_1 : decode cX11_emit 1 = .ok (.getfield 72, 3) := by decide +kernel
theorem dX11_emit_4 : decode cX11_emit 4 = .ok (.sipush 1100, 3) := by decide +kernel
theorem dX11_emit_7 : decode cX11_emit 7 = .ok (.aload_n 0, 1) := by decide +kernel
theorem dX11_emit_8 : decode cX11_emit 8 = .ok (.getfield 170, 3) := by decide +kernel
theorem dX11_emit_11 : decode cX11_emit 11 = .ok (.iadd, 1) := by decide +kernel
theorem dX11_emit_12 : decode cX11_emit 12 = .ok (.iload_n 1, 1) := by decide +kernel
theorem dX11_emit_13 : decode cX11_emit 13 = .ok (.iastore, 1) := by decide +kernel
theorem dX11_emit_14 : decode cX11_emit 14 = .ok (.aload_n 0, 1) := by decide +kernel
theorem dX11_emit_15 : decode cX11_emit 15 = .ok (.getfield 75, 3) := by decide +kernel
theorem dX11_emit_18 : decode cX11_emit 18 = .ok (.sipush 1100, 3) := by decide +kernel
theorem dX11_emit_21 : decode cX11_emit 21 = .ok (.aload_n 0, 1) := by decide +kernel
theorem dX11_emit_22 : decode cX11_emit 22 = .ok (.getfield 170, 3) := by decide +kernel
theorem dX11_emit_25 : decode cX11_emit 25 = .ok (.iadd, 1) := by decide +kernel
theorem dX11_emit_26 : decode cX11_emit 26 = .ok (.iload_n 2, 1) := by decide +kernel
theorem dX11_emit_27 : decode cX11_emit 27 = .ok (.iastore, 1) := by decide +kernel
theorem dX11_emit_28 : decode cX11_emit 28 = .ok (.aload_n 0, 1) := by decide +kernel
theorem dX11_emit_29 : decode cX11_emit 29 = .ok (.dup, 1) := by decide +kernel
theorem dX11_emit_30 : decode cX11_emit 30 = .ok (.getfield 170, 3) := by decide +kernel
theorem dX11_emit_33 : decode cX11_emit 33 = .ok (.iconst 1, 1) := by decide +kernel
theorem dX11_emit_34 : decode cX11_emit 34 = .ok (.iadd, 1) := by decide +kernel
theorem dX11_emit_35 : decode cX11_emit 35 = .ok (.putfield 170, 3) := by decide +kernel
theorem dX11_emit_38 : decode cX11_emit 38 = .ok (.return_, 1) := by decide +kernel
theorem dX11_all_0 : decode cX11_all 0 = .ok (.aload_n 0, 1) := by decide +kernel
theorem dX11_all_1 : decode cX11_all 1 = .ok (.iload_n 1, 1) := by decide +kernel
theorem dX11_all_2 : decode cX11_all 2 = .ok (.invokevirtual 227, 3) := by decide +kernel
theorem dX11_all_5 : decode cX11_all 5 = .ok (.aload_n 0, 1) := by decide +kernel
theorem dX11_all_6 : decode cX11_all 6 = .ok (.bipush 11, 2) := by decide +kernel
theorem dX11_all_8 : decode cX11_all 8 = .ok (.invokevirtual 154, 3) := by decide +kernel
theorem dX11_all_11 : decode cX11_all 11 = .ok (.ifCond .ne 12, 3) := by decide +kernel
theorem dX11_all_14 : decode cX11_all 14 = .ok (.aload_n 0, 1) := by decide +kernel
theorem dX11_all_15 : decode cX11_all 15 = .ok (.bipush 12, 2) := by decide +kernel
theorem dX11_all_17 : decode cX11_all 17 = .ok (.invokevirtual 154, 3) := by decide +kernel
theorem dX11_all_20 : decode cX11_all 20 = .ok (.ifCond .eq 44, 3) := by decide +kernel
theorem dX11_all_23 : decode cX11_all 23 = .ok (.aload_n 0, 1) := by decide +kernel
theorem dX11_all_24 : decode cX11_all 24 = .ok (.bipush 11, 2) := by decide +kernel
theorem dX11_all_26 : decode cX11_all 26 = .ok (.invokevirtual 154, 3) := by decide +kernel
theorem dX11_all_29 : decode cX11_all 29 = .ok (.istore_n 2, 1) := by decide +kernel
theorem dX11_all_30 : decode cX11_all 30 = .ok (.aload_n 0, 1) := by decide +kernel
theorem dX11_all_31 : decode cX11_all 31 = .ok (.dup, 1) := by decide +kernel
theorem dX11_all_32 : decode cX11_all 32 = .ok (.getfield 141, 3) := by decide +kernel
theorem dX11_all_35 : decode cX11_all 35 = .ok (.iconst 1, 1) := by decide +kernel
theorem dX11_all_36 : decode cX11_all 36 = .ok (.iadd, 1) := by decide +kernel
theorem dX11_all_37 : decode cX11_all 37 = .ok (.putfield 141, 3) := by decide +kernel
theorem dX11_all_40 : decode cX11_all 40 = .ok (.aload_n 0, 1) := by decide +kernel
theorem dX11_all_41 : decode cX11_all 41 = .ok (.iload_n 1, 1) := by decide +kernel
theorem dX11_all_42 : decode cX11_all 42 = .ok (.invokevirtual 227, 3) := by decide +kernel
theorem dX11_all_45 : decode cX11_all 45 = .ok (.aload_n 0, 1) := by decide +kernel
theorem dX11_all_46 : decode cX11_all 46 = .ok (.iload_n 2, 1) := by decide +kernel
theorem dX11_all_47 : decode cX11_all 47 = .ok (.ifCond .eq 8, 3) := by decide +kernel
theorem dX11_all_50 : decode cX11_all 50 = .ok (.bipush 9, 2) := by decide +kernel
theorem dX11_all_52 : decode cX11_all 52 = .ok (.goto 5, 3) := by decide +kernel
theorem dX11_all_55 : decode cX11_all 55 = .ok (.bipush 10, 2) := by decide +kernel
theorem dX11_all_57 : decode cX11_all 57 = .ok (.iconst 0, 1) := by decide +kernel
theorem dX11_all_58 : decode cX11_all 58 = .ok (.invokevirtual 224, 3) := by decide +kernel
theorem dX11_all_61 : decode cX11_all 61 = .ok (.goto (-56), 3) := by decide +kernel
theorem dX11_all_64 : decode cX11_all 64 = .ok (.return_, 1) := by decide +kernel
theorem dX11_test_0 : decode cX11_test 0 = .ok (.aload_n 0, 1) := by decide +kernel
theorem dX11_test_1 : decode cX11_test 1 = .ok (.iload_n 1, 1) := by decide +kernel
theorem dX11_test_2 : decode cX11_test 2 = .ok (.invokevirtual 230, 3) := by decide +kernel
theorem dX11_test_5 : decode cX11_test 5 = .ok (.aload_n 0, 1) := by decide +kernel
theorem dX11_test_6 : decode cX11_test 6 = .ok (.bipush 60, 2) := by decide +kernel
theorem dX11_test_8 : decode cX11_test 8 = .ok (.invokevirtual 147, 3) := by decide +kernel
theorem dX11_test_11 : decode cX11_test 11 = .ok (.istore_n 2, 1) := by decide +kernel
theorem dX11_test_12 : decode cX11_test 12 = .ok (.aload_n 0, 1) := by decide +kernel
theorem dX11_test_13 : decode cX11_test 13 = .ok (.bipush 60, 2) := by decide +kernel
theorem dX11_test_15 : decode cX11_test 15 = .ok (.invokevirtual 233, 3) := by decide +kernel
theorem dX11_test_18 : decode cX11_test 18 = .ok (.ifCond .ne 12, 3) := by decide +kernel
theorem dX11_test_21 : decode cX11_test 21 = .ok (.aload_n 0, 1) := by decide +kernel
theorem dX11_test_22 : decode cX11_test 22 = .ok (.bipush 61, 2) := by decide +kernel
theorem dX11_test_24 : decode cX11_test 24 = .ok (.invokevirtual 233, 3) := by decide +kernel
theorem dX11_test_27 : decode cX11_test 27 = .ok (.ifCond .eq 24, 3) := by decide +kernel
theorem dX11_test_30 : decode cX11_test 30 = .ok (.aload_n 0, 1) := by decide +kernel
theorem dX11_test_31 : decode cX11_test 31 = .ok (.iload_n 1, 1) := by decide +kernel
theorem dX11_test_32 : decode cX11_test 32 = .ok (.invokevirtual 230, 3) := by decide +kernel
theorem dX11_test_35 : decode cX11_test 35 = .ok (.aload_n 0, 1) := by decide +kernel
theorem dX11_test_36 : decode cX11_test 36 = .ok (.iload_n 2, 1) := by decide +kernel
theorem dX11_test_37 : decode cX11_test 37 = .ok (.ifCond .eq 8, 3) := by decide +kernel
theorem dX11_test_40 : decode cX11_test 40 = .ok (.bipush 7, 2) := by decide +kernel
theorem dX11_test_42 : decode cX11_test 42 = .ok (.goto 5, 3) := by decide +kernel
theorem dX11_test_45 : decode cX11_test 45 = .ok (.bipush 8, 2) := by decide +kernel
theorem dX11_test_47 : decode cX11_test 47 = .ok (.iconst 0, 1) := by decide +kernel
theorem dX11_test_48 : decode cX11_test 48 = .ok (.invokevirtual 224, 3) := by decide +kernel
theorem dX11_test_51 : decode cX11_test 51 = .ok (.return_, 1) := by decide +kernel
theorem dX11_sums_0 : decode cX11_sums 0 = .ok (.aload_n 0, 1) := by decide +kernel
theorem dX11_sums_1 : decode cX11_sums 1 = .ok (.iload_n 1, 1) := by decide +kernel
theorem dX11_sums_2 : decode cX11_sums 2 = .ok (.invokevirtual 236, 3) := by decide +kernel
theorem dX11_sums_5 : decode cX11_sums 5 = .ok (.aload_n 0, 1) := by decide +kernel
theorem dX11_sums_6 : decode cX11_sums 6 = .ok (.bipush 43, 2) := by decide +kernel
theorem dX11_sums_8 : decode cX11_sums 8 = .ok (.invokevirtual 147, 3) := by decide +kernel
theorem dX11_sums_11 : decode cX11_sums 11 = .ok (.ifCond .ne 12, 3) := by decide +kernel
theorem dX11_sums_14 : decode cX11_sums 14 = .ok (.aload_n 0, 1) := by decide +kernel
theorem dX11_sums_15 : decode cX11_sums 15 = .ok (.bipush 45, 2) := by decide +kernel
theorem dX11_sums_17 : decode cX11_sums 17 = .ok (.invokevirtual 147, 3) := by decide +kernel
theorem dX11_sums_20 : decode cX11_sums 20 = .ok (.ifCond .eq 42, 3) := by decide +kernel
theorem dX11_sums_23 : decode cX11_sums 23 = .ok (.aload_n 0, 1) := by decide +kernel
theorem dX11_sums_24 : decode cX11_sums 24 = .ok (.bipush 43, 2) := by decide +kernel
theorem dX11_sums_26 : decode cX11_sums 26 = .ok (.invokevirtual 147, 3) := by decide +kernel
theorem dX11_sums_29 : decode cX11_sums 29 = .ok (.istore_n 2, 1) := by decide +kernel
theorem dX11_sums_30 : decode cX11_sums 30 = .ok (.aload_n 0, 1) := by decide +kernel
theorem dX11_sums_31 : decode cX11_sums 31 = .ok (.dup, 1) := by decide +kernel
theorem dX11_sums_32 : decode cX11_sums 32 = .ok (.getfield 141, 3) := by decide +kernel
theorem dX11_sums_35 : decode cX11_sums 35 = .ok (.iconst 1, 1) := by decide +kernel
theorem dX11_sums_36 : decode cX11_sums 36 = .ok (.iadd, 1) := by decide +kernel
theorem dX11_sums_37 : decode cX11_sums 37 = .ok (.putfield 141, 3) := by decide +kernel
theorem dX11_sums_40 : decode cX11_sums 40 = .ok (.aload_n 0, 1) := by decide +kernel
theorem dX11_sums_41 : decode cX11_sums 41 = .ok (.iload_n 1, 1) := by decide +kernel
theorem dX11_sums_42 : decode cX11_sums 42 = .ok (.invokevirtual 236, 3) := by decide +kernel
theorem dX11_sums_45 : decode cX11_sums 45 = .ok (.aload_n 0, 1) := by decide +kernel
theorem dX11_sums_46 : decode cX11_sums 46 = .ok (.iload_n 2, 1) := by decide +kernel
theorem dX11_sums_47 : decode cX11_sums 47 = .ok (.ifCond .eq 7, 3) := by decide +kernel
theorem dX11_sums_50 : decode cX11_sums 50 = .ok (.iconst 4, 1) := by decide +kernel
theorem dX11_sums_51 : decode cX11_sums 51 = .ok (.goto 4, 3) := by decide +kernel
theorem dX11_sums_54 : decode cX11_sums 54 = .ok (.iconst 5, 1) := by decide +kernel
theorem dX11_sums_55 : decode cX11_sums 55 = .ok (.iconst 0, 1) := by decide +kernel
theorem dX11_sums_56 : decode cX11_sums 56 = .ok (.invokevirtual 224, 3) := by decide +kernel
theorem dX11_sums_59 : decode cX11_sums 59 = .ok (.goto (-54), 3) := by decide +kernel
theorem dX11_sums_62 : decode cX11_sums 62 = .ok (.return_, 1) := by decide +kernel
theorem dX11_products_0 : decode cX11_products 0 = .ok (.aload_n 0, 1) := by decide +kernel
theorem dX11_products_1 : decode cX11_products 1 = .ok (.iload_n 1, 1) := by decide +kernel
theorem dX11_products_2 : decode cX11_products 2 = .ok (.invokevirtual 239, 3) := by decide +kernel
theorem dX11_products_5 : decode cX11_products 5 = .ok (.aload_n 0, 1) := by decide +kernel
theorem dX11_products_6 : decode cX11_products 6 = .ok (.bipush 42, 2) := by decide +kernel
theorem dX11_products_8 : decode cX11_products 8 = .ok (.invokevirtual 233, 3) := by decide +kernel
theorem dX11_products_11 : decode cX11_products 11 = .ok (.ifCond .eq 18, 3) := by decide +kernel
theorem dX11_products_14 : decode cX11_products 14 = .ok (.aload_n 0, 1) := by decide +kernel
theorem dX11_products_15 : decode cX11_products 15 = .ok (.iload_n 1, 1) := by decide +kernel
theorem dX11_products_16 : decode cX11_products 16 = .ok (.invokevirtual 239, 3) := by decide +kernel
theorem dX11_products_19 : decode cX11_products 19 = .ok (.aload_n 0, 1) := by decide +kernel
theorem dX11_products_20 : decode cX11_products 20 = .ok (.bipush 6, 2) := by decide +kernel
theorem dX11_products_22 : decode cX11_products 22 = .ok (.iconst 0, 1) := by decide +kernel
theorem dX11_products_23 : decode cX11_products 23 = .ok (.invokevirtual 224, 3) := by decide +kernel
theorem dX11_products_26 : decode cX11_products 26 = .ok (.goto (-21), 3) := by decide +kernel
theorem dX11_products_29 : decode cX11_products 29 = .ok (.return_, 1) := by decide +kernel
theorem dX11_factHere_0 : decode cX11_factHere 0 = .ok (.iconst (-1), 1) := by decide +kernel
theorem dX11_factHere_1 : decode cX11_factHere 1 = .ok (.istore_n 1, 1) := by decide +kernel
theorem dX11_factHere_2 : decode cX11_factHere 2 = .ok (.iconst 0, 1) := by decide +kernel
theorem dX11_factHere_3 : decode cX11_factHere 3 = .ok (.istore_n 2, 1) := by decide +kernel
theorem dX11_factHere_4 : decode cX11_factHere 4 = .ok (.iload_n 2, 1) := by decide +kernel
theorem dX11_factHere_5 : decode cX11_factHere 5 = .ok (.aload_n 0, 1) := by decide +kernel
theorem dX11_factHere_6 : decode cX11_factHere 6 = .ok (.getfield 217, 3) := by decide +kernel
theorem dX11_factHere_9 : decode cX11_factHere 9 = .ok (.ifCond .eq 7, 3) := by decide +kernel
theorem dX11_factHere_12 : decode cX11_factHere 12 = .ok (.iconst 4, 1) := by decide +kernel
theorem dX11_factHere_13 : decode cX11_factHere 13 = .ok (.goto 4, 3) := by decide +kernel
theorem dX11_factHere_16 : decode cX11_factHere 16 = .ok (.iconst 5, 1) := by decide +kernel
theorem dX11_factHere_17 : decode cX11_factHere 17 = .ok (.if_icmp .ge 44, 3) := by decide +kernel
theorem dX11_factHere_20 : decode cX11_factHere 20 = .ok (.aload_n 0, 1) := by decide +kernel
theorem dX11_factHere_21 : decode cX11_factHere 21 = .ok (.aload_n 0, 1) := by decide +kernel
theorem dX11_factHere_22 : decode cX11_factHere 22 = .ok (.getfield 217, 3) := by decide +kernel
theorem dX11_factHere_25 : decode cX11_factHere 25 = .ok (.ifCond .eq 12, 3) := by decide +kernel
theorem dX11_factHere_28 : decode cX11_factHere 28 = .ok (.aload_n 0, 1) := by decide +kernel
theorem dX11_factHere_29 : decode cX11_factHere 29 = .ok (.getfield 81, 3) := by decide +kernel
theorem dX11_factHere_32 : decode cX11_factHere 32 = .ok (.iload_n 2, 1) := by decide +kernel
theorem dX11_factHere_33 : decode cX11_factHere 33 = .ok (.iaload, 1) := by decide +kernel
theorem dX11_factHere_34 : decode cX11_factHere 34 = .ok (.goto 9, 3) := by decide +kernel
theorem dX11_factHere_37 : decode cX11_factHere 37 = .ok (.aload_n 0, 1) := by decide +kernel
theorem dX11_factHere_38 : decode cX11_factHere 38 = .ok (.getfield 84, 3) := by decide +kernel
theorem dX11_factHere_41 : decode cX11_factHere 41 = .ok (.iload_n 2, 1) := by decide +kernel
theorem dX11_factHere_42 : decode cX11_factHere 42 = .ok (.iaload, 1) := by decide +kernel
theorem dX11_factHere_43 : decode cX11_factHere 43 = .ok (.invokevirtual 154, 3) := by decide +kernel
theorem dX11_factHere_46 : decode cX11_factHere 46 = .ok (.ifCond .eq 7, 3) := by decide +kernel
theorem dX11_factHere_49 : decode cX11_factHere 49 = .ok (.iload_n 2, 1) := by decide +kernel
theorem dX11_factHere_50 : decode cX11_factHere 50 = .ok (.goto 4, 3) := by decide +kernel
theorem dX11_factHere_53 : decode cX11_factHere 53 = .ok (.iload_n 1, 1) := by decide +kernel
theorem dX11_factHere_54 : decode cX11_factHere 54 = .ok (.istore_n 1, 1) := by decide +kernel
theorem dX11_factHere_55 : decode cX11_factHere 55 = .ok (.iinc 2 1, 3) := by decide +kernel
theorem dX11_factHere_58 : decode cX11_factHere 58 = .ok (.goto (-54), 3) := by decide +kernel
theorem dX11_factHere_61 : decode cX11_factHere 61 = .ok (.iload_n 1, 1) := by decide +kernel
theorem dX11_factHere_62 : decode cX11_factHere 62 = .ok (.ireturn, 1) := by decide +kernel
theorem dX11_takePart_0 : decode cX11_takePart 0 = .ok (.aload_n 0, 1) := by decide +kernel
theorem dX11_takePart_1 : decode cX11_takePart 1 = .ok (.getfield 144, 3) := by decide +kernel
theorem dX11_takePart_4 : decode cX11_takePart 4 = .ok (.ifCond .le 4, 3) := by decide +kernel
theorem dX11_takePart_7 : decode cX11_takePart 7 = .ok (.return_, 1) := by decide +kernel
theorem dX11_takePart_8 : decode cX11_takePart 8 = .ok (.aload_n 0, 1) := by decide +kernel
theorem dX11_takePart_9 : decode cX11_takePart 9 = .ok (.getfield 24, 3) := by decide +kernel
theorem dX11_takePart_12 : decode cX11_takePart 12 = .ok (.aload_n 0, 1) := by decide +kernel
theorem dX11_takePart_13 : decode cX11_takePart 13 = .ok (.getfield 141, 3) := by decide +kernel
theorem dX11_takePart_16 : decode cX11_takePart 16 = .ok (.iaload, 1) := by decide +kernel
theorem dX11_takePart_17 : decode cX11_takePart 17 = .ok (.iconst 2, 1) := by decide +kernel
theorem dX11_takePart_18 : decode cX11_takePart 18 = .ok (.if_icmp .ne 7, 3) := by decide +kernel
theorem dX11_takePart_21 : decode cX11_takePart 21 = .ok (.iconst 1, 1) := by decide +kernel
theorem dX11_takePart_22 : decode cX11_takePart 22 = .ok (.goto 4, 3) := by decide +kernel
theorem dX11_takePart_25 : decode cX11_takePart 25 = .ok (.iconst 0, 1) := by decide +kernel
theorem dX11_takePart_26 : decode cX11_takePart 26 = .ok (.istore_n 2, 1) := by decide +kernel
theorem dX11_takePart_27 : decode cX11_takePart 27 = .ok (.aload_n 0, 1) := by decide +kernel
theorem dX11_takePart_28 : decode cX11_takePart 28 = .ok (.invokevirtual 242, 3) := by decide +kernel
theorem dX11_takePart_31 : decode cX11_takePart 31 = .ok (.istore_n 3, 1) := by decide +kernel
theorem dX11_takePart_32 : decode cX11_takePart 32 = .ok (.iload_n 3, 1) := by decide +kernel
theorem dX11_takePart_33 : decode cX11_takePart 33 = .ok (.ifCond .ge 33, 3) := by decide +kernel
theorem dX11_takePart_36 : decode cX11_takePart 36 = .ok (.iload_n 2, 1) := by decide +kernel
theorem dX11_takePart_37 : decode cX11_takePart 37 = .ok (.ifCond .ne 29, 3) := by decide +kernel
theorem dX11_takePart_40 : decode cX11_takePart 40 = .ok (.aload_n 0, 1) := by decide +kernel
theorem dX11_takePart_41 : decode cX11_takePart 41 = .ok (.bipush 40, 2) := by decide +kernel
theorem dX11_takePart_43 : decode cX11_takePart 43 = .ok (.invokevirtual 147, 3) := by decide +kernel
theorem dX11_takePart_46 : decode cX11_takePart 46 = .ok (.ifCond .ne 20, 3) := by decide +kernel
theorem dX11_takePart_49 : decode cX11_takePart 49 = .ok (.aload_n 0, 1) := by decide +kernel
theorem dX11_takePart_50 : decode cX11_takePart 50 = .ok (.bipush 10, 2) := by decide +kernel
theorem dX11_takePart_52 : decode cX11_takePart 52 = .ok (.invokevirtual 154, 3) := by decide +kernel
theorem dX11_takePart_55 : decode cX11_takePart 55 = .ok (.ifCond .ne 11, 3) := by decide +kernel
theorem dX11_takePart_58 : decode cX11_takePart 58 = .ok (.aload_n 0, 1) := by decide +kernel
theorem dX11_takePart_59 : decode cX11_takePart 59 = .ok (.iconst 1, 1) := by decide +kernel
theorem dX11_takePart_60 : decode cX11_takePart 60 = .ok (.invokevirtual 150, 3) := by decide +kernel
theorem dX11_takePart_63 : decode cX11_takePart 63 = .ok (.goto 13, 3) := by decide +kernel
theorem dX11_takePart_66 : decode cX11_takePart 66 = .ok (.iload_n 1, 1) := by decide +kernel
theorem dX11_takePart_67 : decode cX11_takePart 67 = .ok (.iconst 5, 1) := by decide +kernel
theorem dX11_takePart_68 : decode cX11_takePart 68 = .ok (.if_icmp .ne 8, 3) := by decide +kernel
theorem dX11_takePart_71 : decode cX11_takePart 71 = .ok (.aload_n 0, 1) := by decide +kernel
theorem dX11_takePart_72 : decode cX11_takePart 72 = .ok (.iconst 5, 1) := by decide +kernel
theorem dX11_takePart_73 : decode cX11_takePart 73 = .ok (.invokevirtual 150, 3) := by decide +kernel
theorem dX11_takePart_76 : decode cX11_takePart 76 = .ok (.aload_n 0, 1) := by decide +kernel
theorem dX11_takePart_77 : decode cX11_takePart 77 = .ok (.getfield 144, 3) := by decide +kernel
theorem dX11_takePart_80 : decode cX11_takePart 80 = .ok (.ifCond .le 4, 3) := by decide +kernel
theorem dX11_takePart_83 : decode cX11_takePart 83 = .ok (.return_, 1) := by decide +kernel
theorem dX11_takePart_84 : decode cX11_takePart 84 = .ok (.aload_n 0, 1) := by decide +kernel
theorem dX11_takePart_85 : decode cX11_takePart 85 = .ok (.bipush 10, 2) := by decide +kernel
theorem dX11_takePart_87 : decode cX11_takePart 87 = .ok (.invokevirtual 157, 3) := by decide +kernel
theorem dX11_takePart_90 : decode cX11_takePart 90 = .ok (.ifCond .eq 19, 3) := by decide +kernel
theorem dX11_takePart_93 : decode cX11_takePart 93 = .ok (.aload_n 0, 1) := by decide +kernel
theorem dX11_takePart_94 : decode cX11_takePart 94 = .ok (.iload_n 1, 1) := by decide +kernel
theorem dX11_takePart_95 : decode cX11_takePart 95 = .ok (.iconst 1, 1) := by decide +kernel
theorem dX11_takePart_96 : decode cX11_takePart 96 = .ok (.iadd, 1) := by decide +kernel
theorem dX11_takePart_97 : decode cX11_takePart 97 = .ok (.invokevirtual 239, 3) := by decide +kernel
theorem dX11_takePart_100 : decode cX11_takePart 100 = .ok (.aload_n 0, 1) := by decide +kernel
theorem dX11_takePart_101 : decode cX11_takePart 101 = .ok (.iconst 3, 1) := by decide +kernel
theorem dX11_takePart_102 : decode cX11_takePart 102 = .ok (.iconst 0, 1) := by decide +kernel
theorem dX11_takePart_103 : decode cX11_takePart 103 = .ok (.invokevirtual 224, 3) := by decide +kernel
theorem dX11_takePart_106 : decode cX11_takePart 106 = .ok (.goto 69, 3) := by decide +kernel
theorem dX11_takePart_109 : decode cX11_takePart 109 = .ok (.aload_n 0, 1) := by decide +kernel
theorem dX11_takePart_110 : decode cX11_takePart 110 = .ok (.bipush 40, 2) := by decide +kernel
theorem dX11_takePart_112 : decode cX11_takePart 112 = .ok (.invokevirtual 233, 3) := by decide +kernel
theorem dX11_takePart_115 : decode cX11_takePart 115 = .ok (.ifCond .eq 19, 3) := by decide +kernel
theorem dX11_takePart_118 : decode cX11_takePart 118 = .ok (.aload_n 0, 1) := by decide +kernel
theorem dX11_takePart_119 : decode cX11_takePart 119 = .ok (.iload_n 1, 1) := by decide +kernel
theorem dX11_takePart_120 : decode cX11_takePart 120 = .ok (.iconst 1, 1) := by decide +kernel
theorem dX11_takePart_121 : decode cX11_takePart 121 = .ok (.iadd, 1) := by decide +kernel
theorem dX11_takePart_122 : decode cX11_takePart 122 = .ok (.invokevirtual 221, 3) := by decide +kernel
theorem dX11_takePart_125 : decode cX11_takePart 125 = .ok (.aload_n 0, 1) := by decide +kernel
theorem dX11_takePart_126 : decode cX11_takePart 126 = .ok (.bipush 41, 2) := by decide +kernel
theorem dX11_takePart_128 : decode cX11_takePart 128 = .ok (.invokevirtual 179, 3) := by decide +kernel
theorem dX11_takePart_131 : decode cX11_takePart 131 = .ok (.goto 44, 3) := by decide +kernel
theorem dX11_takePart_134 : decode cX11_takePart 134 = .ok (.aload_n 0, 1) := by decide +kernel
theorem dX11_takePart_135 : decode cX11_takePart 135 = .ok (.iload_n 2, 1) := by decide +kernel
theorem dX11_takePart_136 : decode cX11_takePart 136 = .ok (.ifCond .eq 7, 3) := by decide +kernel
theorem dX11_takePart_139 : decode cX11_takePart 139 = .ok (.iconst 1, 1) := by decide +kernel
theorem dX11_takePart_140 : decode cX11_takePart 140 = .ok (.goto 4, 3) := by decide +kernel
theorem dX11_takePart_143 : decode cX11_takePart 143 = .ok (.iconst 2, 1) := by decide +kernel
theorem dX11_takePart_144 : decode cX11_takePart 144 = .ok (.iload_n 2, 1) := by decide +kernel
theorem dX11_takePart_145 : decode cX11_takePart 145 = .ok (.ifCond .eq 16, 3) := by decide +kernel
theorem dX11_takePart_148 : decode cX11_takePart 148 = .ok (.aload_n 0, 1) := by decide +kernel
theorem dX11_takePart_149 : decode cX11_takePart 149 = .ok (.getfield 30, 3) := by decide +kernel
theorem dX11_takePart_152 : decode cX11_takePart 152 = .ok (.aload_n 0, 1) := by decide +kernel
theorem dX11_takePart_153 : decode cX11_takePart 153 = .ok (.getfield 141, 3) := by decide +kernel
theorem dX11_takePart_156 : decode cX11_takePart 156 = .ok (.laload, 1) := by decide +kernel
theorem dX11_takePart_157 : decode cX11_takePart 157 = .ok (.l2i, 1) := by decide +kernel
theorem dX11_takePart_158 : decode cX11_takePart 158 = .ok (.goto 4, 3) := by decide +kernel
theorem dX11_takePart_161 : decode cX11_takePart 161 = .ok (.iload_n 3, 1) := by decide +kernel
theorem dX11_takePart_162 : decode cX11_takePart 162 = .ok (.invokevirtual 224, 3) := by decide +kernel
theorem dX11_takePart_165 : decode cX11_takePart 165 = .ok (.aload_n 0, 1) := by decide +kernel
theorem dX11_takePart_166 : decode cX11_takePart 166 = .ok (.dup, 1) := by decide +kernel
theorem dX11_takePart_167 : decode cX11_takePart 167 = .ok (.getfield 141, 3) := by decide +kernel
theorem dX11_takePart_170 : decode cX11_takePart 170 = .ok (.iconst 1, 1) := by decide +kernel
theorem dX11_takePart_171 : decode cX11_takePart 171 = .ok (.iadd, 1) := by decide +kernel
theorem dX11_takePart_172 : decode cX11_takePart 172 = .ok (.putfield 141, 3) := by decide +kernel
theorem dX11_takePart_175 : decode cX11_takePart 175 = .ok (.return_, 1) := by decide +kernel
theorem dX11_worthAt_0 : decode cX11_worthAt 0 = .ok (.iconst 0, 1) := by decide +kernel
theorem dX11_worthAt_1 : decode cX11_worthAt 1 = .ok (.istore_n 2, 1) := by decide +kernel
theorem dX11_worthAt_2 : decode cX11_worthAt 2 = .ok (.iload_n 1, 1) := by decide +kernel
theorem dX11_worthAt_3 : decode cX11_worthAt 3 = .ok (.istore_n 3, 1) := by decide +kernel
theorem dX11_worthAt_4 : decode cX11_worthAt 4 = .ok (.aload_n 0, 1) := by decide +kernel
theorem dX11_worthAt_5 : decode cX11_worthAt 5 = .ok (.getfield 72, 3) := by decide +kernel
theorem dX11_worthAt_8 : decode cX11_worthAt 8 = .ok (.iload_n 3, 1) := by decide +kernel
theorem dX11_worthAt_9 : decode cX11_worthAt 9 = .ok (.iaload, 1) := by decide +kernel
theorem dX11_worthAt_10 : decode cX11_worthAt 10 = .ok (.ifCond .eq 130, 3) := by decide +kernel
theorem dX11_worthAt_13 : decode cX11_worthAt 13 = .ok (.aload_n 0, 1) := by decide +kernel
theorem dX11_worthAt_14 : decode cX11_worthAt 14 = .ok (.getfield 72, 3) := by decide +kernel
theorem dX11_worthAt_17 : decode cX11_worthAt 17 = .ok (.iload_n 3, 1) := by decide +kernel
theorem dX11_worthAt_18 : decode cX11_worthAt 18 = .ok (.iaload, 1) := by decide +kernel
theorem dX11_worthAt_19 : decode cX11_worthAt 19 = .ok (.istore 4, 2) := by decide +kernel
theorem dX11_worthAt_21 : decode cX11_worthAt 21 = .ok (.iload 4, 2) := by decide +kernel
theorem dX11_worthAt_23 : decode cX11_worthAt 23 = .ok (.iconst 1, 1) := by decide +kernel
theorem dX11_worthAt_24 : decode cX11_worthAt 24 = .ok (.if_icmp .eq 9, 3) := by decide +kernel
theorem dX11_worthAt_27 : decode cX11_worthAt 27 = .ok (.iload 4, 2) := by decide +kernel
theorem dX11_worthAt_29 : decode cX11_worthAt 29 = .ok (.iconst 2, 1) := by decide +kernel
theorem dX11_worthAt_30 : decode cX11_worthAt 30 = .ok (.if_icmp .ne 41, 3) := by decide +kernel
theorem dX11_worthAt_33 : decode cX11_worthAt 33 = .ok (.aload_n 0, 1) := by decide +kernel
theorem dX11_worthAt_34 : decode cX11_worthAt 34 = .ok (.getfield 90, 3) := by decide +kernel
theorem dX11_worthAt_37 : decode cX11_worthAt 37 = .ok (.iload_n 2, 1) := by decide +kernel
theorem dX11_worthAt_38 : decode cX11_worthAt 38 = .ok (.iload 4, 2) := by decide +kernel
theorem dX11_worthAt_40 : decode cX11_worthAt 40 = .ok (.iconst 1, 1) := by decide +kernel
theorem dX11_worthAt_41 : decode cX11_worthAt 41 = .ok (.if_icmp .ne 12, 3) := by decide +kernel
theorem dX11_worthAt_44 : decode cX11_worthAt 44 = .ok (.aload_n 0, 1) := by decide +kernel
theorem dX11_worthAt_45 : decode cX11_worthAt 45 = .ok (.getfield 75, 3) := by decide +kernel
theorem dX11_worthAt_48 : decode cX11_worthAt 48 = .ok (.iload_n 3, 1) := by decide +kernel
theorem dX11_worthAt_49 : decode cX11_worthAt 49 = .ok (.iaload, 1) := by decide +kernel
theorem dX11_worthAt_50 : decode cX11_worthAt 50 = .ok (.goto 14, 3) := by decide +kernel
theorem dX11_worthAt_53 : decode cX11_worthAt 53 = .ok (.aload_n 0, 1) := by decide +kernel
theorem dX11_worthAt_54 : decode cX11_worthAt 54 = .ok (.getfield 87, 3) := by decide +kernel
theorem dX11_worthAt_57 : decode cX11_worthAt 57 = .ok (.aload_n 0, 1) := by decide +kernel
theorem dX11_worthAt_58 : decode cX11_worthAt 58 = .ok (.getfield 75, 3) := by decide +kernel
theorem dX11_worthAt_61 : decode cX11_worthAt 61 = .ok (.iload_n 3, 1) := by decide +kernel
theorem dX11_worthAt_62 : decode cX11_worthAt 62 = .ok (.iaload, 1) := by decide +kernel
theorem dX11_worthAt_63 : decode cX11_worthAt 63 = .ok (.iaload, 1) := by decide +kernel
theorem dX11_worthAt_64 : decode cX11_worthAt 64 = .ok (.iastore, 1) := by decide +kernel
theorem dX11_worthAt_65 : decode cX11_worthAt 65 = .ok (.iinc 2 1, 3) := by decide +kernel
theorem dX11_worthAt_68 : decode cX11_worthAt 68 = .ok (.goto 66, 3) := by decide +kernel
theorem dX11_worthAt_71 : decode cX11_worthAt 71 = .ok (.iload 4, 2) := by decide +kernel
theorem dX11_worthAt_73 : decode cX11_worthAt 73 = .ok (.iconst 3, 1) := by decide +kernel
theorem dX11_worthAt_74 : decode cX11_worthAt 74 = .ok (.if_icmp .ne 30, 3) := by decide +kernel
theorem dX11_worthAt_77 : decode cX11_worthAt 77 = .ok (.aload_n 0, 1) := by decide +kernel
theorem dX11_worthAt_78 : decode cX11_worthAt 78 = .ok (.getfield 90, 3) := by decide +kernel
theorem dX11_worthAt_81 : decode cX11_worthAt 81 = .ok (.iload_n 2, 1) := by decide +kernel
theorem dX11_worthAt_82 : decode cX11_worthAt 82 = .ok (.iconst 1, 1) := by decide +kernel
theorem dX11_worthAt_83 : decode cX11_worthAt 83 = .ok (.isub, 1) := by decide +kernel
theorem dX11_worthAt_84 : decode cX11_worthAt 84 = .ok (.aload_n 0, 1) := by decide +kernel
theorem dX11_worthAt_85 : decode cX11_worthAt 85 = .ok (.getfield 90, 3) := by decide +kernel
theorem dX11_worthAt_88 : decode cX11_worthAt 88 = .ok (.iload_n 2, 1) := by decide +kernel
theorem dX11_worthAt_89 : decode cX11_worthAt 89 = .ok (.iconst 1, 1) := by decide +kernel
theorem dX11_worthAt_90 : decode cX11_worthAt 90 = .ok (.isub, 1) := by decide +kernel
theorem dX11_worthAt_91 : decode cX11_worthAt 91 = .ok (.iaload, 1) := by decide +kernel
theorem dX11_worthAt_92 : decode cX11_worthAt 92 = .ok (.ifCond .ne 7, 3) := by decide +kernel
theorem dX11_worthAt_95 : decode cX11_worthAt 95 = .ok (.iconst 1, 1) := by decide +kernel
theorem dX11_worthAt_96 : decode cX11_worthAt 96 = .ok (.goto 4, 3) := by decide +kernel
theorem dX11_worthAt_99 : decode cX11_worthAt 99 = .ok (.iconst 0, 1) := by decide +kernel
theorem dX11_worthAt_100 : decode cX11_worthAt 100 = .ok (.iastore, 1) := by decide +kernel
theorem dX11_worthAt_101 : decode cX11_worthAt 101 = .ok (.goto 33, 3) := by decide +kernel
theorem dX11_worthAt_104 : decode cX11_worthAt 104 = .ok (.iinc 2 (-1), 3) := by decide +kernel
theorem dX11_worthAt_107 : decode cX11_worthAt 107 = .ok (.aload_n 0, 1) := by decide +kernel
theorem dX11_worthAt_108 : decode cX11_worthAt 108 = .ok (.getfield 90, 3) := by decide +kernel
theorem dX11_worthAt_111 : decode cX11_worthAt 111 = .ok (.iload_n 2, 1) := by decide +kernel
theorem dX11_worthAt_112 : decode cX11_worthAt 112 = .ok (.iconst 1, 1) := by decide +kernel
theorem dX11_worthAt_113 : decode cX11_worthAt 113 = .ok (.isub, 1) := by decide +kernel
theorem dX11_worthAt_114 : decode cX11_worthAt 114 = .ok (.iload 4, 2) := by decide +kernel
theorem dX11_worthAt_116 : decode cX11_worthAt 116 = .ok (.aload_n 0, 1) := by decide +kernel
theorem dX11_worthAt_117 : decode cX11_worthAt 117 = .ok (.getfield 90, 3) := by decide +kernel
theorem dX11_worthAt_120 : decode cX11_worthAt 120 = .ok (.iload_n 2, 1) := by decide +kernel
theorem dX11_worthAt_121 : decode cX11_worthAt 121 = .ok (.iconst 1, 1) := by decide +kernel
theorem dX11_worthAt_122 : decode cX11_worthAt 122 = .ok (.isub, 1) := by decide +kernel
theorem dX11_worthAt_123 : decode cX11_worthAt 123 = .ok (.iaload, 1) := by decide +kernel
theorem dX11_worthAt_124 : decode cX11_worthAt 124 = .ok (.aload_n 0, 1) := by decide +kernel
theorem dX11_worthAt_125 : decode cX11_worthAt 125 = .ok (.getfield 90, 3) := by decide +kernel
theorem dX11_worthAt_128 : decode cX11_worthAt 128 = .ok (.iload_n 2, 1) := by decide +kernel
theorem dX11_worthAt_129 : decode cX11_worthAt 129 = .ok (.iaload, 1) := by decide +kernel
theorem dX11_worthAt_130 : decode cX11_worthAt 130 = .ok (.invokestatic 245, 3) := by decide +kernel
theorem dX11_worthAt_133 : decode cX11_worthAt 133 = .ok (.iastore, 1) := by decide +kernel
theorem dX11_worthAt_134 : decode cX11_worthAt 134 = .ok (.iinc 3 1, 3) := by decide +kernel
theorem dX11_worthAt_137 : decode cX11_worthAt 137 = .ok (.goto (-133), 3) := by decide +kernel
theorem dX11_worthAt_140 : decode cX11_worthAt 140 = .ok (.aload_n 0, 1) := by decide +kernel
theorem dX11_worthAt_141 : decode cX11_worthAt 141 = .ok (.getfield 90, 3) := by decide +kernel
theorem dX11_worthAt_144 : decode cX11_worthAt 144 = .ok (.iconst 0, 1) := by decide +kernel
theorem dX11_worthAt_145 : decode cX11_worthAt 145 = .ok (.iaload, 1) := by decide +kernel
theorem dX11_worthAt_146 : decode cX11_worthAt 146 = .ok (.ireturn, 1) := by decide +kernel
theorem dX11_both_0 : decode cX11_both 0 = .ok (.iload_n 0, 1) := by decide +kernel
theorem dX11_both_1 : decode cX11_both 1 = .ok (.tableswitch 87 4 9 #[39, 43, 47, 51, 62, 73], 39) := by decide +kernel
theorem dX11_both_40 : decode cX11_both 40 = .ok (.iload_n 1, 1) := by decide +kernel
theorem dX11_both_41 : decode cX11_both 41 = .ok (.iload_n 2, 1) := by decide +kernel
theorem dX11_both_42 : decode cX11_both 42 = .ok (.iadd, 1) := by decide +kernel
theorem dX11_both_43 : decode cX11_both 43 = .ok (.ireturn, 1) := by decide +kernel
theorem dX11_both_44 : decode cX11_both 44 = .ok (.iload_n 1, 1) := by decide +kernel
theorem dX11_both_45 : decode cX11_both 45 = .ok (.iload_n 2, 1) := by decide +kernel
theorem dX11_both_46 : decode cX11_both 46 = .ok (.isub, 1) := by decide +kernel
theorem dX11_both_47 : decode cX11_both 47 = .ok (.ireturn, 1) := by decide +kernel
theorem dX11_both_48 : decode cX11_both 48 = .ok (.iload_n 1, 1) := by decide +kernel
theorem dX11_both_49 : decode cX11_both 49 = .ok (.iload_n 2, 1) := by decide +kernel
theorem dX11_both_50 : decode cX11_both 50 = .ok (.imul, 1) := by decide +kernel
theorem dX11_both_51 : decode cX11_both 51 = .ok (.ireturn, 1) := by decide +kernel
theorem dX11_both_52 : decode cX11_both 52 = .ok (.iload_n 1, 1) := by decide +kernel
theorem dX11_both_53 : decode cX11_both 53 = .ok (.iload_n 2, 1) := by decide +kernel
theorem dX11_both_54 : decode cX11_both 54 = .ok (.if_icmp .ge 7, 3) := by decide +kernel
theorem dX11_both_57 : decode cX11_both 57 = .ok (.iconst 1, 1) := by decide +kernel
theorem dX11_both_58 : decode cX11_both 58 = .ok (.goto 4, 3) := by decide +kernel
theorem dX11_both_61 : decode cX11_both 61 = .ok (.iconst 0, 1) := by decide +kernel
theorem dX11_both_62 : decode cX11_both 62 = .ok (.ireturn, 1) := by decide +kernel
theorem dX11_both_63 : decode cX11_both 63 = .ok (.iload_n 1, 1) := by decide +kernel
theorem dX11_both_64 : decode cX11_both 64 = .ok (.iload_n 2, 1) := by decide +kernel
theorem dX11_both_65 : decode cX11_both 65 = .ok (.if_icmp .ne 7, 3) := by decide +kernel
theorem dX11_both_68 : decode cX11_both 68 = .ok (.iconst 1, 1) := by decide +kernel
theorem dX11_both_69 : decode cX11_both 69 = .ok (.goto 4, 3) := by decide +kernel
theorem dX11_both_72 : decode cX11_both 72 = .ok (.iconst 0, 1) := by decide +kernel
theorem dX11_both_73 : decode cX11_both 73 = .ok (.ireturn, 1) := by decide +kernel
theorem dX11_both_74 : decode cX11_both 74 = .ok (.iload_n 1, 1) := by decide +kernel
theorem dX11_both_75 : decode cX11_both 75 = .ok (.ifCond .eq 11, 3) := by decide +kernel
theorem dX11_both_78 : decode cX11_both 78 = .ok (.iload_n 2, 1) := by decide +kernel
theorem dX11_both_79 : decode cX11_both 79 = .ok (.ifCond .eq 7, 3) := by decide +kernel
theorem dX11_both_82 : decode cX11_both 82 = .ok (.iconst 1, 1) := by decide +kernel
theorem dX11_both_83 : decode cX11_both 83 = .ok (.goto 4, 3) := by decide +kernel
theorem dX11_both_86 : decode cX11_both 86 = .ok (.iconst 0, 1) := by decide +kernel
theorem dX11_both_87 : decode cX11_both 87 = .ok (.ireturn, 1) := by decide +kernel
theorem dX11_both_88 : decode cX11_both 88 = .ok (.iload_n 1, 1) := by decide +kernel
theorem dX11_both_89 : decode cX11_both 89 = .ok (.ifCond .ne 7, 3) := by decide +kernel
theorem dX11_both_92 : decode cX11_both 92 = .ok (.iload_n 2, 1) := by decide +kernel
theorem dX11_both_93 : decode cX11_both 93 = .ok (.ifCond .eq 7, 3) := by decide +kernel
theorem dX11_both_96 : decode cX11_both 96 = .ok (.iconst 1, 1) := by decide +kernel
theorem dX11_both_97 : decode cX11_both 97 = .ok (.goto 4, 3) := by decide +kernel
theorem dX11_both_100 : decode cX11_both 100 = .ok (.iconst 0, 1) := by decide +kernel
theorem dX11_both_101 : decode cX11_both 101 = .ok (.ireturn, 1) := by decide +kernel
theorem dX11_farms_0 : decode cX11_farms 0 = .ok (.aload_n 0, 1) := by decide +kernel
theorem dX11_farms_1 : decode cX11_farms 1 = .ok (.getfield 69, 3) := by decide +kernel
theorem dX11_farms_4 : decode cX11_farms 4 = .ok (.iconst 0, 1) := by decide +kernel
theorem dX11_farms_5 : decode cX11_farms 5 = .ok (.iaload, 1) := by decide +kernel
theorem dX11_farms_6 : decode cX11_farms 6 = .ok (.ireturn, 1) := by decide +kernel
theorem dX11_isFarm_0 : decode cX11_isFarm 0 = .ok (.iload_n 1, 1) := by decide +kernel
theorem dX11_isFarm_1 : decode cX11_isFarm 1 = .ok (.ifCond .lt 15, 3) := by decide +kernel
theorem dX11_isFarm_4 : decode cX11_isFarm 4 = .ok (.iload_n 1, 1) := by decide +kernel
theorem dX11_isFarm_5 : decode cX11_isFarm 5 = .ok (.aload_n 0, 1) := by decide +kernel
theorem dX11_isFarm_6 : decode cX11_isFarm 6 = .ok (.invokevirtual 248, 3) := by decide +kernel
theorem dX11_isFarm_9 : decode cX11_isFarm 9 = .ok (.if_icmp .ge 7, 3) := by decide +kernel
theorem dX11_isFarm_12 : decode cX11_isFarm 12 = .ok (.iconst 1, 1) := by decide +kernel
theorem dX11_isFarm_13 : decode cX11_isFarm 13 = .ok (.goto 4, 3) := by decide +kernel
theorem dX11_isFarm_16 : decode cX11_isFarm 16 = .ok (.iconst 0, 1) := by decide +kernel
theorem dX11_isFarm_17 : decode cX11_isFarm 17 = .ok (.ireturn, 1) := by decide +kernel
theorem dX11_of_0 : decode cX11_of 0 = .ok (.aload_n 0, 1) := by decide +kernel
theorem dX11_of_1 : decode cX11_of 1 = .ok (.getfield 69, 3) := by decide +kernel
theorem dX11_of_4 : decode cX11_of 4 = .ok (.bipush 8, 2) := by decide +kernel
theorem dX11_of_6 : decode cX11_of 6 = .ok (.bipush 7, 2) := by decide +kernel
theorem dX11_of_8 : decode cX11_of 8 = .ok (.iload_n 1, 1) := by decide +kernel
theorem dX11_of_9 : decode cX11_of 9 = .ok (.imul, 1) := by decide +kernel
theorem dX11_of_10 : decode cX11_of 10 = .ok (.iadd, 1) := by decide +kernel
theorem dX11_of_11 : decode cX11_of 11 = .ok (.iload_n 2, 1) := by decide +kernel
theorem dX11_of_12 : decode cX11_of 12 = .ok (.iadd, 1) := by decide +kernel
theorem dX11_of_13 : decode cX11_of 13 = .ok (.iaload, 1) := by decide +kernel
theorem dX11_of_14 : decode cX11_of 14 = .ok (.ireturn, 1) := by decide +kernel
theorem dX11_adds_0 : decode cX11_adds 0 = .ok (.aload_n 0, 1) := by decide +kernel
theorem dX11_adds_1 : decode cX11_adds 1 = .ok (.getfield 69, 3) := by decide +kernel
theorem dX11_adds_4 : decode cX11_adds 4 = .ok (.bipush 8, 2) := by decide +kernel
theorem dX11_adds_6 : decode cX11_adds 6 = .ok (.bipush 7, 2) := by decide +kernel
theorem dX11_adds_8 : decode cX11_adds 8 = .ok (.iload_n 1, 1) := by decide +kernel
theorem dX11_adds_9 : decode cX11_adds 9 = .ok (.imul, 1) := by decide +kernel
theorem dX11_adds_10 : decode cX11_adds 10 = .ok (.iadd, 1) := by decide +kernel
theorem dX11_adds_11 : decode cX11_adds 11 = .ok (.iload_n 2, 1) := by decide +kernel
theorem dX11_adds_12 : decode cX11_adds 12 = .ok (.iadd, 1) := by decide +kernel
theorem dX11_adds_13 : decode cX11_adds 13 = .ok (.dup2, 1) := by decide +kernel
theorem dX11_adds_14 : decode cX11_adds 14 = .ok (.iaload, 1) := by decide +kernel
theorem dX11_adds_15 : decode cX11_adds 15 = .ok (.iload_n 3, 1) := by decide +kernel
theorem dX11_adds_16 : decode cX11_adds 16 = .ok (.iadd, 1) := by decide +kernel
theorem dX11_adds_17 : decode cX11_adds 17 = .ok (.iastore, 1) := by decide +kernel
theorem dX11_adds_18 : decode cX11_adds 18 = .ok (.return_, 1) := by decide +kernel
theorem dX11_homeOf_0 : decode cX11_homeOf 0 = .ok (.aload_n 0, 1) := by decide +kernel
theorem dX11_homeOf_1 : decode cX11_homeOf 1 = .ok (.iload_n 1, 1) := by decide +kernel
theorem dX11_homeOf_2 : decode cX11_homeOf 2 = .ok (.bipush 6, 2) := by decide +kernel
theorem dX11_homeOf_4 : decode cX11_homeOf 4 = .ok (.invokevirtual 251, 3) := by decide +kernel
theorem dX11_homeOf_7 : decode cX11_homeOf 7 = .ok (.iconst 1, 1) := by decide +kernel
theorem dX11_homeOf_8 : decode cX11_homeOf 8 = .ok (.isub, 1) := by decide +kernel
theorem dX11_homeOf_9 : decode cX11_homeOf 9 = .ok (.istore_n 2, 1) := by decide +kernel
theorem dX11_homeOf_10 : decode cX11_homeOf 10 = .ok (.iload_n 2, 1) := by decide +kernel
theorem dX11_homeOf_11 : decode cX11_homeOf 11 = .ok (.ifCond .lt 22, 3) := by decide +kernel
theorem dX11_homeOf_14 : decode cX11_homeOf 14 = .ok (.aload_n 0, 1) := by decide +kernel
theorem dX11_homeOf_15 : decode cX11_homeOf 15 = .ok (.getfield 69, 3) := by decide +kernel
theorem dX11_homeOf_18 : decode cX11_homeOf 18 = .ok (.iconst 1, 1) := by decide +kernel
theorem dX11_homeOf_19 : decode cX11_homeOf 19 = .ok (.iaload, 1) := by decide +kernel
theorem dX11_homeOf_20 : decode cX11_homeOf 20 = .ok (.bipush 28, 2) := by decide +kernel
theorem dX11_homeOf_22 : decode cX11_homeOf 22 = .ok (.idiv, 1) := by decide +kernel
theorem dX11_homeOf_23 : decode cX11_homeOf 23 = .ok (.iconst 2, 1) := by decide +kernel
theorem dX11_homeOf_24 : decode cX11_homeOf 24 = .ok (.irem, 1) := by decide +kernel
theorem dX11_homeOf_25 : decode cX11_homeOf 25 = .ok (.iconst 1, 1) := by decide +kernel
theorem dX11_homeOf_26 : decode cX11_homeOf 26 = .ok (.if_icmp .ne 7, 3) := by decide +kernel
theorem dX11_homeOf_29 : decode cX11_homeOf 29 = .ok (.iload_n 2, 1) := by decide +kernel
theorem dX11_homeOf_30 : decode cX11_homeOf 30 = .ok (.goto 4, 3) := by decide +kernel
theorem dX11_homeOf_33 : decode cX11_homeOf 33 = .ok (.iload_n 1, 1) := by decide +kernel
theorem dX11_homeOf_34 : decode cX11_homeOf 34 = .ok (.ireturn, 1) := by decide +kernel
theorem dX11_areNear_0 : decode cX11_areNear 0 = .ok (.aload_n 0, 1) := by decide +kernel
theorem dX11_areNear_1 : decode cX11_areNear 1 = .ok (.getfield 69, 3) := by decide +kernel
theorem dX11_areNear_4 : decode cX11_areNear 4 = .ok (.bipush 74, 2) := by decide +kernel
theorem dX11_areNear_6 : decode cX11_areNear 6 = .ok (.bipush 6, 2) := by decide +kernel
theorem dX11_areNear_8 : decode cX11_areNear 8 = .ok (.iload_n 1, 1) := by decide +kernel
theorem dX11_areNear_9 : decode cX11_areNear 9 = .ok (.imul, 1) := by decide +kernel
theorem dX11_areNear_10 : decode cX11_areNear 10 = .ok (.iadd, 1) := by decide +kernel
theorem dX11_areNear_11 : decode cX11_areNear 11 = .ok (.iload_n 2, 1) := by decide +kernel
theorem dX11_areNear_12 : decode cX11_areNear 12 = .ok (.iadd, 1) := by decide +kernel
theorem dX11_areNear_13 : decode cX11_areNear 13 = .ok (.iaload, 1) := by decide +kernel
theorem dX11_areNear_14 : decode cX11_areNear 14 = .ok (.ifCond .le 24, 3) := by decide +kernel
theorem dX11_areNear_17 : decode cX11_areNear 17 = .ok (.aload_n 0, 1) := by decide +kernel
theorem dX11_areNear_18 : decode cX11_areNear 18 = .ok (.getfield 69, 3) := by decide +kernel
theorem dX11_areNear_21 : decode cX11_areNear 21 = .ok (.bipush 110, 2) := by decide +kernel
theorem dX11_areNear_23 : decode cX11_areNear 23 = .ok (.bipush 6, 2) := by decide +kernel
theorem dX11_areNear_25 : decode cX11_areNear 25 = .ok (.iload_n 1, 1) := by decide +kernel
theorem dX11_areNear_26 : decode cX11_areNear 26 = .ok (.imul, 1) := by decide +kernel
theorem dX11_areNear_27 : decode cX11_areNear 27 = .ok (.iadd, 1) := by decide +kernel
theorem dX11_areNear_28 : decode cX11_areNear 28 = .ok (.iload_n 2, 1) := by decide +kernel
theorem dX11_areNear_29 : decode cX11_areNear 29 = .ok (.iadd, 1) := by decide +kernel
theorem dX11_areNear_30 : decode cX11_areNear 30 = .ok (.iaload, 1) := by decide +kernel
theorem dX11_areNear_31 : decode cX11_areNear 31 = .ok (.ifCond .ne 7, 3) := by decide +kernel
theorem dX11_areNear_34 : decode cX11_areNear 34 = .ok (.iconst 1, 1) := by decide +kernel
theorem dX11_areNear_35 : decode cX11_areNear 35 = .ok (.goto 4, 3) := by decide +kernel
theorem dX11_areNear_38 : decode cX11_areNear 38 = .ok (.iconst 0, 1) := by decide +kernel
theorem dX11_areNear_39 : decode cX11_areNear 39 = .ok (.ireturn, 1) := by decide +kernel
theorem dX11_near_0 : decode cX11_near 0 = .ok (.iconst 0, 1) := by decide +kernel
theorem dX11_near_1 : decode cX11_near 1 = .ok (.istore_n 2, 1) := by decide +kernel
theorem dX11_near_2 : decode cX11_near 2 = .ok (.iconst 0, 1) := by decide +kernel
theorem dX11_near_3 : decode cX11_near 3 = .ok (.istore_n 3, 1) := by decide +kernel
theorem dX11_near_4 : decode cX11_near 4 = .ok (.iload_n 3, 1) := by decide +kernel
theorem dX11_near_5 : decode cX11_near 5 = .ok (.aload_n 0, 1) := by decide +kernel
theorem dX11_near_6 : decode cX11_near 6 = .ok (.invokevirtual 248, 3) := by decide +kernel
theorem dX11_near_9 : decode cX11_near 9 = .ok (.if_icmp .ge 28, 3) := by decide +kernel
theorem dX11_near_12 : decode cX11_near 12 = .ok (.iload_n 2, 1) := by decide +kernel
theorem dX11_near_13 : decode cX11_near 13 = .ok (.aload_n 0, 1) := by decide +kernel
theorem dX11_near_14 : decode cX11_near 14 = .ok (.iload_n 1, 1) := by decide +kernel
theorem dX11_near_15 : decode cX11_near 15 = .ok (.iload_n 3, 1) := by decide +kernel
theorem dX11_near_16 : decode cX11_near 16 = .ok (.invokevirtual 254, 3) := by decide +kernel
theorem dX11_near_19 : decode cX11_near 19 = .ok (.ifCond .eq 9, 3) := by decide +kernel
theorem dX11_near_22 : decode cX11_near 22 = .ok (.iconst 1, 1) := by decide +kernel
theorem dX11_near_23 : decode cX11_near 23 = .ok (.iload_n 3, 1) := by decide +kernel
theorem dX11_near_24 : decode cX11_near 24 = .ok (.ishl, 1) := by decide +kernel
theorem dX11_near_25 : decode cX11_near 25 = .ok (.goto 4, 3) := by decide +kernel
theorem dX11_near_28 : decode cX11_near 28 = .ok (.iconst 0, 1) := by decide +kernel
theorem dX11_near_29 : decode cX11_near 29 = .ok (.ior, 1) := by decide +kernel
theorem dX11_near_30 : decode cX11_near 30 = .ok (.istore_n 2, 1) := by decide +kernel
theorem dX11_near_31 : decode cX11_near 31 = .ok (.iinc 3 1, 3) := by decide +kernel
theorem dX11_near_34 : decode cX11_near 34 = .ok (.goto (-30), 3) := by decide +kernel
theorem dX11_near_37 : decode cX11_near 37 = .ok (.iload_n 2, 1) := by decide +kernel
theorem dX11_near_38 : decode cX11_near 38 = .ok (.ireturn, 1) := by decide +kernel
theorem dX11_draw_0 : decode cX11_draw 0 = .ok (.aload_n 0, 1) := by decide +kernel
theorem dX11_draw_1 : decode cX11_draw 1 = .ok (.getfield 69, 3) := by decide +kernel
theorem dX11_draw_4 : decode cX11_draw 4 = .ok (.iconst 2, 1) := by decide +kernel
theorem dX11_draw_5 : decode cX11_draw 5 = .ok (.iaload, 1) := by decide +kernel
theorem dX11_draw_6 : decode cX11_draw 6 = .ok (.i2l, 1) := by decide +kernel
theorem dX11_draw_7 : decode cX11_draw 7 = .ok (.ldc2_w 258, 3) := by decide +kernel
theorem dX11_draw_10 : decode cX11_draw 10 = .ok (.lmul, 1) := by decide +kernel
theorem dX11_draw_11 : decode cX11_draw 11 = .ok (.ldc2_w 260, 3) := by decide +kernel
theorem dX11_draw_14 : decode cX11_draw 14 = .ok (.ladd, 1) := by decide +kernel
theorem dX11_draw_15 : decode cX11_draw 15 = .ok (.ldc2_w 262, 3) := by decide +kernel
theorem dX11_draw_18 : decode cX11_draw 18 = .ok (.lrem, 1) := by decide +kernel
theorem dX11_draw_19 : decode cX11_draw 19 = .ok (.lstore_n 2, 1) := by decide +kernel
theorem dX11_draw_20 : decode cX11_draw 20 = .ok (.aload_n 0, 1) := by decide +kernel
theorem dX11_draw_21 : decode cX11_draw 21 = .ok (.getfield 69, 3) := by decide +kernel
theorem dX11_draw_24 : decode cX11_draw 24 = .ok (.iconst 2, 1) := by decide +kernel
theorem dX11_draw_25 : decode cX11_draw 25 = .ok (.lload_n 2, 1) := by decide +kernel
theorem dX11_draw_26 : decode cX11_draw 26 = .ok (.l2i, 1) := by decide +kernel
theorem dX11_draw_27 : decode cX11_draw 27 = .ok (.iastore, 1) := by decide +kernel
theorem dX11_draw_28 : decode cX11_draw 28 = .ok (.lload_n 2, 1) := by decide +kernel
theorem dX11_draw_29 : decode cX11_draw 29 = .ok (.ldc2_w 264, 3) := by decide +kernel
theorem dX11_draw_32 : decode cX11_draw 32 = .ok (.ldiv, 1) := by decide +kernel
theorem dX11_draw_33 : decode cX11_draw 33 = .ok (.iload_n 1, 1) := by decide +kernel
theorem dX11_draw_34 : decode cX11_draw 34 = .ok (.i2l, 1) := by decide +kernel
theorem dX11_draw_35 : decode cX11_draw 35 = .ok (.lrem, 1) := by decide +kernel
theorem dX11_draw_36 : decode cX11_draw 36 = .ok (.l2i, 1) := by decide +kernel
theorem dX11_draw_37 : decode cX11_draw 37 = .ok (.ireturn, 1) := by decide +kernel
theorem dX11_levelOf_0 : decode cX11_levelOf 0 = .ok (.aload_n 0, 1) := by decide +kernel
theorem dX11_levelOf_1 : decode cX11_levelOf 1 = .ok (.getfield 93, 3) := by decide +kernel
theorem dX11_levelOf_4 : decode cX11_levelOf 4 = .ok (.istore_n 2, 1) := by decide +kernel
theorem dX11_levelOf_5 : decode cX11_levelOf 5 = .ok (.iconst 0, 1) := by decide +kernel
theorem dX11_levelOf_6 : decode cX11_levelOf 6 = .ok (.istore_n 3, 1) := by decide +kernel
theorem dX11_levelOf_7 : decode cX11_levelOf 7 = .ok (.iload_n 3, 1) := by decide +kernel
theorem dX11_levelOf_8 : decode cX11_levelOf 8 = .ok (.iload_n 1, 1) := by decide +kernel
theorem dX11_levelOf_9 : decode cX11_levelOf 9 = .ok (.if_icmp .ge 13, 3) := by decide +kernel
theorem dX11_levelOf_12 : decode cX11_levelOf 12 = .ok (.iload_n 2, 1) := by decide +kernel
theorem dX11_levelOf_13 : decode cX11_levelOf 13 = .ok (.iconst 4, 1) := by decide +kernel
theorem dX11_levelOf_14 : decode cX11_levelOf 14 = .ok (.idiv, 1) := by decide +kernel
theorem dX11_levelOf_15 : decode cX11_levelOf 15 = .ok (.istore_n 2, 1) := by decide +kernel
theorem dX11_levelOf_16 : decode cX11_levelOf 16 = .ok (.iinc 3 1, 3) := by decide +kernel
theorem dX11_levelOf_19 : decode cX11_levelOf 19 = .ok (.goto (-12), 3) := by decide +kernel
theorem dX11_levelOf_22 : decode cX11_levelOf 22 = .ok (.iload_n 2, 1) := by decide +kernel
theorem dX11_levelOf_23 : decode cX11_levelOf 23 = .ok (.iconst 4, 1) := by decide +kernel
theorem dX11_levelOf_24 : decode cX11_levelOf 24 = .ok (.irem, 1) := by decide +kernel
theorem dX11_levelOf_25 : decode cX11_levelOf 25 = .ok (.ireturn, 1) := by decide +kernel
theorem dX11_feeds_0 : decode cX11_feeds 0 = .ok (.iconst 0, 1) := by decide +kernel
theorem dX11_feeds_1 : decode cX11_feeds 1 = .ok (.istore_n 3, 1) := by decide +kernel
theorem dX11_feeds_2 : decode cX11_feeds 2 = .ok (.aload_n 0, 1) := by decide +kernel
theorem dX11_feeds_3 : decode cX11_feeds 3 = .ok (.getfield 93, 3) := by decide +kernel
theorem dX11_feeds_6 : decode cX11_feeds 6 = .ok (.ifCond .lt 12, 3) := by decide +kernel
theorem dX11_feeds_9 : decode cX11_feeds 9 = .ok (.aload_n 0, 1) := by decide +kernel
theorem dX11_feeds_10 : decode cX11_feeds 10 = .ok (.iload_n 1, 1) := by decide +kernel
theorem dX11_feeds_11 : decode cX11_feeds 11 = .ok (.invokevirtual 266, 3) := by decide +kernel
theorem dX11_feeds_14 : decode cX11_feeds 14 = .ok (.istore_n 3, 1) := by decide +kernel
theorem dX11_feeds_15 : decode cX11_feeds 15 = .ok (.goto 66, 3) := by decide +kernel
theorem dX11_feeds_18 : decode cX11_feeds 18 = .ok (.aload_n 0, 1) := by decide +kernel
theorem dX11_feeds_19 : decode cX11_feeds 19 = .ok (.getfield 69, 3) := by decide +kernel
theorem dX11_feeds_22 : decode cX11_feeds 22 = .ok (.iconst 5, 1) := by decide +kernel
theorem dX11_feeds_23 : decode cX11_feeds 23 = .ok (.iaload, 1) := by decide +kernel
theorem dX11_feeds_24 : decode cX11_feeds 24 = .ok (.ifCond .lt 57, 3) := by decide +kernel
theorem dX11_feeds_27 : decode cX11_feeds 27 = .ok (.aload_n 0, 1) := by decide +kernel
theorem dX11_feeds_28 : decode cX11_feeds 28 = .ok (.getfield 87, 3) := by decide +kernel
theorem dX11_feeds_31 : decode cX11_feeds 31 = .ok (.iconst 0, 1) := by decide +kernel
theorem dX11_feeds_32 : decode cX11_feeds 32 = .ok (.aload_n 0, 1) := by decide +kernel
theorem dX11_feeds_33 : decode cX11_feeds 33 = .ok (.iload_n 1, 1) := by decide +kernel
theorem dX11_feeds_34 : decode cX11_feeds 34 = .ok (.iconst 0, 1) := by decide +kernel
theorem dX11_feeds_35 : decode cX11_feeds 35 = .ok (.invokevirtual 251, 3) := by decide +kernel
theorem dX11_feeds_38 : decode cX11_feeds 38 = .ok (.iastore, 1) := by decide +kernel
theorem dX11_feeds_39 : decode cX11_feeds 39 = .ok (.aload_n 0, 1) := by decide +kernel
theorem dX11_feeds_40 : decode cX11_feeds 40 = .ok (.getfield 87, 3) := by decide +kernel
theorem dX11_feeds_43 : decode cX11_feeds 43 = .ok (.iconst 1, 1) := by decide +kernel
theorem dX11_feeds_44 : decode cX11_feeds 44 = .ok (.aload_n 0, 1) := by decide +kernel
theorem dX11_feeds_45 : decode cX11_feeds 45 = .ok (.iload_n 1, 1) := by decide +kernel
theorem dX11_feeds_46 : decode cX11_feeds 46 = .ok (.iconst 1, 1) := by decide +kernel
theorem dX11_feeds_47 : decode cX11_feeds 47 = .ok (.invokevirtual 251, 3) := by decide +kernel
theorem dX11_feeds_50 : decode cX11_feeds 50 = .ok (.iastore, 1) := by decide +kernel
theorem dX11_feeds_51 : decode cX11_feeds 51 = .ok (.aload_n 0, 1) := by decide +kernel
theorem dX11_feeds_52 : decode cX11_feeds 52 = .ok (.getfield 87, 3) := by decide +kernel
theorem dX11_feeds_55 : decode cX11_feeds 55 = .ok (.iconst 2, 1) := by decide +kernel
theorem dX11_feeds_56 : decode cX11_feeds 56 = .ok (.iload_n 2, 1) := by decide +kernel
theorem dX11_feeds_57 : decode cX11_feeds 57 = .ok (.iastore, 1) := by decide +kernel
theorem dX11_feeds_58 : decode cX11_feeds 58 = .ok (.aload_n 0, 1) := by decide +kernel
theorem dX11_feeds_59 : decode cX11_feeds 59 = .ok (.getfield 87, 3) := by decide +kernel
theorem dX11_feeds_62 : decode cX11_feeds 62 = .ok (.iconst 3, 1) := by decide +kernel
theorem dX11_feeds_63 : decode cX11_feeds 63 = .ok (.aload_n 0, 1) := by decide +kernel
theorem dX11_feeds_64 : decode cX11_feeds 64 = .ok (.getfield 69, 3) := by decide +kernel
theorem dX11_feeds_67 : decode cX11_feeds 67 = .ok (.iconst 1, 1) := by decide +kernel
theorem dX11_feeds_68 : decode cX11_feeds 68 = .ok (.iaload, 1) := by decide +kernel
theorem dX11_feeds_69 : decode cX11_feeds 69 = .ok (.iastore, 1) := by decide +kernel
theorem dX11_feeds_70 : decode cX11_feeds 70 = .ok (.aload_n 0, 1) := by decide +kernel
theorem dX11_feeds_71 : decode cX11_feeds 71 = .ok (.aload_n 0, 1) := by decide +kernel
theorem dX11_feeds_72 : decode cX11_feeds 72 = .ok (.getfield 69, 3) := by decide +kernel
theorem dX11_feeds_75 : decode cX11_feeds 75 = .ok (.iconst 5, 1) := by decide +kernel
theorem dX11_feeds_76 : decode cX11_feeds 76 = .ok (.iaload, 1) := by decide +kernel
theorem dX11_feeds_77 : decode cX11_feeds 77 = .ok (.invokevirtual 269, 3) := by decide +kernel
theorem dX11_feeds_80 : decode cX11_feeds 80 = .ok (.istore_n 3, 1) := by decide +kernel
theorem dX11_feeds_81 : decode cX11_feeds 81 = .ok (.iload_n 2, 1) := by decide +kernel
theorem dX11_feeds_82 : decode cX11_feeds 82 = .ok (.aload_n 0, 1) := by decide +kernel
theorem dX11_feeds_83 : decode cX11_feeds 83 = .ok (.iload_n 1, 1) := by decide +kernel
theorem dX11_feeds_84 : decode cX11_feeds 84 = .ok (.iconst 0, 1) := by decide +kernel
theorem dX11_feeds_85 : decode cX11_feeds 85 = .ok (.invokevirtual 251, 3) := by decide +kernel
theorem dX11_feeds_88 : decode cX11_feeds 88 = .ok (.if_icmp .ge 7, 3) := by decide +kernel
theorem dX11_feeds_91 : decode cX11_feeds 91 = .ok (.iload_n 2, 1) := by decide +kernel
theorem dX11_feeds_92 : decode cX11_feeds 92 = .ok (.goto 9, 3) := by decide +kernel
theorem dX11_feeds_95 : decode cX11_feeds 95 = .ok (.aload_n 0, 1) := by decide +kernel
theorem dX11_feeds_96 : decode cX11_feeds 96 = .ok (.iload_n 1, 1) := by decide +kernel
theorem dX11_feeds_97 : decode cX11_feeds 97 = .ok (.iconst 0, 1) := by decide +kernel
theorem dX11_feeds_98 : decode cX11_feeds 98 = .ok (.invokevirtual 251, 3) := by decide +kernel
theorem dX11_feeds_101 : decode cX11_feeds 101 = .ok (.istore 4, 2) := by decide +kernel
theorem dX11_feeds_103 : decode cX11_feeds 103 = .ok (.iload_n 3, 1) := by decide +kernel
theorem dX11_feeds_104 : decode cX11_feeds 104 = .ok (.ifCond .ge 7, 3) := by decide +kernel
theorem dX11_feeds_107 : decode cX11_feeds 107 = .ok (.iconst 0, 1) := by decide +kernel
theorem dX11_feeds_108 : decode cX11_feeds 108 = .ok (.goto 15, 3) := by decide +kernel
theorem dX11_feeds_111 : decode cX11_feeds 111 = .ok (.iload_n 3, 1) := by decide +kernel
theorem dX11_feeds_112 : decode cX11_feeds 112 = .ok (.iload 4, 2) := by decide +kernel
theorem dX11_feeds_114 : decode cX11_feeds 114 = .ok (.if_icmp .le 8, 3) := by decide +kernel
theorem dX11_feeds_117 : decode cX11_feeds 117 = .ok (.iload 4, 2) := by decide +kernel
theorem dX11_feeds_119 : decode cX11_feeds 119 = .ok (.goto 4, 3) := by decide +kernel
theorem dX11_feeds_122 : decode cX11_feeds 122 = .ok (.iload_n 3, 1) := by decide +kernel
theorem dX11_feeds_123 : decode cX11_feeds 123 = .ok (.ireturn, 1) := by decide +kernel
theorem dX11_wants_0 : decode cX11_wants 0 = .ok (.aload_n 0, 1) := by decide +kernel
theorem dX11_wants_1 : decode cX11_wants 1 = .ok (.getfield 69, 3) := by decide +kernel
theorem dX11_wants_4 : decode cX11_wants 4 = .ok (.bipush 6, 2) := by decide +kernel
theorem dX11_wants_6 : decode cX11_wants 6 = .ok (.iaload, 1) := by decide +kernel
theorem dX11_wants_7 : decode cX11_wants 7 = .ok (.ifCond .ge 10, 3) := by decide +kernel
theorem dX11_wants_10 : decode cX11_wants 10 = .ok (.aload_n 0, 1) := by decide +kernel
theorem dX11_wants_11 : decode cX11_wants 11 = .ok (.iload_n 3, 1) := by decide +kernel
theorem dX11_wants_12 : decode cX11_wants 12 = .ok (.iconst 0, 1) := by decide +kernel
theorem dX11_wants_13 : decode cX11_wants 13 = .ok (.invokevirtual 251, 3) := by decide +kernel
theorem dX11_wants_16 : decode cX11_wants 16 = .ok (.ireturn, 1) := by decide +kernel
theorem dX11_wants_17 : decode cX11_wants 17 = .ok (.aload_n 0, 1) := by decide +kernel
theorem dX11_wants_18 : decode cX11_wants 18 = .ok (.getfield 87, 3) := by decide +kernel
theorem dX11_wants_21 : decode cX11_wants 21 = .ok (.iconst 0, 1) := by decide +kernel
theorem dX11_wants_22 : decode cX11_wants 22 = .ok (.aload_n 0, 1) := by decide +kernel
theorem dX11_wants_23 : decode cX11_wants 23 = .ok (.iload_n 3, 1) := by decide +kernel
theorem dX11_wants_24 : decode cX11_wants 24 = .ok (.iconst 0, 1) := by decide +kernel
theorem dX11_wants_25 : decode cX11_wants 25 = .ok (.invokevirtual 251, 3) := by decide +kernel
theorem dX11_wants_28 : decode cX11_wants 28 = .ok (.iastore, 1) := by decide +kernel
theorem dX11_wants_29 : decode cX11_wants 29 = .ok (.aload_n 0, 1) := by decide +kernel
theorem dX11_wants_30 : decode cX11_wants 30 = .ok (.getfield 87, 3) := by decide +kernel
theorem dX11_wants_33 : decode cX11_wants 33 = .ok (.iconst 1, 1) := by decide +kernel
theorem dX11_wants_34 : decode cX11_wants 34 = .ok (.aload_n 0, 1) := by decide +kernel
theorem dX11_wants_35 : decode cX11_wants 35 = .ok (.iload_n 3, 1) := by decide +kernel
theorem dX11_wants_36 : decode cX11_wants 36 = .ok (.iconst 1, 1) := by decide +kernel
theorem dX11_wants_37 : decode cX11_wants 37 = .ok (.invokevirtual 251, 3) := by decide +kernel
theorem dX11_wants_40 : decode cX11_wants 40 = .ok (.iastore, 1) := by decide +kernel
theorem dX11_wants_41 : decode cX11_wants 41 = .ok (.aload_n 0, 1) := by decide +kernel
theorem dX11_wants_42 : decode cX11_wants 42 = .ok (.getfield 87, 3) := by decide +kernel
theorem dX11_wants_45 : decode cX11_wants 45 = .ok (.iconst 2, 1) := by decide +kernel
theorem dX11_wants_46 : decode cX11_wants 46 = .ok (.iload 4, 2) := by decide +kernel
theorem dX11_wants_48 : decode cX11_wants 48 = .ok (.iastore, 1) := by decide +kernel
theorem dX11_wants_49 : decode cX11_wants 49 = .ok (.aload_n 0, 1) := by decide +kernel
theorem dX11_wants_50 : decode cX11_wants 50 = .ok (.getfield 87, 3) := by decide +kernel
theorem dX11_wants_53 : decode cX11_wants 53 = .ok (.iconst 3, 1) := by decide +kernel
theorem dX11_wants_54 : decode cX11_wants 54 = .ok (.aload_n 0, 1) := by decide +kernel
theorem dX11_wants_55 : decode cX11_wants 55 = .ok (.getfield 69, 3) := by decide +kernel
theorem dX11_wants_58 : decode cX11_wants 58 = .ok (.bipush 74, 2) := by decide +kernel
theorem dX11_wants_60 : decode cX11_wants 60 = .ok (.bipush 6, 2) := by decide +kernel
theorem dX11_wants_62 : decode cX11_wants 62 = .ok (.iload_n 2, 1) := by decide +kernel
theorem dX11_wants_63 : decode cX11_wants 63 = .ok (.imul, 1) := by decide +kernel
theorem dX11_wants_64 : decode cX11_wants 64 = .ok (.iadd, 1) := by decide +kernel
theorem dX11_wants_65 : decode cX11_wants 65 = .ok (.iload_n 3, 1) := by decide +kernel
theorem dX11_wants_66 : decode cX11_wants 66 = .ok (.iadd, 1) := by decide +kernel
theorem dX11_wants_67 : decode cX11_wants 67 = .ok (.iaload, 1) := by decide +kernel
theorem dX11_wants_68 : decode cX11_wants 68 = .ok (.iconst 1, 1) := by decide +kernel
theorem dX11_wants_69 : decode cX11_wants 69 = .ok (.isub, 1) := by decide +kernel
theorem dX11_wants_70 : decode cX11_wants 70 = .ok (.iastore, 1) := by decide +kernel
theorem dX11_wants_71 : decode cX11_wants 71 = .ok (.aload_n 0, 1) := by decide +kernel
theorem dX11_wants_72 : decode cX11_wants 72 = .ok (.getfield 87, 3) := by decide +kernel
theorem dX11_wants_75 : decode cX11_wants 75 = .ok (.iconst 4, 1) := by decide +kernel
theorem dX11_wants_76 : decode cX11_wants 76 = .ok (.aload_n 0, 1) := by decide +kernel
theorem dX11_wants_77 : decode cX11_wants 77 = .ok (.iload_n 1, 1) := by decide +kernel
theorem dX11_wants_78 : decode cX11_wants 78 = .ok (.iconst 3, 1) := by decide +kernel
theorem dX11_wants_79 : decode cX11_wants 79 = .ok (.invokevirtual 251, 3) := by decide +kernel
theorem dX11_wants_82 : decode cX11_wants 82 = .ok (.iastore, 1) := by decide +kernel
theorem dX11_wants_83 : decode cX11_wants 83 = .ok (.aload_n 0, 1) := by decide +kernel
theorem dX11_wants_84 : decode cX11_wants 84 = .ok (.aload_n 0, 1) := by decide +kernel
theorem dX11_wants_85 : decode cX11_wants 85 = .ok (.getfield 69, 3) := by decide +kernel
theorem dX11_wants_88 : decode cX11_wants 88 = .ok (.bipush 6, 2) := by decide +kernel
theorem dX11_wants_90 : decode cX11_wants 90 = .ok (.iaload, 1) := by decide +kernel
theorem dX11_wants_91 : decode cX11_wants 91 = .ok (.invokevirtual 269, 3) := by decide +kernel
theorem dX11_wants_94 : decode cX11_wants 94 = .ok (.ireturn, 1) := by decide +kernel
theorem dX11_goesTo_0 : decode cX11_goesTo 0 = .ok (.iconst 0, 1) := by decide +kernel
theorem dX11_goesTo_1 : decode cX11_goesTo 1 = .ok (.istore 4, 2) := by decide +kernel
theorem dX11_goesTo_3 : decode cX11_goesTo 3 = .ok (.iconst 0, 1) := by decide +kernel
theorem dX11_goesTo_4 : decode cX11_goesTo 4 = .ok (.istore 5, 2) := by decide +kernel
theorem dX11_goesTo_6 : decode cX11_goesTo 6 = .ok (.iconst 0, 1) := by decide +kernel
theorem dX11_goesTo_7 : decode cX11_goesTo 7 = .ok (.istore 6, 2) := by decide +kernel
theorem dX11_goesTo_9 : decode cX11_goesTo 9 = .ok (.iload 6, 2) := by decide +kernel
theorem dX11_goesTo_11 : decode cX11_goesTo 11 = .ok (.aload_n 0, 1) := by decide +kernel
theorem dX11_goesTo_12 : decode cX11_goesTo 12 = .ok (.invokevirtual 248, 3) := by decide +kernel
theorem dX11_goesTo_15 : decode cX11_goesTo 15 = .ok (.if_icmp .ge 72, 3) := by decide +kernel
theorem dX11_goesTo_18 : decode cX11_goesTo 18 = .ok (.aload_n 0, 1) := by decide +kernel
theorem dX11_goesTo_19 : decode cX11_goesTo 19 = .ok (.iload_n 2, 1) := by decide +kernel
theorem dX11_goesTo_20 : decode cX11_goesTo 20 = .ok (.iload 6, 2) := by decide +kernel
theorem dX11_goesTo_22 : decode cX11_goesTo 22 = .ok (.invokevirtual 254, 3) := by decide +kernel
theorem dX11_goesTo_25 : decode cX11_goesTo 25 = .ok (.ifCond .eq 15, 3) := by decide +kernel
theorem dX11_goesTo_28 : decode cX11_goesTo 28 = .ok (.aload_n 0, 1) := by decide +kernel
theorem dX11_goesTo_29 : decode cX11_goesTo 29 = .ok (.iload_n 1, 1) := by decide +kernel
theorem dX11_goesTo_30 : decode cX11_goesTo 30 = .ok (.iload_n 2, 1) := by decide +kernel
theorem dX11_goesTo_31 : decode cX11_goesTo 31 = .ok (.iload 6, 2) := by decide +kernel
theorem dX11_goesTo_33 : decode cX11_goesTo 33 = .ok (.iload_n 3, 1) := by decide +kernel
theorem dX11_goesTo_34 : decode cX11_goesTo 34 = .ok (.invokevirtual 272, 3) := by decide +kernel
theorem dX11_goesTo_37 : decode cX11_goesTo 37 = .ok (.goto 4, 3) := by decide +kernel
theorem dX11_goesTo_40 : decode cX11_goesTo 40 = .ok (.iconst 0, 1) := by decide +kernel
theorem dX11_goesTo_41 : decode cX11_goesTo 41 = .ok (.istore 7, 2) := by decide +kernel
theorem dX11_goesTo_43 : decode cX11_goesTo 43 = .ok (.iload 7, 2) := by decide +kernel
theorem dX11_goesTo_45 : decode cX11_goesTo 45 = .ok (.iload 5, 2) := by decide +kernel
theorem dX11_goesTo_47 : decode cX11_goesTo 47 = .ok (.if_icmp .le 10, 3) := by decide +kernel
theorem dX11_goesTo_50 : decode cX11_goesTo 50 = .ok (.iload 7, 2) := by decide +kernel
theorem dX11_goesTo_52 : decode cX11_goesTo 52 = .ok (.istore 5, 2) := by decide +kernel
theorem dX11_goesTo_54 : decode cX11_goesTo 54 = .ok (.iconst 0, 1) := by decide +kernel
theorem dX11_goesTo_55 : decode cX11_goesTo 55 = .ok (.istore 4, 2) := by decide +kernel
theorem dX11_goesTo_57 : decode cX11_goesTo 57 = .ok (.iload 7, 2) := by decide +kernel
theorem dX11_goesTo_59 : decode cX11_goesTo 59 = .ok (.ifCond .le 22, 3) := by decide +kernel
theorem dX11_goesTo_62 : decode cX11_goesTo 62 = .ok (.iload 7, 2) := by decide +kernel
theorem dX11_goesTo_64 : decode cX11_goesTo 64 = .ok (.iload 5, 2) := by decide +kernel
theorem dX11_goesTo_66 : decode cX11_goesTo 66 = .ok (.if_icmp .ne 15, 3) := by decide +kernel
theorem dX11_goesTo_69 : decode cX11_goesTo 69 = .ok (.aload_n 0, 1) := by decide +kernel
theorem dX11_goesTo_70 : decode cX11_goesTo 70 = .ok (.getfield 96, 3) := by decide +kernel
theorem dX11_goesTo_73 : decode cX11_goesTo 73 = .ok (.iload 4, 2) := by decide +kernel
theorem dX11_goesTo_75 : decode cX11_goesTo 75 = .ok (.iload 6, 2) := by decide +kernel
theorem dX11_goesTo_77 : decode cX11_goesTo 77 = .ok (.iastore, 1) := by decide +kernel
theorem dX11_goesTo_78 : decode cX11_goesTo 78 = .ok (.iinc 4 1, 3) := by decide +kernel
theorem dX11_goesTo_81 : decode cX11_goesTo 81 = .ok (.iinc 6 1, 3) := by decide +kernel
theorem dX11_goesTo_84 : decode cX11_goesTo 84 = .ok (.goto (-75), 3) := by decide +kernel
theorem dX11_goesTo_87 : decode cX11_goesTo 87 = .ok (.iload 4, 2) := by decide +kernel
theorem dX11_goesTo_89 : decode cX11_goesTo 89 = .ok (.ifCond .ne 7, 3) := by decide +kernel
theorem dX11_goesTo_92 : decode cX11_goesTo 92 = .ok (.iconst (-1), 1) := by decide +kernel
theorem dX11_goesTo_93 : decode cX11_goesTo 93 = .ok (.goto 29, 3) := by decide +kernel
theorem dX11_goesTo_96 : decode cX11_goesTo 96 = .ok (.iload 4, 2) := by decide +kernel
theorem dX11_goesTo_98 : decode cX11_goesTo 98 = .ok (.iconst 1, 1) := by decide +kernel
theorem dX11_goesTo_99 : decode cX11_goesTo 99 = .ok (.if_icmp .ne 12, 3) := by decide +kernel
theorem dX11_goesTo_102 : decode cX11_goesTo 102 = .ok (.aload_n 0, 1) := by decide +kernel
theorem dX11_goesTo_103 : decode cX11_goesTo 103 = .ok (.getfield 96, 3) := by decide +kernel
theorem dX11_goesTo_106 : decode cX11_goesTo 106 = .ok (.iconst 0, 1) := by decide +kernel
theorem dX11_goesTo_107 : decode cX11_goesTo 107 = .ok (.iaload, 1) := by decide +kernel
theorem dX11_goesTo_108 : decode cX11_goesTo 108 = .ok (.goto 14, 3) := by decide +kernel
theorem dX11_goesTo_111 : decode cX11_goesTo 111 = .ok (.aload_n 0, 1) := by decide +kernel
theorem dX11_goesTo_112 : decode cX11_goesTo 112 = .ok (.getfield 96, 3) := by decide +kernel
theorem dX11_goesTo_115 : decode cX11_goesTo 115 = .ok (.aload_n 0, 1) := by decide +kernel
theorem dX11_goesTo_116 : decode cX11_goesTo 116 = .ok (.iload 4, 2) := by decide +kernel
theorem dX11_goesTo_118 : decode cX11_goesTo 118 = .ok (.invokevirtual 276, 3) := by decide +kernel
theorem dX11_goesTo_121 : decode cX11_goesTo 121 = .ok (.iaload, 1) := by decide +kernel
theorem dX11_goesTo_122 : decode cX11_goesTo 122 = .ok (.ireturn, 1) := by decide +kernel
theorem dX11_takes_0 : decode cX11_takes 0 = .ok (.iload_n 3, 1) := by decide +kernel
theorem dX11_takes_1 : decode cX11_takes 1 = .ok (.iconst 1, 1) := by decide +kernel
theorem dX11_takes_2 : decode cX11_takes 2 = .ok (.iadd, 1) := by decide +kernel
theorem dX11_takes_3 : decode cX11_takes 3 = .ok (.iconst 2, 1) := by decide +kernel
theorem dX11_takes_4 : decode cX11_takes 4 = .ok (.idiv, 1) := by decide +kernel
theorem dX11_takes_5 : decode cX11_takes 5 = .ok (.aload_n 0, 1) := by decide +kernel
theorem dX11_takes_6 : decode cX11_takes 6 = .ok (.iload_n 2, 1) := by decide +kernel
theorem dX11_takes_7 : decode cX11_takes 7 = .ok (.iconst 1, 1) := by decide +kernel
theorem dX11_takes_8 : decode cX11_takes 8 = .ok (.invokevirtual 251, 3) := by decide +kernel
theorem dX11_takes_11 : decode cX11_takes 11 = .ok (.isub, 1) := by decide +kernel
theorem dX11_takes_12 : decode cX11_takes 12 = .ok (.istore 4, 2) := by decide +kernel
theorem dX11_takes_14 : decode cX11_takes 14 = .ok (.iload 4, 2) := by decide +kernel
theorem dX11_takes_16 : decode cX11_takes 16 = .ok (.ifCond .ge 7, 3) := by decide +kernel
theorem dX11_takes_19 : decode cX11_takes 19 = .ok (.iconst 0, 1) := by decide +kernel
theorem dX11_takes_20 : decode cX11_takes 20 = .ok (.goto 25, 3) := by decide +kernel
theorem dX11_takes_23 : decode cX11_takes 23 = .ok (.iload 4, 2) := by decide +kernel
theorem dX11_takes_25 : decode cX11_takes 25 = .ok (.aload_n 0, 1) := by decide +kernel
theorem dX11_takes_26 : decode cX11_takes 26 = .ok (.iload_n 2, 1) := by decide +kernel
theorem dX11_takes_27 : decode cX11_takes 27 = .ok (.iconst 0, 1) := by decide +kernel
theorem dX11_takes_28 : decode cX11_takes 28 = .ok (.invokevirtual 251, 3) := by decide +kernel
theorem dX11_takes_31 : decode cX11_takes 31 = .ok (.if_icmp .le 12, 3) := by decide +kernel
theorem dX11_takes_34 : decode cX11_takes 34 = .ok (.aload_n 0, 1) := by decide +kernel
theorem dX11_takes_35 : decode cX11_takes 35 = .ok (.iload_n 2, 1) := by decide +kernel
theorem dX11_takes_36 : decode cX11_takes 36 = .ok (.iconst 0, 1) := by decide +kernel
theorem dX11_takes_37 : decode cX11_takes 37 = .ok (.invokevirtual 251, 3) := by decide +kernel
theorem dX11_takes_40 : decode cX11_takes 40 = .ok (.goto 5, 3) := by decide +kernel
theorem dX11_takes_43 : decode cX11_takes 43 = .ok (.iload 4, 2) := by decide +kernel
theorem dX11_takes_45 : decode cX11_takes 45 = .ok (.istore 4, 2) := by decide +kernel
theorem dX11_takes_47 : decode cX11_takes 47 = .ok (.aload_n 0, 1) := by decide +kernel
theorem dX11_takes_48 : decode cX11_takes 48 = .ok (.iload_n 2, 1) := by decide +kernel
theorem dX11_takes_49 : decode cX11_takes 49 = .ok (.iconst 0, 1) := by decide +kernel
theorem dX11_takes_50 : decode cX11_takes 50 = .ok (.iload 4, 2) := by decide +kernel
theorem dX11_takes_52 : decode cX11_takes 52 = .ok (.ineg, 1) := by decide +kernel
theorem dX11_takes_53 : decode cX11_takes 53 = .ok (.invokevirtual 279, 3) := by decide +kernel
theorem dX11_takes_56 : decode cX11_takes 56 = .ok (.aload_n 0, 1) := by decide +kernel
theorem dX11_takes_57 : decode cX11_takes 57 = .ok (.iload_n 2, 1) := by decide +kernel
theorem dX11_takes_58 : decode cX11_takes 58 = .ok (.iconst 5, 1) := by decide +kernel
theorem dX11_takes_59 : decode cX11_takes 59 = .ok (.iload 4, 2) := by decide +kernel
theorem dX11_takes_61 : decode cX11_takes 61 = .ok (.invokevirtual 279, 3) := by decide +kernel
theorem dX11_takes_64 : decode cX11_takes 64 = .ok (.iload 4, 2) := by decide +kernel
theorem dX11_takes_66 : decode cX11_takes 66 = .ok (.ifCond .le 83, 3) := by decide +kernel
theorem dX11_takes_69 : decode cX11_takes 69 = .ok (.aload_n 0, 1) := by decide +kernel
theorem dX11_takes_70 : decode cX11_takes 70 = .ok (.getfield 69, 3) := by decide +kernel
theorem dX11_takes_73 : decode cX11_takes 73 = .ok (.iconst 3, 1) := by decide +kernel
theorem dX11_takes_74 : decode cX11_takes 74 = .ok (.iaload, 1) := by decide +kernel
theorem dX11_takes_75 : decode cX11_takes 75 = .ok (.istore 5, 2) := by decide +kernel
theorem dX11_takes_77 : decode cX11_takes 77 = .ok (.iload 5, 2) := by decide +kernel
theorem dX11_takes_79 : decode cX11_takes 79 = .ok (.sipush 200, 3) := by decide +kernel
theorem dX11_takes_82 : decode cX11_takes 82 = .ok (.if_icmp .ge 57, 3) := by decide +kernel
theorem dX11_takes_85 : decode cX11_takes 85 = .ok (.sipush 190, 3) := by decide +kernel
theorem dX11_takes_88 : decode cX11_takes 88 = .ok (.iconst 4, 1) := by decide +kernel
theorem dX11_takes_89 : decode cX11_takes 89 = .ok (.iload 5, 2) := by decide +kernel
theorem dX11_takes_91 : decode cX11_takes 91 = .ok (.imul, 1) := by decide +kernel
theorem dX11_takes_92 : decode cX11_takes 92 = .ok (.iadd, 1) := by decide +kernel
theorem dX11_takes_93 : decode cX11_takes 93 = .ok (.istore 6, 2) := by decide +kernel
theorem dX11_takes_95 : decode cX11_takes 95 = .ok (.aload_n 0, 1) := by decide +kernel
theorem dX11_takes_96 : decode cX11_takes 96 = .ok (.getfield 69, 3) := by decide +kernel
theorem dX11_takes_99 : decode cX11_takes 99 = .ok (.iload 6, 2) := by decide +kernel
theorem dX11_takes_101 : decode cX11_takes 101 = .ok (.aload_n 0, 1) := by decide +kernel
theorem dX11_takes_102 : decode cX11_takes 102 = .ok (.getfield 69, 3) := by decide +kernel
theorem dX11_takes_105 : decode cX11_takes 105 = .ok (.iconst 1, 1) := by decide +kernel
theorem dX11_takes_106 : decode cX11_takes 106 = .ok (.iaload, 1) := by decide +kernel
theorem dX11_takes_107 : decode cX11_takes 107 = .ok (.iastore, 1) := by decide +kernel
theorem dX11_takes_108 : decode cX11_takes 108 = .ok (.aload_n 0, 1) := by decide +kernel
theorem dX11_takes_109 : decode cX11_takes 109 = .ok (.getfield 69, 3) := by decide +kernel
theorem dX11_takes_112 : decode cX11_takes 112 = .ok (.iload 6, 2) := by decide +kernel
theorem dX11_takes_114 : decode cX11_takes 114 = .ok (.iconst 1, 1) := by decide +kernel
theorem dX11_takes_115 : decode cX11_takes 115 = .ok (.iadd, 1) := by decide +kernel
theorem dX11_takes_116 : decode cX11_takes 116 = .ok (.iload_n 2, 1) := by decide +kernel
theorem dX11_takes_117 : decode cX11_takes 117 = .ok (.iastore, 1) := by decide +kernel
theorem dX11_takes_118 : decode cX11_takes 118 = .ok (.aload_n 0, 1) := by decide +kernel
theorem dX11_takes_119 : decode cX11_takes 119 = .ok (.getfield 69, 3) := by decide +kernel
theorem dX11_takes_122 : decode cX11_takes 122 = .ok (.iload 6, 2) := by decide +kernel
theorem dX11_takes_124 : decode cX11_takes 124 = .ok (.iconst 2, 1) := by decide +kernel
theorem dX11_takes_125 : decode cX11_takes 125 = .ok (.iadd, 1) := by decide +kernel
theorem dX11_takes_126 : decode cX11_takes 126 = .ok (.iload_n 1, 1) := by decide +kernel
theorem dX11_takes_127 : decode cX11_takes 127 = .ok (.iastore, 1) := by decide +kernel
theorem dX11_takes_128 : decode cX11_takes 128 = .ok (.aload_n 0, 1) := by decide +kernel
theorem dX11_takes_129 : decode cX11_takes 129 = .ok (.getfield 69, 3) := by decide +kernel
theorem dX11_takes_132 : decode cX11_takes 132 = .ok (.iload 6, 2) := by decide +kernel
theorem dX11_takes_134 : decode cX11_takes 134 = .ok (.iconst 3, 1) := by decide +kernel
theorem dX11_takes_135 : decode cX11_takes 135 = .ok (.iadd, 1) := by decide +kernel
theorem dX11_takes_136 : decode cX11_takes 136 = .ok (.iload 4, 2) := by decide +kernel
theorem dX11_takes_138 : decode cX11_takes 138 = .ok (.iastore, 1) := by decide +kernel
theorem dX11_takes_139 : decode cX11_takes 139 = .ok (.aload_n 0, 1) := by decide +kernel
theorem dX11_takes_140 : decode cX11_takes 140 = .ok (.getfield 69, 3) := by decide +kernel
theorem dX11_takes_143 : decode cX11_takes 143 = .ok (.iconst 3, 1) := by decide +kernel
theorem dX11_takes_144 : decode cX11_takes 144 = .ok (.dup2, 1) := by decide +kernel
theorem dX11_takes_145 : decode cX11_takes 145 = .ok (.iaload, 1) := by decide +kernel
theorem dX11_takes_146 : decode cX11_takes 146 = .ok (.iconst 1, 1) := by decide +kernel
theorem dX11_takes_147 : decode cX11_takes 147 = .ok (.iadd, 1) := by decide +kernel
theorem dX11_takes_148 : decode cX11_takes 148 = .ok (.iastore, 1) := by decide +kernel
theorem dX11_takes_149 : decode cX11_takes 149 = .ok (.iload 4, 2) := by decide +kernel
theorem dX11_takes_151 : decode cX11_takes 151 = .ok (.ireturn, 1) := by decide +kernel
theorem dX11_hunts_0 : decode cX11_hunts 0 = .ok (.aload_n 0, 1) := by decide +kernel
theorem dX11_hunts_1 : decode cX11_hunts 1 = .ok (.iload_n 1, 1) := by decide +kernel
theorem dX11_hunts_2 : decode cX11_hunts 2 = .ok (.iconst 2, 1) := by decide +kernel
theorem dX11_hunts_3 : decode cX11_hunts 3 = .ok (.invokevirtual 251, 3) := by decide +kernel
theorem dX11_hunts_6 : decode cX11_hunts 6 = .ok (.istore_n 2, 1) := by decide +kernel
theorem dX11_hunts_7 : decode cX11_hunts 7 = .ok (.aload_n 0, 1) := by decide +kernel
theorem dX11_hunts_8 : decode cX11_hunts 8 = .ok (.iload_n 1, 1) := by decide +kernel
theorem dX11_hunts_9 : decode cX11_hunts 9 = .ok (.invokevirtual 283, 3) := by decide +kernel
theorem dX11_hunts_12 : decode cX11_hunts 12 = .ok (.istore_n 3, 1) := by decide +kernel
theorem dX11_hunts_13 : decode cX11_hunts 13 = .ok (.aload_n 0, 1) := by decide +kernel
theorem dX11_hunts_14 : decode cX11_hunts 14 = .ok (.iload_n 3, 1) := by decide +kernel
theorem dX11_hunts_15 : decode cX11_hunts 15 = .ok (.iload_n 2, 1) := by decide +kernel
theorem dX11_hunts_16 : decode cX11_hunts 16 = .ok (.invokevirtual 286, 3) := by decide +kernel
theorem dX11_hunts_19 : decode cX11_hunts 19 = .ok (.istore 4, 2) := by decide +kernel
theorem dX11_hunts_21 : decode cX11_hunts 21 = .ok (.aload_n 0, 1) := by decide +kernel
theorem dX11_hunts_22 : decode cX11_hunts 22 = .ok (.iload_n 3, 1) := by decide +kernel
theorem dX11_hunts_23 : decode cX11_hunts 23 = .ok (.iconst 0, 1) := by decide +kernel
theorem dX11_hunts_24 : decode cX11_hunts 24 = .ok (.iload 4, 2) := by decide +kernel
theorem dX11_hunts_26 : decode cX11_hunts 26 = .ok (.ineg, 1) := by decide +kernel
theorem dX11_hunts_27 : decode cX11_hunts 27 = .ok (.invokevirtual 279, 3) := by decide +kernel
theorem dX11_hunts_30 : decode cX11_hunts 30 = .ok (.aload_n 0, 1) := by decide +kernel
theorem dX11_hunts_31 : decode cX11_hunts 31 = .ok (.iload_n 3, 1) := by decide +kernel
theorem dX11_hunts_32 : decode cX11_hunts 32 = .ok (.iconst 4, 1) := by decide +kernel
theorem dX11_hunts_33 : decode cX11_hunts 33 = .ok (.iload 4, 2) := by decide +kernel
theorem dX11_hunts_35 : decode cX11_hunts 35 = .ok (.invokevirtual 279, 3) := by decide +kernel
theorem dX11_hunts_38 : decode cX11_hunts 38 = .ok (.iload_n 2, 1) := by decide +kernel
theorem dX11_hunts_39 : decode cX11_hunts 39 = .ok (.iload 4, 2) := by decide +kernel
theorem dX11_hunts_41 : decode cX11_hunts 41 = .ok (.isub, 1) := by decide +kernel
theorem dX11_hunts_42 : decode cX11_hunts 42 = .ok (.istore 5, 2) := by decide +kernel
theorem dX11_hunts_44 : decode cX11_hunts 44 = .ok (.iload 5, 2) := by decide +kernel
theorem dX11_hunts_46 : decode cX11_hunts 46 = .ok (.ifCond .le 14, 3) := by decide +kernel
theorem dX11_hunts_49 : decode cX11_hunts 49 = .ok (.aload_n 0, 1) := by decide +kernel
theorem dX11_hunts_50 : decode cX11_hunts 50 = .ok (.iload_n 1, 1) := by decide +kernel
theorem dX11_hunts_51 : decode cX11_hunts 51 = .ok (.iload_n 3, 1) := by decide +kernel
theorem dX11_hunts_52 : decode cX11_hunts 52 = .ok (.iload 5, 2) := by decide +kernel
theorem dX11_hunts_54 : decode cX11_hunts 54 = .ok (.invokevirtual 289, 3) := by decide +kernel
theorem dX11_hunts_57 : decode cX11_hunts 57 = .ok (.goto 4, 3) := by decide +kernel
theorem dX11_hunts_60 : decode cX11_hunts 60 = .ok (.iconst (-1), 1) := by decide +kernel
theorem dX11_hunts_61 : decode cX11_hunts 61 = .ok (.istore 6, 2) := by decide +kernel
theorem dX11_hunts_63 : decode cX11_hunts 63 = .ok (.iload 6, 2) := by decide +kernel
theorem dX11_hunts_65 : decode cX11_hunts 65 = .ok (.ifCond .ge 7, 3) := by decide +kernel
theorem dX11_hunts_68 : decode cX11_hunts 68 = .ok (.iconst 0, 1) := by decide +kernel
theorem dX11_hunts_69 : decode cX11_hunts 69 = .ok (.goto 12, 3) := by decide +kernel
theorem dX11_hunts_72 : decode cX11_hunts 72 = .ok (.aload_n 0, 1) := by decide +kernel
theorem dX11_hunts_73 : decode cX11_hunts 73 = .ok (.iload_n 1, 1) := by decide +kernel
theorem dX11_hunts_74 : decode cX11_hunts 74 = .ok (.iload 6, 2) := by decide +kernel
theorem dX11_hunts_76 : decode cX11_hunts 76 = .ok (.iload 5, 2) := by decide +kernel
theorem dX11_hunts_78 : decode cX11_hunts 78 = .ok (.invokevirtual 292, 3) := by decide +kernel
theorem dX11_hunts_81 : decode cX11_hunts 81 = .ok (.istore 7, 2) := by decide +kernel
theorem dX11_hunts_83 : decode cX11_hunts 83 = .ok (.iconst 2, 1) := by decide +kernel
theorem dX11_hunts_84 : decode cX11_hunts 84 = .ok (.iload 4, 2) := by decide +kernel
theorem dX11_hunts_86 : decode cX11_hunts 86 = .ok (.iload 7, 2) := by decide +kernel
theorem dX11_hunts_88 : decode cX11_hunts 88 = .ok (.iadd, 1) := by decide +kernel
theorem dX11_hunts_89 : decode cX11_hunts 89 = .ok (.imul, 1) := by decide +kernel
theorem dX11_hunts_90 : decode cX11_hunts 90 = .ok (.iload_n 2, 1) := by decide +kernel
theorem dX11_hunts_91 : decode cX11_hunts 91 = .ok (.if_icmp .ge 14, 3) := by decide +kernel
theorem dX11_hunts_94 : decode cX11_hunts 94 = .ok (.aload_n 0, 1) := by decide +kernel
theorem dX11_hunts_95 : decode cX11_hunts 95 = .ok (.iload_n 1, 1) := by decide +kernel
theorem dX11_hunts_96 : decode cX11_hunts 96 = .ok (.iconst 3, 1) := by decide +kernel
theorem dX11_hunts_97 : decode cX11_hunts 97 = .ok (.invokevirtual 251, 3) := by decide +kernel
theorem dX11_hunts_100 : decode cX11_hunts 100 = .ok (.iconst 1, 1) := by decide +kernel
theorem dX11_hunts_101 : decode cX11_hunts 101 = .ok (.iadd, 1) := by decide +kernel
theorem dX11_hunts_102 : decode cX11_hunts 102 = .ok (.goto 4, 3) := by decide +kernel
theorem dX11_hunts_105 : decode cX11_hunts 105 = .ok (.iconst 0, 1) := by decide +kernel
theorem dX11_hunts_106 : decode cX11_hunts 106 = .ok (.istore 8, 2) := by decide +kernel
theorem dX11_hunts_108 : decode cX11_hunts 108 = .ok (.iload 6, 2) := by decide +kernel
theorem dX11_hunts_110 : decode cX11_hunts 110 = .ok (.ifCond .lt 52, 3) := by decide +kernel
theorem dX11_hunts_113 : decode cX11_hunts 113 = .ok (.iload 8, 2) := by decide +kernel
theorem dX11_hunts_115 : decode cX11_hunts 115 = .ok (.iconst 3, 1) := by decide +kernel
theorem dX11_hunts_116 : decode cX11_hunts 116 = .ok (.if_icmp .lt 46, 3) := by decide +kernel
theorem dX11_hunts_119 : decode cX11_hunts 119 = .ok (.aload_n 0, 1) := by decide +kernel
theorem dX11_hunts_120 : decode cX11_hunts 120 = .ok (.getfield 69, 3) := by decide +kernel
theorem dX11_hunts_123 : decode cX11_hunts 123 = .ok (.sipush 146, 3) := by decide +kernel
theorem dX11_hunts_126 : decode cX11_hunts 126 = .ok (.bipush 6, 2) := by decide +kernel
theorem dX11_hunts_128 : decode cX11_hunts 128 = .ok (.iload_n 3, 1) := by decide +kernel
theorem dX11_hunts_129 : decode cX11_hunts 129 = .ok (.imul, 1) := by decide +kernel
theorem dX11_hunts_130 : decode cX11_hunts 130 = .ok (.iadd, 1) := by decide +kernel
theorem dX11_hunts_131 : decode cX11_hunts 131 = .ok (.iload 6, 2) := by decide +kernel
theorem dX11_hunts_133 : decode cX11_hunts 133 = .ok (.iadd, 1) := by decide +kernel
theorem dX11_hunts_134 : decode cX11_hunts 134 = .ok (.dup2, 1) := by decide +kernel
theorem dX11_hunts_135 : decode cX11_hunts 135 = .ok (.iaload, 1) := by decide +kernel
theorem dX11_hunts_136 : decode cX11_hunts 136 = .ok (.iconst 1, 1) := by decide +kernel
theorem dX11_hunts_137 : decode cX11_hunts 137 = .ok (.iadd, 1) := by decide +kernel
theorem dX11_hunts_138 : decode cX11_hunts 138 = .ok (.iastore, 1) := by decide +kernel
theorem dX11_hunts_139 : decode cX11_hunts 139 = .ok (.aload_n 0, 1) := by decide +kernel
theorem dX11_hunts_140 : decode cX11_hunts 140 = .ok (.getfield 69, 3) := by decide +kernel
theorem dX11_hunts_143 : decode cX11_hunts 143 = .ok (.sipush 146, 3) := by decide +kernel
theorem dX11_hunts_146 : decode cX11_hunts 146 = .ok (.bipush 6, 2) := by decide +kernel
theorem dX11_hunts_148 : decode cX11_hunts 148 = .ok (.iload 6, 2) := by decide +kernel
theorem dX11_hunts_150 : decode cX11_hunts 150 = .ok (.imul, 1) := by decide +kernel
theorem dX11_hunts_151 : decode cX11_hunts 151 = .ok (.iadd, 1) := by decide +kernel
theorem dX11_hunts_152 : decode cX11_hunts 152 = .ok (.iload_n 3, 1) := by decide +kernel
theorem dX11_hunts_153 : decode cX11_hunts 153 = .ok (.iadd, 1) := by decide +kernel
theorem dX11_hunts_154 : decode cX11_hunts 154 = .ok (.dup2, 1) := by decide +kernel
theorem dX11_hunts_155 : decode cX11_hunts 155 = .ok (.iaload, 1) := by decide +kernel
theorem dX11_hunts_156 : decode cX11_hunts 156 = .ok (.iconst 1, 1) := by decide +kernel
theorem dX11_hunts_157 : decode cX11_hunts 157 = .ok (.iadd, 1) := by decide +kernel
theorem dX11_hunts_158 : decode cX11_hunts 158 = .ok (.iastore, 1) := by decide +kernel
theorem dX11_hunts_159 : decode cX11_hunts 159 = .ok (.iconst 0, 1) := by decide +kernel
theorem dX11_hunts_160 : decode cX11_hunts 160 = .ok (.istore 8, 2) := by decide +kernel
theorem dX11_hunts_162 : decode cX11_hunts 162 = .ok (.aload_n 0, 1) := by decide +kernel
theorem dX11_hunts_163 : decode cX11_hunts 163 = .ok (.getfield 69, 3) := by decide +kernel
theorem dX11_hunts_166 : decode cX11_hunts 166 = .ok (.bipush 8, 2) := by decide +kernel
theorem dX11_hunts_168 : decode cX11_hunts 168 = .ok (.bipush 7, 2) := by decide +kernel
theorem dX11_hunts_170 : decode cX11_hunts 170 = .ok (.iload_n 1, 1) := by decide +kernel
theorem dX11_hunts_171 : decode cX11_hunts 171 = .ok (.imul, 1) := by decide +kernel
theorem dX11_hunts_172 : decode cX11_hunts 172 = .ok (.iadd, 1) := by decide +kernel
theorem dX11_hunts_173 : decode cX11_hunts 173 = .ok (.iconst 3, 1) := by decide +kernel
theorem dX11_hunts_174 : decode cX11_hunts 174 = .ok (.iadd, 1) := by decide +kernel
theorem dX11_hunts_175 : decode cX11_hunts 175 = .ok (.iload 8, 2) := by decide +kernel
theorem dX11_hunts_177 : decode cX11_hunts 177 = .ok (.iastore, 1) := by decide +kernel
theorem dX11_hunts_178 : decode cX11_hunts 178 = .ok (.return_, 1) := by decide +kernel
theorem dX11_passes_0 : decode cX11_passes 0 = .ok (.iconst 0, 1) := by decide +kernel
theorem dX11_passes_1 : decode cX11_passes 1 = .ok (.istore_n 2, 1) := by decide +kernel
theorem dX11_passes_2 : decode cX11_passes 2 = .ok (.iload_n 2, 1) := by decide +kernel
theorem dX11_passes_3 : decode cX11_passes 3 = .ok (.iload_n 1, 1) := by decide +kernel
theorem dX11_passes_4 : decode cX11_passes 4 = .ok (.if_icmp .ge 125, 3) := by decide +kernel
theorem dX11_passes_7 : decode cX11_passes 7 = .ok (.iconst 0, 1) := by decide +kernel
theorem dX11_passes_8 : decode cX11_passes 8 = .ok (.istore_n 3, 1) := by decide +kernel
theorem dX11_passes_9 : decode cX11_passes 9 = .ok (.iload_n 3, 1) := by decide +kernel
theorem dX11_passes_10 : decode cX11_passes 10 = .ok (.aload_n 0, 1) := by decide +kernel
theorem dX11_passes_11 : decode cX11_passes 11 = .ok (.invokevirtual 248, 3) := by decide +kernel
theorem dX11_passes_14 : decode cX11_passes 14 = .ok (.if_icmp .ge 23, 3) := by decide +kernel
theorem dX11_passes_17 : decode cX11_passes 17 = .ok (.aload_n 0, 1) := by decide +kernel
theorem dX11_passes_18 : decode cX11_passes 18 = .ok (.iload_n 3, 1) := by decide +kernel
theorem dX11_passes_19 : decode cX11_passes 19 = .ok (.iconst 2, 1) := by decide +kernel
theorem dX11_passes_20 : decode cX11_passes 20 = .ok (.invokevirtual 251, 3) := by decide +kernel
theorem dX11_passes_23 : decode cX11_passes 23 = .ok (.ifCond .le 8, 3) := by decide +kernel
theorem dX11_passes_26 : decode cX11_passes 26 = .ok (.aload_n 0, 1) := by decide +kernel
theorem dX11_passes_27 : decode cX11_passes 27 = .ok (.iload_n 3, 1) := by decide +kernel
theorem dX11_passes_28 : decode cX11_passes 28 = .ok (.invokevirtual 295, 3) := by decide +kernel
theorem dX11_passes_31 : decode cX11_passes 31 = .ok (.iinc 3 1, 3) := by decide +kernel
theorem dX11_passes_34 : decode cX11_passes 34 = .ok (.goto (-25), 3) := by decide +kernel
theorem dX11_passes_37 : decode cX11_passes 37 = .ok (.aload_n 0, 1) := by decide +kernel
theorem dX11_passes_38 : decode cX11_passes 38 = .ok (.getfield 69, 3) := by decide +kernel
theorem dX11_passes_41 : decode cX11_passes 41 = .ok (.iconst 1, 1) := by decide +kernel
theorem dX11_passes_42 : decode cX11_passes 42 = .ok (.dup2, 1) := by decide +kernel
theorem dX11_passes_43 : decode cX11_passes 43 = .ok (.iaload, 1) := by decide +kernel
theorem dX11_passes_44 : decode cX11_passes 44 = .ok (.iconst 1, 1) := by decide +kernel
theorem dX11_passes_45 : decode cX11_passes 45 = .ok (.iadd, 1) := by decide +kernel
theorem dX11_passes_46 : decode cX11_passes 46 = .ok (.iastore, 1) := by decide +kernel
theorem dX11_passes_47 : decode cX11_passes 47 = .ok (.iconst 0, 1) := by decide +kernel
theorem dX11_passes_48 : decode cX11_passes 48 = .ok (.istore_n 3, 1) := by decide +kernel
theorem dX11_passes_49 : decode cX11_passes 49 = .ok (.iload_n 3, 1) := by decide +kernel
theorem dX11_passes_50 : decode cX11_passes 50 = .ok (.aload_n 0, 1) := by decide +kernel
theorem dX11_passes_51 : decode cX11_passes 51 = .ok (.invokevirtual 248, 3) := by decide +kernel
theorem dX11_passes_54 : decode cX11_passes 54 = .ok (.if_icmp .ge 69, 3) := by decide +kernel
theorem dX11_passes_57 : decode cX11_passes 57 = .ok (.aload_n 0, 1) := by decide +kernel
theorem dX11_passes_58 : decode cX11_passes 58 = .ok (.getfield 69, 3) := by decide +kernel
theorem dX11_passes_61 : decode cX11_passes 61 = .ok (.iconst 1, 1) := by decide +kernel
theorem dX11_passes_62 : decode cX11_passes 62 = .ok (.iaload, 1) := by decide +kernel
theorem dX11_passes_63 : decode cX11_passes 63 = .ok (.bipush 28, 2) := by decide +kernel
theorem dX11_passes_65 : decode cX11_passes 65 = .ok (.irem, 1) := by decide +kernel
theorem dX11_passes_66 : decode cX11_passes 66 = .ok (.ifCond .ne 57, 3) := by decide +kernel
theorem dX11_passes_69 : decode cX11_passes 69 = .ok (.aload_n 0, 1) := by decide +kernel
theorem dX11_passes_70 : decode cX11_passes 70 = .ok (.iload_n 3, 1) := by decide +kernel
theorem dX11_passes_71 : decode cX11_passes 71 = .ok (.iconst 0, 1) := by decide +kernel
theorem dX11_passes_72 : decode cX11_passes 72 = .ok (.invokevirtual 251, 3) := by decide +kernel
theorem dX11_passes_75 : decode cX11_passes 75 = .ok (.aload_n 0, 1) := by decide +kernel
theorem dX11_passes_76 : decode cX11_passes 76 = .ok (.iload_n 3, 1) := by decide +kernel
theorem dX11_passes_77 : decode cX11_passes 77 = .ok (.iconst 0, 1) := by decide +kernel
theorem dX11_passes_78 : decode cX11_passes 78 = .ok (.invokevirtual 251, 3) := by decide +kernel
theorem dX11_passes_81 : decode cX11_passes 81 = .ok (.bipush 10, 2) := by decide +kernel
theorem dX11_passes_83 : decode cX11_passes 83 = .ok (.idiv, 1) := by decide +kernel
theorem dX11_passes_84 : decode cX11_passes 84 = .ok (.iadd, 1) := by decide +kernel
theorem dX11_passes_85 : decode cX11_passes 85 = .ok (.istore 4, 2) := by decide +kernel
theorem dX11_passes_87 : decode cX11_passes 87 = .ok (.aload_n 0, 1) := by decide +kernel
theorem dX11_passes_88 : decode cX11_passes 88 = .ok (.getfield 69, 3) := by decide +kernel
theorem dX11_passes_91 : decode cX11_passes 91 = .ok (.bipush 8, 2) := by decide +kernel
theorem dX11_passes_93 : decode cX11_passes 93 = .ok (.bipush 7, 2) := by decide +kernel
theorem dX11_passes_95 : decode cX11_passes 95 = .ok (.iload_n 3, 1) := by decide +kernel
theorem dX11_passes_96 : decode cX11_passes 96 = .ok (.imul, 1) := by decide +kernel
theorem dX11_passes_97 : decode cX11_passes 97 = .ok (.iadd, 1) := by decide +kernel
theorem dX11_passes_98 : decode cX11_passes 98 = .ok (.iconst 0, 1) := by decide +kernel
theorem dX11_passes_99 : decode cX11_passes 99 = .ok (.iadd, 1) := by decide +kernel
theorem dX11_passes_100 : decode cX11_passes 100 = .ok (.iload 4, 2) := by decide +kernel
theorem dX11_passes_102 : decode cX11_passes 102 = .ok (.sipush 9999, 3) := by decide +kernel
theorem dX11_passes_105 : decode cX11_passes 105 = .ok (.if_icmp .le 9, 3) := by decide +kernel
theorem dX11_passes_108 : decode cX11_passes 108 = .ok (.sipush 9999, 3) := by decide +kernel
theorem dX11_passes_111 : decode cX11_passes 111 = .ok (.goto 5, 3) := by decide +kernel
theorem dX11_passes_114 : decode cX11_passes 114 = .ok (.iload 4, 2) := by decide +kernel
theorem dX11_passes_116 : decode cX11_passes 116 = .ok (.iastore, 1) := by decide +kernel
theorem dX11_passes_117 : decode cX11_passes 117 = .ok (.iinc 3 1, 3) := by decide +kernel
theorem dX11_passes_120 : decode cX11_passes 120 = .ok (.goto (-71), 3) := by decide +kernel
theorem dX11_passes_123 : decode cX11_passes 123 = .ok (.iinc 2 1, 3) := by decide +kernel
theorem dX11_passes_126 : decode cX11_passes 126 = .ok (.goto (-124), 3) := by decide +kernel
theorem dX11_passes_129 : decode cX11_passes 129 = .ok (.return_, 1) := by decide +kernel
theorem dX11_farm_0 : decode cX11_farm 0 = .ok (.aload_n 0, 1) := by decide +kernel
theorem dX11_farm_1 : decode cX11_farm 1 = .ok (.iconst 0, 1) := by decide +kernel
theorem dX11_farm_2 : decode cX11_farm 2 = .ok (.putfield 1, 3) := by decide +kernel
theorem dX11_farm_5 : decode cX11_farm 5 = .ok (.aload_n 0, 1) := by decide +kernel
theorem dX11_farm_6 : decode cX11_farm 6 = .ok (.iload_n 1, 1) := by decide +kernel
theorem dX11_farm_7 : decode cX11_farm 7 = .ok (.invokevirtual 298, 3) := by decide +kernel
theorem dX11_farm_10 : decode cX11_farm 10 = .ok (.ifCond .eq 13, 3) := by decide +kernel
theorem dX11_farm_13 : decode cX11_farm 13 = .ok (.iload_n 2, 1) := by decide +kernel
theorem dX11_farm_14 : decode cX11_farm 14 = .ok (.iconst 0, 1) := by decide +kernel
theorem dX11_farm_15 : decode cX11_farm 15 = .ok (.bipush 6, 2) := by decide +kernel
theorem dX11_farm_17 : decode cX11_farm 17 = .ok (.invokestatic 301, 3) := by decide +kernel
theorem dX11_farm_20 : decode cX11_farm 20 = .ok (.ifCond .ne 5, 3) := by decide +kernel
theorem dX11_farm_23 : decode cX11_farm 23 = .ok (.iconst (-1), 1) := by decide +kernel
theorem dX11_farm_24 : decode cX11_farm 24 = .ok (.ireturn, 1) := by decide +kernel
theorem dX11_farm_25 : decode cX11_farm 25 = .ok (.iconst 0, 1) := by decide +kernel
theorem dX11_farm_26 : decode cX11_farm 26 = .ok (.istore_n 3, 1) := by decide +kernel
theorem dX11_farm_27 : decode cX11_farm 27 = .ok (.iconst 0, 1) := by decide +kernel
theorem dX11_farm_28 : decode cX11_farm 28 = .ok (.istore 4, 2) := by decide +kernel
theorem dX11_farm_30 : decode cX11_farm 30 = .ok (.iload 4, 2) := by decide +kernel
theorem dX11_farm_32 : decode cX11_farm 32 = .ok (.aload_n 0, 1) := by decide +kernel
theorem dX11_farm_33 : decode cX11_farm 33 = .ok (.invokevirtual 248, 3) := by decide +kernel
theorem dX11_farm_36 : decode cX11_farm 36 = .ok (.if_icmp .ge 38, 3) := by decide +kernel
theorem dX11_farm_39 : decode cX11_farm 39 = .ok (.iload_n 3, 1) := by decide +kernel
theorem dX11_farm_40 : decode cX11_farm 40 = .ok (.aload_n 0, 1) := by decide +kernel
theorem dX11_farm_41 : decode cX11_farm 41 = .ok (.getfield 69, 3) := by decide +kernel
theorem dX11_farm_44 : decode cX11_farm 44 = .ok (.bipush 110, 2) := by decide +kernel
theorem dX11_farm_46 : decode cX11_farm 46 = .ok (.bipush 6, 2) := by decide +kernel
theorem dX11_farm_48 : decode cX11_farm 48 = .ok (.iload_n 1, 1) := by decide +kernel
theorem dX11_farm_49 : decode cX11_farm 49 = .ok (.imul, 1) := by decide +kernel
theorem dX11_farm_50 : decode cX11_farm 50 = .ok (.iadd, 1) := by decide +kernel
theorem dX11_farm_51 : decode cX11_farm 51 = .ok (.iload 4, 2) := by decide +kernel
theorem dX11_farm_53 : decode cX11_farm 53 = .ok (.iadd, 1) := by decide +kernel
theorem dX11_farm_54 : decode cX11_farm 54 = .ok (.iaload, 1) := by decide +kernel
theorem dX11_farm_55 : decode cX11_farm 55 = .ok (.ifCond .le 10, 3) := by decide +kernel
theorem dX11_farm_58 : decode cX11_farm 58 = .ok (.iconst 1, 1) := by decide +kernel
theorem dX11_farm_59 : decode cX11_farm 59 = .ok (.iload 4, 2) := by decide +kernel
theorem dX11_farm_61 : decode cX11_farm 61 = .ok (.ishl, 1) := by decide +kernel
theorem dX11_farm_62 : decode cX11_farm 62 = .ok (.goto 4, 3) := by decide +kernel
theorem dX11_farm_65 : decode cX11_farm 65 = .ok (.iconst 0, 1) := by decide +kernel
theorem dX11_farm_66 : decode cX11_farm 66 = .ok (.ior, 1) := by decide +kernel
theorem dX11_farm_67 : decode cX11_farm 67 = .ok (.istore_n 3, 1) := by decide +kernel
theorem dX11_farm_68 : decode cX11_farm 68 = .ok (.iinc 4 1, 3) := by decide +kernel
theorem dX11_farm_71 : decode cX11_farm 71 = .ok (.goto (-41), 3) := by decide +kernel
theorem dX11_farm_74 : decode cX11_farm 74 = .ok (.iload_n 2, 1) := by decide +kernel
theorem dX11_farm_75 : decode cX11_farm 75 = .ok (.iconst 4, 1) := by decide +kernel
theorem dX11_farm_76 : decode cX11_farm 76 = .ok (.if_icmp .ge 12, 3) := by decide +kernel
theorem dX11_farm_79 : decode cX11_farm 79 = .ok (.aload_n 0, 1) := by decide +kernel
theorem dX11_farm_80 : decode cX11_farm 80 = .ok (.iload_n 1, 1) := by decide +kernel
theorem dX11_farm_81 : decode cX11_farm 81 = .ok (.iload_n 2, 1) := by decide +kernel
theorem dX11_farm_82 : decode cX11_farm 82 = .ok (.invokevirtual 251, 3) := by decide +kernel
theorem dX11_farm_85 : decode cX11_farm 85 = .ok (.goto 30, 3) := by decide +kernel
theorem dX11_farm_88 : decode cX11_farm 88 = .ok (.iload_n 2, 1) := by decide +kernel
theorem dX11_farm_89 : decode cX11_farm 89 = .ok (.iconst 4, 1) := by decide +kernel
theorem dX11_farm_90 : decode cX11_farm 90 = .ok (.if_icmp .ne 11, 3) := by decide +kernel
theorem dX11_farm_93 : decode cX11_farm 93 = .ok (.aload_n 0, 1) := by decide +kernel
theorem dX11_farm_94 : decode cX11_farm 94 = .ok (.iload_n 1, 1) := by decide +kernel
theorem dX11_farm_95 : decode cX11_farm 95 = .ok (.invokevirtual 283, 3) := by decide +kernel
theorem dX11_farm_98 : decode cX11_farm 98 = .ok (.goto 17, 3) := by decide +kernel
theorem dX11_farm_101 : decode cX11_farm 101 = .ok (.iload_n 2, 1) := by decide +kernel
theorem dX11_farm_102 : decode cX11_farm 102 = .ok (.iconst 5, 1) := by decide +kernel
theorem dX11_farm_103 : decode cX11_farm 103 = .ok (.if_icmp .ne 11, 3) := by decide +kernel
theorem dX11_farm_106 : decode cX11_farm 106 = .ok (.aload_n 0, 1) := by decide +kernel
theorem dX11_farm_107 : decode cX11_farm 107 = .ok (.iload_n 1, 1) := by decide +kernel
theorem dX11_farm_108 : decode cX11_farm 108 = .ok (.invokevirtual 305, 3) := by decide +kernel
theorem dX11_farm_111 : decode cX11_farm 111 = .ok (.goto 4, 3) := by decide +kernel
theorem dX11_farm_114 : decode cX11_farm 114 = .ok (.iload_n 3, 1) := by decide +kernel
theorem dX11_farm_115 : decode cX11_farm 115 = .ok (.ireturn, 1) := by decide +kernel
theorem dX11_tooth_0 : decode cX11_tooth 0 = .ok (.aload_n 0, 1) := by decide +kernel
theorem dX11_tooth_1 : decode cX11_tooth 1 = .ok (.iconst 0, 1) := by decide +kernel
theorem dX11_tooth_2 : decode cX11_tooth 2 = .ok (.putfield 1, 3) := by decide +kernel
theorem dX11_tooth_5 : decode cX11_tooth 5 = .ok (.aload_n 0, 1) := by decide +kernel
theorem dX11_tooth_6 : decode cX11_tooth 6 = .ok (.iload_n 1, 1) := by decide +kernel
theorem dX11_tooth_7 : decode cX11_tooth 7 = .ok (.invokevirtual 298, 3) := by decide +kernel
theorem dX11_tooth_10 : decode cX11_tooth 10 = .ok (.ifCond .eq 30, 3) := by decide +kernel
theorem dX11_tooth_13 : decode cX11_tooth 13 = .ok (.iload_n 2, 1) := by decide +kernel
theorem dX11_tooth_14 : decode cX11_tooth 14 = .ok (.iconst 1, 1) := by decide +kernel
theorem dX11_tooth_15 : decode cX11_tooth 15 = .ok (.iconst 4, 1) := by decide +kernel
theorem dX11_tooth_16 : decode cX11_tooth 16 = .ok (.invokestatic 301, 3) := by decide +kernel
theorem dX11_tooth_19 : decode cX11_tooth 19 = .ok (.ifCond .eq 21, 3) := by decide +kernel
theorem dX11_tooth_22 : decode cX11_tooth 22 = .ok (.aload_n 0, 1) := by decide +kernel
theorem dX11_tooth_23 : decode cX11_tooth 23 = .ok (.getfield 69, 3) := by decide +kernel
theorem dX11_tooth_26 : decode cX11_tooth 26 = .ok (.bipush 50, 2) := by decide +kernel
theorem dX11_tooth_28 : decode cX11_tooth 28 = .ok (.iconst 4, 1) := by decide +kernel
theorem dX11_tooth_29 : decode cX11_tooth 29 = .ok (.iload_n 1, 1) := by decide +kernel
theorem dX11_tooth_30 : decode cX11_tooth 30 = .ok (.imul, 1) := by decide +kernel
theorem dX11_tooth_31 : decode cX11_tooth 31 = .ok (.iadd, 1) := by decide +kernel
theorem dX11_tooth_32 : decode cX11_tooth 32 = .ok (.iload_n 2, 1) := by decide +kernel
theorem dX11_tooth_33 : decode cX11_tooth 33 = .ok (.iadd, 1) := by decide +kernel
theorem dX11_tooth_34 : decode cX11_tooth 34 = .ok (.iconst 1, 1) := by decide +kernel
theorem dX11_tooth_35 : decode cX11_tooth 35 = .ok (.isub, 1) := by decide +kernel
theorem dX11_tooth_36 : decode cX11_tooth 36 = .ok (.iaload, 1) := by decide +kernel
theorem dX11_tooth_37 : decode cX11_tooth 37 = .ok (.goto 4, 3) := by decide +kernel
theorem dX11_tooth_40 : decode cX11_tooth 40 = .ok (.iconst (-1), 1) := by decide +kernel
theorem dX11_tooth_41 : decode cX11_tooth 41 = .ok (.ireturn, 1) := by decide +kernel
theorem dX11_seed_0 : decode cX11_seed 0 = .ok (.aload_n 0, 1) := by decide +kernel
theorem dX11_seed_1 : decode cX11_seed 1 = .ok (.iconst 0, 1) := by decide +kernel
theorem dX11_seed_2 : decode cX11_seed 2 = .ok (.putfield 1, 3) := by decide +kernel
theorem dX11_seed_5 : decode cX11_seed 5 = .ok (.iload_n 1, 1) := by decide +kernel
theorem dX11_seed_6 : decode cX11_seed 6 = .ok (.iconst 0, 1) := by decide +kernel
theorem dX11_seed_7 : decode cX11_seed 7 = .ok (.sipush 9999, 3) := by decide +kernel
theorem dX11_seed_10 : decode cX11_seed 10 = .ok (.invokestatic 301, 3) := by decide +kernel
theorem dX11_seed_13 : decode cX11_seed 13 = .ok (.ifCond .ne 5, 3) := by decide +kernel
theorem dX11_seed_16 : decode cX11_seed 16 = .ok (.iconst 0, 1) := by decide +kernel
theorem dX11_seed_17 : decode cX11_seed 17 = .ok (.ireturn, 1) := by decide +kernel
theorem dX11_seed_18 : decode cX11_seed 18 = .ok (.aload_n 0, 1) := by decide +kernel
theorem dX11_seed_19 : decode cX11_seed 19 = .ok (.getfield 69, 3) := by decide +kernel
theorem dX11_seed_22 : decode cX11_seed 22 = .ok (.iconst 2, 1) := by decide +kernel
theorem dX11_seed_23 : decode cX11_seed 23 = .ok (.iload_n 1, 1) := by decide +kernel
theorem dX11_seed_24 : decode cX11_seed 24 = .ok (.iastore, 1) := by decide +kernel
theorem dX11_seed_25 : decode cX11_seed 25 = .ok (.iconst 1, 1) := by decide +kernel
theorem dX11_seed_26 : decode cX11_seed 26 = .ok (.ireturn, 1) := by decide +kernel
theorem dX11_nights_0 : decode cX11_nights 0 = .ok (.aload_n 0, 1) := by decide +kernel
theorem dX11_nights_1 : decode cX11_nights 1 = .ok (.iconst 0, 1) := by decide +kernel
theorem dX11_nights_2 : decode cX11_nights 2 = .ok (.putfield 1, 3) := by decide +kernel
theorem dX11_nights_5 : decode cX11_nights 5 = .ok (.iload_n 1, 1) := by decide +kernel
theorem dX11_nights_6 : decode cX11_nights 6 = .ok (.iconst 1, 1) := by decide +kernel
theorem dX11_nights_7 : decode cX11_nights 7 = .ok (.sipush 1000, 3) := by decide +kernel
theorem dX11_nights_10 : decode cX11_nights 10 = .ok (.invokestatic 301, 3) := by decide +kernel
theorem dX11_nights_13 : decode cX11_nights 13 = .ok (.ifCond .ne 5, 3) := by decide +kernel
theorem dX11_nights_16 : decode cX11_nights 16 = .ok (.iconst (-1), 1) := by decide +kernel
theorem dX11_nights_17 : decode cX11_nights 17 = .ok (.ireturn, 1) := by decide +kernel
theorem dX11_nights_18 : decode cX11_nights 18 = .ok (.aload_n 0, 1) := by decide +kernel
theorem dX11_nights_19 : decode cX11_nights 19 = .ok (.iload_n 1, 1) := by decide +kernel
theorem dX11_nights_20 : decode cX11_nights 20 = .ok (.invokevirtual 308, 3) := by decide +kernel
theorem dX11_nights_23 : decode cX11_nights 23 = .ok (.aload_n 0, 1) := by decide +kernel
theorem dX11_nights_24 : decode cX11_nights 24 = .ok (.getfield 69, 3) := by decide +kernel
theorem dX11_nights_27 : decode cX11_nights 27 = .ok (.iconst 1, 1) := by decide +kernel
theorem dX11_nights_28 : decode cX11_nights 28 = .ok (.iaload, 1) := by decide +kernel
theorem dX11_nights_29 : decode cX11_nights 29 = .ok (.ireturn, 1) := by decide +kernel
theorem dX11_pact_0 : decode cX11_pact 0 = .ok (.aload_n 0, 1) := by decide +kernel
theorem dX11_pact_1 : decode cX11_pact 1 = .ok (.iconst 0, 1) := by decide +kernel
theorem dX11_pact_2 : decode cX11_pact 2 = .ok (.putfield 1, 3) := by decide +kernel
theorem dX11_pact_5 : decode cX11_pact 5 = .ok (.aload_n 0, 1) := by decide +kernel
theorem dX11_pact_6 : decode cX11_pact 6 = .ok (.iload_n 1, 1) := by decide +kernel
theorem dX11_pact_7 : decode cX11_pact 7 = .ok (.invokevirtual 298, 3) := by decide +kernel
theorem dX11_pact_10 : decode cX11_pact 10 = .ok (.ifCond .eq 42, 3) := by decide +kernel
theorem dX11_pact_13 : decode cX11_pact 13 = .ok (.aload_n 0, 1) := by decide +kernel
theorem dX11_pact_14 : decode cX11_pact 14 = .ok (.iload_n 2, 1) := by decide +kernel
theorem dX11_pact_15 : decode cX11_pact 15 = .ok (.invokevirtual 298, 3) := by decide +kernel
theorem dX11_pact_18 : decode cX11_pact 18 = .ok (.ifCond .eq 34, 3) := by decide +kernel
theorem dX11_pact_21 : decode cX11_pact 21 = .ok (.iload_n 1, 1) := by decide +kernel
theorem dX11_pact_22 : decode cX11_pact 22 = .ok (.iload_n 2, 1) := by decide +kernel
theorem dX11_pact_23 : decode cX11_pact 23 = .ok (.if_icmp .eq 29, 3) := by decide +kernel
theorem dX11_pact_26 : decode cX11_pact 26 = .ok (.aload_n 0, 1) := by decide +kernel
theorem dX11_pact_27 : decode cX11_pact 27 = .ok (.getfield 69, 3) := by decide +kernel
theorem dX11_pact_30 : decode cX11_pact 30 = .ok (.bipush 110, 2) := by decide +kernel
theorem dX11_pact_32 : decode cX11_pact 32 = .ok (.bipush 6, 2) := by decide +kernel
theorem dX11_pact_34 : decode cX11_pact 34 = .ok (.iload_n 1, 1) := by decide +kernel
theorem dX11_pact_35 : decode cX11_pact 35 = .ok (.imul, 1) := by decide +kernel
theorem dX11_pact_36 : decode cX11_pact 36 = .ok (.iadd, 1) := by decide +kernel
theorem dX11_pact_37 : decode cX11_pact 37 = .ok (.iload_n 2, 1) := by decide +kernel
theorem dX11_pact_38 : decode cX11_pact 38 = .ok (.iadd, 1) := by decide +kernel
theorem dX11_pact_39 : decode cX11_pact 39 = .ok (.iaload, 1) := by decide +kernel
theorem dX11_pact_40 : decode cX11_pact 40 = .ok (.ifCond .le 7, 3) := by decide +kernel
theorem dX11_pact_43 : decode cX11_pact 43 = .ok (.iconst 1, 1) := by decide +kernel
theorem dX11_pact_44 : decode cX11_pact 44 = .ok (.goto 4, 3) := by decide +kernel
theorem dX11_pact_47 : decode cX11_pact 47 = .ok (.iconst 0, 1) := by decide +kernel
theorem dX11_pact_48 : decode cX11_pact 48 = .ok (.iload_n 3, 1) := by decide +kernel
theorem dX11_pact_49 : decode cX11_pact 49 = .ok (.if_icmp .ne 5, 3) := by decide +kernel
theorem dX11_pact_52 : decode cX11_pact 52 = .ok (.iconst 0, 1) := by decide +kernel
theorem dX11_pact_53 : decode cX11_pact 53 = .ok (.ireturn, 1) := by decide +kernel
theorem dX11_pact_54 : decode cX11_pact 54 = .ok (.aload_n 0, 1) := by decide +kernel
theorem dX11_pact_55 : decode cX11_pact 55 = .ok (.getfield 69, 3) := by decide +kernel
theorem dX11_pact_58 : decode cX11_pact 58 = .ok (.bipush 110, 2) := by decide +kernel
theorem dX11_pact_60 : decode cX11_pact 60 = .ok (.bipush 6, 2) := by decide +kernel
theorem dX11_pact_62 : decode cX11_pact 62 = .ok (.iload_n 1, 1) := by decide +kernel
theorem dX11_pact_63 : decode cX11_pact 63 = .ok (.imul, 1) := by decide +kernel
theorem dX11_pact_64 : decode cX11_pact 64 = .ok (.iadd, 1) := by decide +kernel
theorem dX11_pact_65 : decode cX11_pact 65 = .ok (.iload_n 2, 1) := by decide +kernel
theorem dX11_pact_66 : decode cX11_pact 66 = .ok (.iadd, 1) := by decide +kernel
theorem dX11_pact_67 : decode cX11_pact 67 = .ok (.iload_n 3, 1) := by decide +kernel
theorem dX11_pact_68 : decode cX11_pact 68 = .ok (.ifCond .eq 7, 3) := by decide +kernel
theorem dX11_pact_71 : decode cX11_pact 71 = .ok (.iconst 1, 1) := by decide +kernel
theorem dX11_pact_72 : decode cX11_pact 72 = .ok (.goto 4, 3) := by decide +kernel
theorem dX11_pact_75 : decode cX11_pact 75 = .ok (.iconst 0, 1) := by decide +kernel
theorem dX11_pact_76 : decode cX11_pact 76 = .ok (.iastore, 1) := by decide +kernel
theorem dX11_pact_77 : decode cX11_pact 77 = .ok (.aload_n 0, 1) := by decide +kernel
theorem dX11_pact_78 : decode cX11_pact 78 = .ok (.getfield 69, 3) := by decide +kernel
theorem dX11_pact_81 : decode cX11_pact 81 = .ok (.bipush 110, 2) := by decide +kernel
theorem dX11_pact_83 : decode cX11_pact 83 = .ok (.bipush 6, 2) := by decide +kernel
theorem dX11_pact_85 : decode cX11_pact 85 = .ok (.iload_n 2, 1) := by decide +kernel
theorem dX11_pact_86 : decode cX11_pact 86 = .ok (.imul, 1) := by decide +kernel
theorem dX11_pact_87 : decode cX11_pact 87 = .ok (.iadd, 1) := by decide +kernel
theorem dX11_pact_88 : decode cX11_pact 88 = .ok (.iload_n 1, 1) := by decide +kernel
theorem dX11_pact_89 : decode cX11_pact 89 = .ok (.iadd, 1) := by decide +kernel
theorem dX11_pact_90 : decode cX11_pact 90 = .ok (.iload_n 3, 1) := by decide +kernel
theorem dX11_pact_91 : decode cX11_pact 91 = .ok (.ifCond .eq 7, 3) := by decide +kernel
theorem dX11_pact_94 : decode cX11_pact 94 = .ok (.iconst 1, 1) := by decide +kernel
theorem dX11_pact_95 : decode cX11_pact 95 = .ok (.goto 4, 3) := by decide +kernel
theorem dX11_pact_98 : decode cX11_pact 98 = .ok (.iconst 0, 1) := by decide +kernel
theorem dX11_pact_99 : decode cX11_pact 99 = .ok (.iastore, 1) := by decide +kernel
theorem dX11_pact_100 : decode cX11_pact 100 = .ok (.iconst 1, 1) := by decide +kernel
theorem dX11_pact_101 : decode cX11_pact 101 = .ok (.ireturn, 1) := by decide +kernel
theorem dX11_bones_0 : decode cX11_bones 0 = .ok (.aload_n 0, 1) := by decide +kernel
theorem dX11_bones_1 : decode cX11_bones 1 = .ok (.iconst 0, 1) := by decide +kernel
theorem dX11_bones_2 : decode cX11_bones 2 = .ok (.putfield 1, 3) := by decide +kernel
theorem dX11_bones_5 : decode cX11_bones 5 = .ok (.aload_n 0, 1) := by decide +kernel
theorem dX11_bones_6 : decode cX11_bones 6 = .ok (.getfield 69, 3) := by decide +kernel
theorem dX11_bones_9 : decode cX11_bones 9 = .ok (.iconst 3, 1) := by decide +kernel
theorem dX11_bones_10 : decode cX11_bones 10 = .ok (.iaload, 1) := by decide +kernel
theorem dX11_bones_11 : decode cX11_bones 11 = .ok (.ireturn, 1) := by decide +kernel
theorem dX11_bone_0 : decode cX11_bone 0 = .ok (.aload_n 0, 1) := by decide +kernel
theorem dX11_bone_1 : decode cX11_bone 1 = .ok (.iload_n 1, 1) := by decide +kernel
theorem dX11_bone_2 : decode cX11_bone 2 = .ok (.ifCond .lt 33, 3) := by decide +kernel
theorem dX11_bone_5 : decode cX11_bone 5 = .ok (.iload_n 1, 1) := by decide +kernel
theorem dX11_bone_6 : decode cX11_bone 6 = .ok (.aload_n 0, 1) := by decide +kernel
theorem dX11_bone_7 : decode cX11_bone 7 = .ok (.getfield 69, 3) := by decide +kernel
theorem dX11_bone_10 : decode cX11_bone 10 = .ok (.iconst 3, 1) := by decide +kernel
theorem dX11_bone_11 : decode cX11_bone 11 = .ok (.iaload, 1) := by decide +kernel
theorem dX11_bone_12 : decode cX11_bone 12 = .ok (.if_icmp .ge 23, 3) := by decide +kernel
theorem dX11_bone_15 : decode cX11_bone 15 = .ok (.iload_n 1, 1) := by decide +kernel
theorem dX11_bone_16 : decode cX11_bone 16 = .ok (.sipush 200, 3) := by decide +kernel
theorem dX11_bone_19 : decode cX11_bone 19 = .ok (.if_icmp .ge 16, 3) := by decide +kernel
theorem dX11_bone_22 : decode cX11_bone 22 = .ok (.iload_n 2, 1) := by decide +kernel
theorem dX11_bone_23 : decode cX11_bone 23 = .ok (.iconst 0, 1) := by decide +kernel
theorem dX11_bone_24 : decode cX11_bone 24 = .ok (.iconst 3, 1) := by decide +kernel
theorem dX11_bone_25 : decode cX11_bone 25 = .ok (.invokestatic 301, 3) := by decide +kernel
theorem dX11_bone_28 : decode cX11_bone 28 = .ok (.ifCond .eq 7, 3) := by decide +kernel
theorem dX11_bone_31 : decode cX11_bone 31 = .ok (.iconst 0, 1) := by decide +kernel
theorem dX11_bone_32 : decode cX11_bone 32 = .ok (.goto 4, 3) := by decide +kernel
theorem dX11_bone_35 : decode cX11_bone 35 = .ok (.iconst 1, 1) := by decide +kernel
theorem dX11_bone_36 : decode cX11_bone 36 = .ok (.putfield 1, 3) := by decide +kernel
theorem dX11_bone_39 : decode cX11_bone 39 = .ok (.aload_n 0, 1) := by decide +kernel
theorem dX11_bone_40 : decode cX11_bone 40 = .ok (.getfield 1, 3) := by decide +kernel
theorem dX11_bone_43 : decode cX11_bone 43 = .ok (.ifCond .le 7, 3) := by decide +kernel
theorem dX11_bone_46 : decode cX11_bone 46 = .ok (.iconst 0, 1) := by decide +kernel
theorem dX11_bone_47 : decode cX11_bone 47 = .ok (.goto 17, 3) := by decide +kernel
theorem dX11_bone_50 : decode cX11_bone 50 = .ok (.aload_n 0, 1) := by decide +kernel
theorem dX11_bone_51 : decode cX11_bone 51 = .ok (.getfield 69, 3) := by decide +kernel
theorem dX11_bone_54 : decode cX11_bone 54 = .ok (.sipush 190, 3) := by decide +kernel
theorem dX11_bone_57 : decode cX11_bone 57 = .ok (.iconst 4, 1) := by decide +kernel
theorem dX11_bone_58 : decode cX11_bone 58 = .ok (.iload_n 1, 1) := by decide +kernel
theorem dX11_bone_59 : decode cX11_bone 59 = .ok (.imul, 1) := by decide +kernel
theorem dX11_bone_60 : decode cX11_bone 60 = .ok (.iadd, 1) := by decide +kernel
theorem dX11_bone_61 : decode cX11_bone 61 = .ok (.iload_n 2, 1) := by decide +kernel
theorem dX11_bone_62 : decode cX11_bone 62 = .ok (.iadd, 1) := by decide +kernel
theorem dX11_bone_63 : decode cX11_bone 63 = .ok (.iaload, 1) := by decide +kernel
theorem dX11_bone_64 : decode cX11_bone 64 = .ok (.ireturn, 1) := by decide +kernel
theorem dX11_feuds_0 : decode cX11_feuds 0 = .ok (.aload_n 0, 1) := by decide +kernel
theorem dX11_feuds_1 : decode cX11_feuds 1 = .ok (.iconst 0, 1) := by decide +kernel
theorem dX11_feuds_2 : decode cX11_feuds 2 = .ok (.putfield 1, 3) := by decide +kernel
theorem dX11_feuds_5 : decode cX11_feuds 5 = .ok (.aload_n 0, 1) := by decide +kernel
theorem dX11_feuds_6 : decode cX11_feuds 6 = .ok (.iload_n 1, 1) := by decide +kernel
theorem dX11_feuds_7 : decode cX11_feuds 7 = .ok (.invokevirtual 298, 3) := by decide +kernel
theorem dX11_feuds_10 : decode cX11_feuds 10 = .ok (.ifCond .eq 34, 3) := by decide +kernel
theorem dX11_feuds_13 : decode cX11_feuds 13 = .ok (.aload_n 0, 1) := by decide +kernel
theorem dX11_feuds_14 : decode cX11_feuds 14 = .ok (.iload_n 2, 1) := by decide +kernel
theorem dX11_feuds_15 : decode cX11_feuds 15 = .ok (.invokevirtual 298, 3) := by decide +kernel
theorem dX11_feuds_18 : decode cX11_feuds 18 = .ok (.ifCond .eq 26, 3) := by decide +kernel
theorem dX11_feuds_21 : decode cX11_feuds 21 = .ok (.iload_n 1, 1) := by decide +kernel
theorem dX11_feuds_22 : decode cX11_feuds 22 = .ok (.iload_n 2, 1) := by decide +kernel
theorem dX11_feuds_23 : decode cX11_feuds 23 = .ok (.if_icmp .eq 21, 3) := by decide +kernel
theorem dX11_feuds_26 : decode cX11_feuds 26 = .ok (.aload_n 0, 1) := by decide +kernel
theorem dX11_feuds_27 : decode cX11_feuds 27 = .ok (.getfield 69, 3) := by decide +kernel
theorem dX11_feuds_30 : decode cX11_feuds 30 = .ok (.sipush 146, 3) := by decide +kernel
theorem dX11_feuds_33 : decode cX11_feuds 33 = .ok (.bipush 6, 2) := by decide +kernel
theorem dX11_feuds_35 : decode cX11_feuds 35 = .ok (.iload_n 1, 1) := by decide +kernel
theorem dX11_feuds_36 : decode cX11_feuds 36 = .ok (.imul, 1) := by decide +kernel
theorem dX11_feuds_37 : decode cX11_feuds 37 = .ok (.iadd, 1) := by decide +kernel
theorem dX11_feuds_38 : decode cX11_feuds 38 = .ok (.iload_n 2, 1) := by decide +kernel
theorem dX11_feuds_39 : decode cX11_feuds 39 = .ok (.iadd, 1) := by decide +kernel
theorem dX11_feuds_40 : decode cX11_feuds 40 = .ok (.iaload, 1) := by decide +kernel
theorem dX11_feuds_41 : decode cX11_feuds 41 = .ok (.goto 4, 3) := by decide +kernel
theorem dX11_feuds_44 : decode cX11_feuds 44 = .ok (.iconst (-1), 1) := by decide +kernel
theorem dX11_feuds_45 : decode cX11_feuds 45 = .ok (.ireturn, 1) := by decide +kernel
theorem dX11_gone_0 : decode cX11_gone 0 = .ok (.aload_n 0, 1) := by decide +kernel
theorem dX11_gone_1 : decode cX11_gone 1 = .ok (.iconst 0, 1) := by decide +kernel
theorem dX11_gone_2 : decode cX11_gone 2 = .ok (.putfield 1, 3) := by decide +kernel
theorem dX11_gone_5 : decode cX11_gone 5 = .ok (.aload_n 0, 1) := by decide +kernel
theorem dX11_gone_6 : decode cX11_gone 6 = .ok (.iload_n 1, 1) := by decide +kernel
theorem dX11_gone_7 : decode cX11_gone 7 = .ok (.invokevirtual 298, 3) := by decide +kernel
theorem dX11_gone_10 : decode cX11_gone 10 = .ok (.ifCond .eq 20, 3) := by decide +kernel
theorem dX11_gone_13 : decode cX11_gone 13 = .ok (.aload_n 0, 1) := by decide +kernel
theorem dX11_gone_14 : decode cX11_gone 14 = .ok (.iload_n 1, 1) := by decide +kernel
theorem dX11_gone_15 : decode cX11_gone 15 = .ok (.iload_n 2, 1) := by decide +kernel
theorem dX11_gone_16 : decode cX11_gone 16 = .ok (.ifCond .eq 7, 3) := by decide +kernel
theorem dX11_gone_19 : decode cX11_gone 19 = .ok (.iconst 5, 1) := by decide +kernel
theorem dX11_gone_20 : decode cX11_gone 20 = .ok (.goto 4, 3) := by decide +kernel
theorem dX11_gone_23 : decode cX11_gone 23 = .ok (.iconst 4, 1) := by decide +kernel
theorem dX11_gone_24 : decode cX11_gone 24 = .ok (.invokevirtual 251, 3) := by decide +kernel
theorem dX11_gone_27 : decode cX11_gone 27 = .ok (.goto 4, 3) := by decide +kernel
theorem dX11_gone_30 : decode cX11_gone 30 = .ok (.iconst (-1), 1) := by decide +kernel
theorem dX11_gone_31 : decode cX11_gone 31 = .ok (.ireturn, 1) := by decide +kernel
theorem dX11_findLosses_0 : decode cX11_findLosses 0 = .ok (.aload_n 0, 1) := by decide +kernel
theorem dX11_findLosses_1 : decode cX11_findLosses 1 = .ok (.iconst 0, 1) := by decide +kernel
theorem dX11_findLosses_2 : decode cX11_findLosses 2 = .ok (.bipush 6, 2) := by decide +kernel
theorem dX11_findLosses_4 : decode cX11_findLosses 4 = .ok (.invokevirtual 182, 3) := by decide +kernel
theorem dX11_findLosses_7 : decode cX11_findLosses 7 = .ok (.aload_n 0, 1) := by decide +kernel
theorem dX11_findLosses_8 : decode cX11_findLosses 8 = .ok (.iload_n 1, 1) := by decide +kernel
theorem dX11_findLosses_9 : decode cX11_findLosses 9 = .ok (.invokevirtual 308, 3) := by decide +kernel
theorem dX11_findLosses_12 : decode cX11_findLosses 12 = .ok (.iconst 0, 1) := by decide +kernel
theorem dX11_findLosses_13 : decode cX11_findLosses 13 = .ok (.istore_n 2, 1) := by decide +kernel
theorem dX11_findLosses_14 : decode cX11_findLosses 14 = .ok (.iload_n 2, 1) := by decide +kernel
theorem dX11_findLosses_15 : decode cX11_findLosses 15 = .ok (.aload_n 0, 1) := by decide +kernel
theorem dX11_findLosses_16 : decode cX11_findLosses 16 = .ok (.invokevirtual 248, 3) := by decide +kernel
theorem dX11_findLosses_19 : decode cX11_findLosses 19 = .ok (.if_icmp .ge 55, 3) := by decide +kernel
theorem dX11_findLosses_22 : decode cX11_findLosses 22 = .ok (.sipush 6008, 3) := by decide +kernel
theorem dX11_findLosses_25 : decode cX11_findLosses 25 = .ok (.bipush 7, 2) := by decide +kernel
theorem dX11_findLosses_27 : decode cX11_findLosses 27 = .ok (.iload_n 2, 1) := by decide +kernel
theorem dX11_findLosses_28 : decode cX11_findLosses 28 = .ok (.imul, 1) := by decide +kernel
theorem dX11_findLosses_29 : decode cX11_findLosses 29 = .ok (.iadd, 1) := by decide +kernel
theorem dX11_findLosses_30 : decode cX11_findLosses 30 = .ok (.istore_n 3, 1) := by decide +kernel
theorem dX11_findLosses_31 : decode cX11_findLosses 31 = .ok (.aload_n 0, 1) := by decide +kernel
theorem dX11_findLosses_32 : decode cX11_findLosses 32 = .ok (.getfield 99, 3) := by decide +kernel
theorem dX11_findLosses_35 : decode cX11_findLosses 35 = .ok (.iload_n 2, 1) := by decide +kernel
theorem dX11_findLosses_36 : decode cX11_findLosses 36 = .ok (.aload_n 0, 1) := by decide +kernel
theorem dX11_findLosses_37 : decode cX11_findLosses 37 = .ok (.iload_n 2, 1) := by decide +kernel
theorem dX11_findLosses_38 : decode cX11_findLosses 38 = .ok (.iconst 4, 1) := by decide +kernel
theorem dX11_findLosses_39 : decode cX11_findLosses 39 = .ok (.invokevirtual 251, 3) := by decide +kernel
theorem dX11_findLosses_42 : decode cX11_findLosses 42 = .ok (.aload_n 0, 1) := by decide +kernel
theorem dX11_findLosses_43 : decode cX11_findLosses 43 = .ok (.getfield 69, 3) := by decide +kernel
theorem dX11_findLosses_46 : decode cX11_findLosses 46 = .ok (.iload_n 3, 1) := by decide +kernel
theorem dX11_findLosses_47 : decode cX11_findLosses 47 = .ok (.iconst 4, 1) := by decide +kernel
theorem dX11_findLosses_48 : decode cX11_findLosses 48 = .ok (.iadd, 1) := by decide +kernel
theorem dX11_findLosses_49 : decode cX11_findLosses 49 = .ok (.iaload, 1) := by decide +kernel
theorem dX11_findLosses_50 : decode cX11_findLosses 50 = .ok (.isub, 1) := by decide +kernel
theorem dX11_findLosses_51 : decode cX11_findLosses 51 = .ok (.aload_n 0, 1) := by decide +kernel
theorem dX11_findLosses_52 : decode cX11_findLosses 52 = .ok (.iload_n 2, 1) := by decide +kernel
theorem dX11_findLosses_53 : decode cX11_findLosses 53 = .ok (.iconst 5, 1) := by decide +kernel
theorem dX11_findLosses_54 : decode cX11_findLosses 54 = .ok (.invokevirtual 251, 3) := by decide +kernel
theorem dX11_findLosses_57 : decode cX11_findLosses 57 = .ok (.iadd, 1) := by decide +kernel
theorem dX11_findLosses_58 : decode cX11_findLosses 58 = .ok (.aload_n 0, 1) := by decide +kernel
theorem dX11_findLosses_59 : decode cX11_findLosses 59 = .ok (.getfield 69, 3) := by decide +kernel
theorem dX11_findLosses_62 : decode cX11_findLosses 62 = .ok (.iload_n 3, 1) := by decide +kernel
theorem dX11_findLosses_63 : decode cX11_findLosses 63 = .ok (.iconst 5, 1) := by decide +kernel
theorem dX11_findLosses_64 : decode cX11_findLosses 64 = .ok (.iadd, 1) := by decide +kernel
theorem dX11_findLosses_65 : decode cX11_findLosses 65 = .ok (.iaload, 1) := by decide +kernel
theorem dX11_findLosses_66 : decode cX11_findLosses 66 = .ok (.isub, 1) := by decide +kernel
theorem dX11_findLosses_67 : decode cX11_findLosses 67 = .ok (.iastore, 1) := by decide +kernel
theorem dX11_findLosses_68 : decode cX11_findLosses 68 = .ok (.iinc 2 1, 3) := by decide +kernel
theorem dX11_findLosses_71 : decode cX11_findLosses 71 = .ok (.goto (-57), 3) := by decide +kernel
theorem dX11_findLosses_74 : decode cX11_findLosses 74 = .ok (.aload_n 0, 1) := by decide +kernel
theorem dX11_findLosses_75 : decode cX11_findLosses 75 = .ok (.bipush 6, 2) := by decide +kernel
theorem dX11_findLosses_77 : decode cX11_findLosses 77 = .ok (.iconst 0, 1) := by decide +kernel
theorem dX11_findLosses_78 : decode cX11_findLosses 78 = .ok (.invokevirtual 182, 3) := by decide +kernel
theorem dX11_findLosses_81 : decode cX11_findLosses 81 = .ok (.return_, 1) := by decide +kernel
theorem dX11_areNights_0 : decode cX11_areNights 0 = .ok (.iload_n 0, 1) := by decide +kernel
theorem dX11_areNights_1 : decode cX11_areNights 1 = .ok (.iconst 1, 1) := by decide +kernel
theorem dX11_areNights_2 : decode cX11_areNights 2 = .ok (.bipush 28, 2) := by decide +kernel
theorem dX11_areNights_4 : decode cX11_areNights 4 = .ok (.invokestatic 301, 3) := by decide +kernel
theorem dX11_areNights_7 : decode cX11_areNights 7 = .ok (.ireturn, 1) := by decide +kernel
theorem dX11_loss_0 : decode cX11_loss 0 = .ok (.aload_n 0, 1) := by decide +kernel
theorem dX11_loss_1 : decode cX11_loss 1 = .ok (.iconst 0, 1) := by decide +kernel
theorem dX11_loss_2 : decode cX11_loss 2 = .ok (.putfield 1, 3) := by decide +kernel
theorem dX11_loss_5 : decode cX11_loss 5 = .ok (.aload_n 0, 1) := by decide +kernel
theorem dX11_loss_6 : decode cX11_loss 6 = .ok (.iload_n 1, 1) := by decide +kernel
theorem dX11_loss_7 : decode cX11_loss 7 = .ok (.invokevirtual 298, 3) := by decide +kernel
theorem dX11_loss_10 : decode cX11_loss 10 = .ok (.ifCond .eq 10, 3) := by decide +kernel
theorem dX11_loss_13 : decode cX11_loss 13 = .ok (.iload_n 2, 1) := by decide +kernel
theorem dX11_loss_14 : decode cX11_loss 14 = .ok (.invokestatic 311, 3) := by decide +kernel
theorem dX11_loss_17 : decode cX11_loss 17 = .ok (.ifCond .ne 5, 3) := by decide +kernel
theorem dX11_loss_20 : decode cX11_loss 20 = .ok (.iconst (-1), 1) := by decide +kernel
theorem dX11_loss_21 : decode cX11_loss 21 = .ok (.ireturn, 1) := by decide +kernel
theorem dX11_loss_22 : decode cX11_loss 22 = .ok (.aload_n 0, 1) := by decide +kernel
theorem dX11_loss_23 : decode cX11_loss 23 = .ok (.iload_n 2, 1) := by decide +kernel
theorem dX11_loss_24 : decode cX11_loss 24 = .ok (.invokevirtual 314, 3) := by decide +kernel
theorem dX11_loss_27 : decode cX11_loss 27 = .ok (.aload_n 0, 1) := by decide +kernel
theorem dX11_loss_28 : decode cX11_loss 28 = .ok (.getfield 99, 3) := by decide +kernel
theorem dX11_loss_31 : decode cX11_loss 31 = .ok (.iload_n 1, 1) := by decide +kernel
theorem dX11_loss_32 : decode cX11_loss 32 = .ok (.iaload, 1) := by decide +kernel
theorem dX11_loss_33 : decode cX11_loss 33 = .ok (.ireturn, 1) := by decide +kernel
theorem dX11_gameRows_0 : decode cX11_gameRows 0 = .ok (.iconst 1, 1) := by decide +kernel
theorem dX11_gameRows_1 : decode cX11_gameRows 1 = .ok (.iconst 2, 1) := by decide +kernel
theorem dX11_gameRows_2 : decode cX11_gameRows 2 = .ok (.aload_n 0, 1) := by decide +kernel
theorem dX11_gameRows_3 : decode cX11_gameRows 3 = .ok (.invokevirtual 248, 3) := by decide +kernel
theorem dX11_gameRows_6 : decode cX11_gameRows 6 = .ok (.imul, 1) := by decide +kernel
theorem dX11_gameRows_7 : decode cX11_gameRows 7 = .ok (.ishl, 1) := by decide +kernel
theorem dX11_gameRows_8 : decode cX11_gameRows 8 = .ok (.ireturn, 1) := by decide +kernel
theorem dX11_isGame_0 : decode cX11_isGame 0 = .ok (.iload_n 1, 1) := by decide +kernel
theorem dX11_isGame_1 : decode cX11_isGame 1 = .ok (.invokestatic 311, 3) := by decide +kernel
theorem dX11_isGame_4 : decode cX11_isGame 4 = .ok (.ifCond .eq 15, 3) := by decide +kernel
theorem dX11_isGame_7 : decode cX11_isGame 7 = .ok (.aload_n 0, 1) := by decide +kernel
theorem dX11_isGame_8 : decode cX11_isGame 8 = .ok (.invokevirtual 248, 3) := by decide +kernel
theorem dX11_isGame_11 : decode cX11_isGame 11 = .ok (.iconst 4, 1) := by decide +kernel
theorem dX11_isGame_12 : decode cX11_isGame 12 = .ok (.if_icmp .gt 7, 3) := by decide +kernel
theorem dX11_isGame_15 : decode cX11_isGame 15 = .ok (.iconst 1, 1) := by decide +kernel
theorem dX11_isGame_16 : decode cX11_isGame 16 = .ok (.goto 4, 3) := by decide +kernel
theorem dX11_isGame_19 : decode cX11_isGame 19 = .ok (.iconst 0, 1) := by decide +kernel
theorem dX11_isGame_20 : decode cX11_isGame 20 = .ok (.ireturn, 1) := by decide +kernel
theorem dX11_findGame_0 : decode cX11_findGame 0 = .ok (.iconst 0, 1) := by decide +kernel
theorem dX11_findGame_1 : decode cX11_findGame 1 = .ok (.istore_n 2, 1) := by decide +kernel
theorem dX11_findGame_2 : decode cX11_findGame 2 = .ok (.iload_n 2, 1) := by decide +kernel
theorem dX11_findGame_3 : decode cX11_findGame 3 = .ok (.aload_n 0, 1) := by decide +kernel
theorem dX11_findGame_4 : decode cX11_findGame 4 = .ok (.invokevirtual 317, 3) := by decide +kernel
theorem dX11_findGame_7 : decode cX11_findGame 7 = .ok (.if_icmp .ge 51, 3) := by decide +kernel
theorem dX11_findGame_10 : decode cX11_findGame 10 = .ok (.aload_n 0, 1) := by decide +kernel
theorem dX11_findGame_11 : decode cX11_findGame 11 = .ok (.iload_n 2, 1) := by decide +kernel
theorem dX11_findGame_12 : decode cX11_findGame 12 = .ok (.putfield 93, 3) := by decide +kernel
theorem dX11_findGame_15 : decode cX11_findGame 15 = .ok (.aload_n 0, 1) := by decide +kernel
theorem dX11_findGame_16 : decode cX11_findGame 16 = .ok (.iload_n 1, 1) := by decide +kernel
theorem dX11_findGame_17 : decode cX11_findGame 17 = .ok (.invokevirtual 314, 3) := by decide +kernel
theorem dX11_findGame_20 : decode cX11_findGame 20 = .ok (.iconst 0, 1) := by decide +kernel
theorem dX11_findGame_21 : decode cX11_findGame 21 = .ok (.istore_n 3, 1) := by decide +kernel
theorem dX11_findGame_22 : decode cX11_findGame 22 = .ok (.iload_n 3, 1) := by decide +kernel
theorem dX11_findGame_23 : decode cX11_findGame 23 = .ok (.aload_n 0, 1) := by decide +kernel
theorem dX11_findGame_24 : decode cX11_findGame 24 = .ok (.invokevirtual 248, 3) := by decide +kernel
theorem dX11_findGame_27 : decode cX11_findGame 27 = .ok (.if_icmp .ge 25, 3) := by decide +kernel
theorem dX11_findGame_30 : decode cX11_findGame 30 = .ok (.aload_n 0, 1) := by decide +kernel
theorem dX11_findGame_31 : decode cX11_findGame 31 = .ok (.getfield 102, 3) := by decide +kernel
theorem dX11_findGame_34 : decode cX11_findGame 34 = .ok (.iconst 4, 1) := by decide +kernel
theorem dX11_findGame_35 : decode cX11_findGame 35 = .ok (.iload_n 2, 1) := by decide +kernel
theorem dX11_findGame_36 : decode cX11_findGame 36 = .ok (.imul, 1) := by decide +kernel
theorem dX11_findGame_37 : decode cX11_findGame 37 = .ok (.iload_n 3, 1) := by decide +kernel
theorem dX11_findGame_38 : decode cX11_findGame 38 = .ok (.iadd, 1) := by decide +kernel
theorem dX11_findGame_39 : decode cX11_findGame 39 = .ok (.aload_n 0, 1) := by decide +kernel
theorem dX11_findGame_40 : decode cX11_findGame 40 = .ok (.getfield 99, 3) := by decide +kernel
theorem dX11_findGame_43 : decode cX11_findGame 43 = .ok (.iload_n 3, 1) := by decide +kernel
theorem dX11_findGame_44 : decode cX11_findGame 44 = .ok (.iaload, 1) := by decide +kernel
theorem dX11_findGame_45 : decode cX11_findGame 45 = .ok (.iastore, 1) := by decide +kernel
theorem dX11_findGame_46 : decode cX11_findGame 46 = .ok (.iinc 3 1, 3) := by decide +kernel
theorem dX11_findGame_49 : decode cX11_findGame 49 = .ok (.goto (-27), 3) := by decide +kernel
theorem dX11_findGame_52 : decode cX11_findGame 52 = .ok (.iinc 2 1, 3) := by decide +kernel
theorem dX11_findGame_55 : decode cX11_findGame 55 = .ok (.goto (-53), 3) := by decide +kernel
theorem dX11_findGame_58 : decode cX11_findGame 58 = .ok (.aload_n 0, 1) := by decide +kernel
theorem dX11_findGame_59 : decode cX11_findGame 59 = .ok (.iconst (-1), 1) := by decide +kernel
theorem dX11_findGame_60 : decode cX11_findGame 60 = .ok (.putfield 93, 3) := by decide +kernel
theorem dX11_findGame_63 : decode cX11_findGame 63 = .ok (.return_, 1) := by decide +kernel
theorem dX11_level_0 : decode cX11_level 0 = .ok (.aload_n 0, 1) := by decide +kernel
theorem dX11_level_1 : decode cX11_level 1 = .ok (.iconst 0, 1) := by decide +kernel
theorem dX11_level_2 : decode cX11_level 2 = .ok (.putfield 1, 3) := by decide +kernel
theorem dX11_level_5 : decode cX11_level 5 = .ok (.aload_n 0, 1) := by decide +kernel
theorem dX11_level_6 : decode cX11_level 6 = .ok (.iload_n 3, 1) := by decide +kernel
theorem dX11_level_7 : decode cX11_level 7 = .ok (.invokevirtual 320, 3) := by decide +kernel
theorem dX11_level_10 : decode cX11_level 10 = .ok (.ifCond .eq 23, 3) := by decide +kernel
theorem dX11_level_13 : decode cX11_level 13 = .ok (.aload_n 0, 1) := by decide +kernel
theorem dX11_level_14 : decode cX11_level 14 = .ok (.iload_n 2, 1) := by decide +kernel
theorem dX11_level_15 : decode cX11_level 15 = .ok (.invokevirtual 298, 3) := by decide +kernel
theorem dX11_level_18 : decode cX11_level 18 = .ok (.ifCond .eq 15, 3) := by decide +kernel
theorem dX11_level_21 : decode cX11_level 21 = .ok (.iload_n 1, 1) := by decide +kernel
theorem dX11_level_22 : decode cX11_level 22 = .ok (.ifCond .lt 11, 3) := by decide +kernel
theorem dX11_level_25 : decode cX11_level 25 = .ok (.iload_n 1, 1) := by decide +kernel
theorem dX11_level_26 : decode cX11_level 26 = .ok (.aload_n 0, 1) := by decide +kernel
theorem dX11_level_27 : decode cX11_level 27 = .ok (.invokevirtual 317, 3) := by decide +kernel
theorem dX11_level_30 : decode cX11_level 30 = .ok (.if_icmp .lt 5, 3) := by decide +kernel
theorem dX11_level_33 : decode cX11_level 33 = .ok (.iconst (-1), 1) := by decide +kernel
theorem dX11_level_34 : decode cX11_level 34 = .ok (.ireturn, 1) := by decide +kernel
theorem dX11_level_35 : decode cX11_level 35 = .ok (.aload_n 0, 1) := by decide +kernel
theorem dX11_level_36 : decode cX11_level 36 = .ok (.iload_n 1, 1) := by decide +kernel
theorem dX11_level_37 : decode cX11_level 37 = .ok (.putfield 93, 3) := by decide +kernel
theorem dX11_level_40 : decode cX11_level 40 = .ok (.aload_n 0, 1) := by decide +kernel
theorem dX11_level_41 : decode cX11_level 41 = .ok (.iload_n 3, 1) := by decide +kernel
theorem dX11_level_42 : decode cX11_level 42 = .ok (.invokevirtual 314, 3) := by decide +kernel
theorem dX11_level_45 : decode cX11_level 45 = .ok (.aload_n 0, 1) := by decide +kernel
theorem dX11_level_46 : decode cX11_level 46 = .ok (.iconst (-1), 1) := by decide +kernel
theorem dX11_level_47 : decode cX11_level 47 = .ok (.putfield 93, 3) := by decide +kernel
theorem dX11_level_50 : decode cX11_level 50 = .ok (.aload_n 0, 1) := by decide +kernel
theorem dX11_level_51 : decode cX11_level 51 = .ok (.getfield 99, 3) := by decide +kernel
theorem dX11_level_54 : decode cX11_level 54 = .ok (.iload_n 2, 1) := by decide +kernel
theorem dX11_level_55 : decode cX11_level 55 = .ok (.iaload, 1) := by decide +kernel
theorem dX11_level_56 : decode cX11_level 56 = .ok (.ireturn, 1) := by decide +kernel
theorem dX11_with_0 : decode cX11_with 0 = .ok (.iload_n 0, 1) := by decide +kernel
theorem dX11_with_1 : decode cX11_with 1 = .ok (.iconst 3, 1) := by decide +kernel
theorem dX11_with_2 : decode cX11_with 2 = .ok (.iconst 2, 1) := by decide +kernel
theorem dX11_with_3 : decode cX11_with 3 = .ok (.iload_n 1, 1) := by decide +kernel
theorem dX11_with_4 : decode cX11_with 4 = .ok (.imul, 1) := by decide +kernel
theorem dX11_with_5 : decode cX11_with 5 = .ok (.ishl, 1) := by decide +kernel
theorem dX11_with_6 : decode cX11_with 6 = .ok (.iconst (-1), 1) := by decide +kernel
theorem dX11_with_7 : decode cX11_with 7 = .ok (.ixor, 1) := by decide +kernel
theorem dX11_with_8 : decode cX11_with 8 = .ok (.iand, 1) := by decide +kernel
theorem dX11_with_9 : decode cX11_with 9 = .ok (.iload_n 2, 1) := by decide +kernel
theorem dX11_with_10 : decode cX11_with 10 = .ok (.iconst 2, 1) := by decide +kernel
theorem dX11_with_11 : decode cX11_with 11 = .ok (.iload_n 1, 1) := by decide +kernel
theorem dX11_with_12 : decode cX11_with 12 = .ok (.imul, 1) := by decide +kernel
theorem dX11_with_13 : decode cX11_with 13 = .ok (.ishl, 1) := by decide +kernel
theorem dX11_with_14 : decode cX11_with 14 = .ok (.ior, 1) := by decide +kernel
theorem dX11_with_15 : decode cX11_with 15 = .ok (.ireturn, 1) := by decide +kernel
theorem dX11_bestLevel_0 : decode cX11_bestLevel 0 = .ok (.iload_n 1, 1) := by decide +kernel
theorem dX11_bestLevel_1 : decode cX11_bestLevel 1 = .ok (.iconst 2, 1) := by decide +kernel
theorem dX11_bestLevel_2 : decode cX11_bestLevel 2 = .ok (.iload_n 2, 1) := by decide +kernel
theorem dX11_bestLevel_3 : decode cX11_bestLevel 3 = .ok (.imul, 1) := by decide +kernel
theorem dX11_bestLevel_4 : decode cX11_bestLevel 4 = .ok (.ishr, 1) := by decide +kernel
theorem dX11_bestLevel_5 : decode cX11_bestLevel 5 = .ok (.iconst 3, 1) := by decide +kernel
theorem dX11_bestLevel_6 : decode cX11_bestLevel 6 = .ok (.iand, 1) := by decide +kernel
theorem dX11_bestLevel_7 : decode cX11_bestLevel 7 = .ok (.istore_n 3, 1) := by decide +kernel
theorem dX11_bestLevel_8 : decode cX11_bestLevel 8 = .ok (.aload_n 0, 1) := by decide +kernel
theorem dX11_bestLevel_9 : decode cX11_bestLevel 9 = .ok (.getfield 102, 3) := by decide +kernel
theorem dX11_bestLevel_12 : decode cX11_bestLevel 12 = .ok (.iconst 4, 1) := by decide +kernel
theorem dX11_bestLevel_13 : decode cX11_bestLevel 13 = .ok (.iload_n 1, 1) := by decide +kernel
theorem dX11_bestLevel_14 : decode cX11_bestLevel 14 = .ok (.imul, 1) := by decide +kernel
theorem dX11_bestLevel_15 : decode cX11_bestLevel 15 = .ok (.iload_n 2, 1) := by decide +kernel
theorem dX11_bestLevel_16 : decode cX11_bestLevel 16 = .ok (.iadd, 1) := by decide +kernel
theorem dX11_bestLevel_17 : decode cX11_bestLevel 17 = .ok (.iaload, 1) := by decide +kernel
theorem dX11_bestLevel_18 : decode cX11_bestLevel 18 = .ok (.istore 4, 2) := by decide +kernel
theorem dX11_bestLevel_20 : decode cX11_bestLevel 20 = .ok (.iconst 0, 1) := by decide +kernel
theorem dX11_bestLevel_21 : decode cX11_bestLevel 21 = .ok (.istore 5, 2) := by decide +kernel
theorem dX11_bestLevel_23 : decode cX11_bestLevel 23 = .ok (.iload 5, 2) := by decide +kernel
theorem dX11_bestLevel_25 : decode cX11_bestLevel 25 = .ok (.iconst 4, 1) := by decide +kernel
theorem dX11_bestLevel_26 : decode cX11_bestLevel 26 = .ok (.if_icmp .ge 57, 3) := by decide +kernel
theorem dX11_bestLevel_29 : decode cX11_bestLevel 29 = .ok (.aload_n 0, 1) := by decide +kernel
theorem dX11_bestLevel_30 : decode cX11_bestLevel 30 = .ok (.getfield 102, 3) := by decide +kernel
theorem dX11_bestLevel_33 : decode cX11_bestLevel 33 = .ok (.iconst 4, 1) := by decide +kernel
theorem dX11_bestLevel_34 : decode cX11_bestLevel 34 = .ok (.iload_n 1, 1) := by decide +kernel
theorem dX11_bestLevel_35 : decode cX11_bestLevel 35 = .ok (.iload_n 2, 1) := by decide +kernel
theorem dX11_bestLevel_36 : decode cX11_bestLevel 36 = .ok (.iload 5, 2) := by decide +kernel
theorem dX11_bestLevel_38 : decode cX11_bestLevel 38 = .ok (.invokestatic 323, 3) := by decide +kernel
theorem dX11_bestLevel_41 : decode cX11_bestLevel 41 = .ok (.imul, 1) := by decide +kernel
theorem dX11_bestLevel_42 : decode cX11_bestLevel 42 = .ok (.iload_n 2, 1) := by decide +kernel
theorem dX11_bestLevel_43 : decode cX11_bestLevel 43 = .ok (.iadd, 1) := by decide +kernel
theorem dX11_bestLevel_44 : decode cX11_bestLevel 44 = .ok (.iaload, 1) := by decide +kernel
theorem dX11_bestLevel_45 : decode cX11_bestLevel 45 = .ok (.istore 6, 2) := by decide +kernel
theorem dX11_bestLevel_47 : decode cX11_bestLevel 47 = .ok (.iload 6, 2) := by decide +kernel
theorem dX11_bestLevel_49 : decode cX11_bestLevel 49 = .ok (.iload 4, 2) := by decide +kernel
theorem dX11_bestLevel_51 : decode cX11_bestLevel 51 = .ok (.if_icmp .ge 8, 3) := by decide +kernel
theorem dX11_bestLevel_54 : decode cX11_bestLevel 54 = .ok (.iload 5, 2) := by decide +kernel
theorem dX11_bestLevel_56 : decode cX11_bestLevel 56 = .ok (.goto 4, 3) := by decide +kernel
theorem dX11_bestLevel_59 : decode cX11_bestLevel 59 = .ok (.iload_n 3, 1) := by decide +kernel
theorem dX11_bestLevel_60 : decode cX11_bestLevel 60 = .ok (.istore_n 3, 1) := by decide +kernel
theorem dX11_bestLevel_61 : decode cX11_bestLevel 61 = .ok (.iload 6, 2) := by decide +kernel
theorem dX11_bestLevel_63 : decode cX11_bestLevel 63 = .ok (.iload 4, 2) := by decide +kernel
theorem dX11_bestLevel_65 : decode cX11_bestLevel 65 = .ok (.if_icmp .ge 8, 3) := by decide +kernel
theorem dX11_bestLevel_68 : decode cX11_bestLevel 68 = .ok (.iload 6, 2) := by decide +kernel
theorem dX11_bestLevel_70 : decode cX11_bestLevel 70 = .ok (.goto 5, 3) := by decide +kernel
theorem dX11_bestLevel_73 : decode cX11_bestLevel 73 = .ok (.iload 4, 2) := by decide +kernel
theorem dX11_bestLevel_75 : decode cX11_bestLevel 75 = .ok (.istore 4, 2) := by decide +kernel
theorem dX11_bestLevel_77 : decode cX11_bestLevel 77 = .ok (.iinc 5 1, 3) := by decide +kernel
theorem dX11_bestLevel_80 : decode cX11_bestLevel 80 = .ok (.goto (-57), 3) := by decide +kernel
theorem dX11_bestLevel_83 : decode cX11_bestLevel 83 = .ok (.iload_n 3, 1) := by decide +kernel
theorem dX11_bestLevel_84 : decode cX11_bestLevel 84 = .ok (.ireturn, 1) := by decide +kernel
theorem dX11_isRest_0 : decode cX11_isRest 0 = .ok (.iconst 1, 1) := by decide +kernel
theorem dX11_isRest_1 : decode cX11_isRest 1 = .ok (.istore_n 2, 1) := by decide +kernel
theorem dX11_isRest_2 : decode cX11_isRest 2 = .ok (.iconst 0, 1) := by decide +kernel
theorem dX11_isRest_3 : decode cX11_isRest 3 = .ok (.istore_n 3, 1) := by decide +kernel
theorem dX11_isRest_4 : decode cX11_isRest 4 = .ok (.iload_n 3, 1) := by decide +kernel
theorem dX11_isRest_5 : decode cX11_isRest 5 = .ok (.aload_n 0, 1) := by decide +kernel
theorem dX11_isRest_6 : decode cX11_isRest 6 = .ok (.invokevirtual 248, 3) := by decide +kernel
theorem dX11_isRest_9 : decode cX11_isRest 9 = .ok (.if_icmp .ge 35, 3) := by decide +kernel
theorem dX11_isRest_12 : decode cX11_isRest 12 = .ok (.iload_n 2, 1) := by decide +kernel
theorem dX11_isRest_13 : decode cX11_isRest 13 = .ok (.ifCond .eq 23, 3) := by decide +kernel
theorem dX11_isRest_16 : decode cX11_isRest 16 = .ok (.aload_n 0, 1) := by decide +kernel
theorem dX11_isRest_17 : decode cX11_isRest 17 = .ok (.iload_n 1, 1) := by decide +kernel
theorem dX11_isRest_18 : decode cX11_isRest 18 = .ok (.iload_n 3, 1) := by decide +kernel
theorem dX11_isRest_19 : decode cX11_isRest 19 = .ok (.invokevirtual 326, 3) := by decide +kernel
theorem dX11_isRest_22 : decode cX11_isRest 22 = .ok (.iload_n 1, 1) := by decide +kernel
theorem dX11_isRest_23 : decode cX11_isRest 23 = .ok (.iconst 2, 1) := by decide +kernel
theorem dX11_isRest_24 : decode cX11_isRest 24 = .ok (.iload_n 3, 1) := by decide +kernel
theorem dX11_isRest_25 : decode cX11_isRest 25 = .ok (.imul, 1) := by decide +kernel
theorem dX11_isRest_26 : decode cX11_isRest 26 = .ok (.ishr, 1) := by decide +kernel
theorem dX11_isRest_27 : decode cX11_isRest 27 = .ok (.iconst 3, 1) := by decide +kernel
theorem dX11_isRest_28 : decode cX11_isRest 28 = .ok (.iand, 1) := by decide +kernel
theorem dX11_isRest_29 : decode cX11_isRest 29 = .ok (.if_icmp .ne 7, 3) := by decide +kernel
theorem dX11_isRest_32 : decode cX11_isRest 32 = .ok (.iconst 1, 1) := by decide +kernel
theorem dX11_isRest_33 : decode cX11_isRest 33 = .ok (.goto 4, 3) := by decide +kernel
theorem dX11_isRest_36 : decode cX11_isRest 36 = .ok (.iconst 0, 1) := by decide +kernel
theorem dX11_isRest_37 : decode cX11_isRest 37 = .ok (.istore_n 2, 1) := by decide +kernel
theorem dX11_isRest_38 : decode cX11_isRest 38 = .ok (.iinc 3 1, 3) := by decide +kernel
theorem dX11_isRest_41 : decode cX11_isRest 41 = .ok (.goto (-37), 3) := by decide +kernel
theorem dX11_isRest_44 : decode cX11_isRest 44 = .ok (.iload_n 2, 1) := by decide +kernel
theorem dX11_isRest_45 : decode cX11_isRest 45 = .ok (.ireturn, 1) := by decide +kernel
theorem dX11_rests_0 : decode cX11_rests 0 = .ok (.aload_n 0, 1) := by decide +kernel
theorem dX11_rests_1 : decode cX11_rests 1 = .ok (.iconst 0, 1) := by decide +kernel
theorem dX11_rests_2 : decode cX11_rests 2 = .ok (.putfield 1, 3) := by decide +kernel
theorem dX11_rests_5 : decode cX11_rests 5 = .ok (.aload_n 0, 1) := by decide +kernel
theorem dX11_rests_6 : decode cX11_rests 6 = .ok (.iload_n 1, 1) := by decide +kernel
theorem dX11_rests_7 : decode cX11_rests 7 = .ok (.invokevirtual 320, 3) := by decide +kernel
theorem dX11_rests_10 : decode cX11_rests 10 = .ok (.ifCond .ne 5, 3) := by decide +kernel
theorem dX11_rests_13 : decode cX11_rests 13 = .ok (.iconst (-1), 1) := by decide +kernel
theorem dX11_rests_14 : decode cX11_rests 14 = .ok (.ireturn, 1) := by decide +kernel
theorem dX11_rests_15 : decode cX11_rests 15 = .ok (.aload_n 0, 1) := by decide +kernel
theorem dX11_rests_16 : decode cX11_rests 16 = .ok (.iload_n 1, 1) := by decide +kernel
theorem dX11_rests_17 : decode cX11_rests 17 = .ok (.invokevirtual 329, 3) := by decide +kernel
theorem dX11_rests_20 : decode cX11_rests 20 = .ok (.iconst 0, 1) := by decide +kernel
theorem dX11_rests_21 : decode cX11_rests 21 = .ok (.istore_n 2, 1) := by decide +kernel
theorem dX11_rests_22 : decode cX11_rests 22 = .ok (.iconst 0, 1) := by decide +kernel
theorem dX11_rests_23 : decode cX11_rests 23 = .ok (.istore_n 3, 1) := by decide +kernel
theorem dX11_rests_24 : decode cX11_rests 24 = .ok (.iload_n 3, 1) := by decide +kernel
theorem dX11_rests_25 : decode cX11_rests 25 = .ok (.aload_n 0, 1) := by decide +kernel
theorem dX11_rests_26 : decode cX11_rests 26 = .ok (.invokevirtual 317, 3) := by decide +kernel
theorem dX11_rests_29 : decode cX11_rests 29 = .ok (.if_icmp .ge 25, 3) := by decide +kernel
theorem dX11_rests_32 : decode cX11_rests 32 = .ok (.iload_n 2, 1) := by decide +kernel
theorem dX11_rests_33 : decode cX11_rests 33 = .ok (.aload_n 0, 1) := by decide +kernel
theorem dX11_rests_34 : decode cX11_rests 34 = .ok (.iload_n 3, 1) := by decide +kernel
theorem dX11_rests_35 : decode cX11_rests 35 = .ok (.invokevirtual 332, 3) := by decide +kernel
theorem dX11_rests_38 : decode cX11_rests 38 = .ok (.ifCond .eq 7, 3) := by decide +kernel
theorem dX11_rests_41 : decode cX11_rests 41 = .ok (.iconst 1, 1) := by decide +kernel
theorem dX11_rests_42 : decode cX11_rests 42 = .ok (.goto 4, 3) := by decide +kernel
theorem dX11_rests_45 : decode cX11_rests 45 = .ok (.iconst 0, 1) := by decide +kernel
theorem dX11_rests_46 : decode cX11_rests 46 = .ok (.iadd, 1) := by decide +kernel
theorem dX11_rests_47 : decode cX11_rests 47 = .ok (.istore_n 2, 1) := by decide +kernel
theorem dX11_rests_48 : decode cX11_rests 48 = .ok (.iinc 3 1, 3) := by decide +kernel
theorem dX11_rests_51 : decode cX11_rests 51 = .ok (.goto (-27), 3) := by decide +kernel
theorem dX11_rests_54 : decode cX11_rests 54 = .ok (.iload_n 2, 1) := by decide +kernel
theorem dX11_rests_55 : decode cX11_rests 55 = .ok (.ireturn, 1) := by decide +kernel
theorem dX11_rest_0 : decode cX11_rest 0 = .ok (.aload_n 0, 1) := by decide +kernel
theorem dX11_rest_1 : decode cX11_rest 1 = .ok (.iconst 0, 1) := by decide +kernel
theorem dX11_rest_2 : decode cX11_rest 2 = .ok (.putfield 1, 3) := by decide +kernel
theorem dX11_rest_5 : decode cX11_rest 5 = .ok (.aload_n 0, 1) := by decide +kernel
theorem dX11_rest_6 : decode cX11_rest 6 = .ok (.iload_n 1, 1) := by decide +kernel
theorem dX11_rest_7 : decode cX11_rest 7 = .ok (.invokevirtual 320, 3) := by decide +kernel
theorem dX11_rest_10 : decode cX11_rest 10 = .ok (.ifCond .eq 7, 3) := by decide +kernel
theorem dX11_rest_13 : decode cX11_rest 13 = .ok (.iload_n 2, 1) := by decide +kernel
theorem dX11_rest_14 : decode cX11_rest 14 = .ok (.ifCond .ge 5, 3) := by decide +kernel
theorem dX11_rest_17 : decode cX11_rest 17 = .ok (.iconst (-1), 1) := by decide +kernel
theorem dX11_rest_18 : decode cX11_rest 18 = .ok (.ireturn, 1) := by decide +kernel
theorem dX11_rest_19 : decode cX11_rest 19 = .ok (.aload_n 0, 1) := by decide +kernel
theorem dX11_rest_20 : decode cX11_rest 20 = .ok (.iload_n 1, 1) := by decide +kernel
theorem dX11_rest_21 : decode cX11_rest 21 = .ok (.invokevirtual 329, 3) := by decide +kernel
theorem dX11_rest_24 : decode cX11_rest 24 = .ok (.iconst 0, 1) := by decide +kernel
theorem dX11_rest_25 : decode cX11_rest 25 = .ok (.istore_n 3, 1) := by decide +kernel
theorem dX11_rest_26 : decode cX11_rest 26 = .ok (.iconst 0, 1) := by decide +kernel
theorem dX11_rest_27 : decode cX11_rest 27 = .ok (.istore 4, 2) := by decide +kernel
theorem dX11_rest_29 : decode cX11_rest 29 = .ok (.iload 4, 2) := by decide +kernel
theorem dX11_rest_31 : decode cX11_rest 31 = .ok (.aload_n 0, 1) := by decide +kernel
theorem dX11_rest_32 : decode cX11_rest 32 = .ok (.invokevirtual 317, 3) := by decide +kernel
theorem dX11_rest_35 : decode cX11_rest 35 = .ok (.if_icmp .ge 29, 3) := by decide +kernel
theorem dX11_rest_38 : decode cX11_rest 38 = .ok (.aload_n 0, 1) := by decide +kernel
theorem dX11_rest_39 : decode cX11_rest 39 = .ok (.iload 4, 2) := by decide +kernel
theorem dX11_rest_41 : decode cX11_rest 41 = .ok (.invokevirtual 332, 3) := by decide +kernel
theorem dX11_rest_44 : decode cX11_rest 44 = .ok (.ifCond .eq 14, 3) := by decide +kernel
theorem dX11_rest_47 : decode cX11_rest 47 = .ok (.iload_n 3, 1) := by decide +kernel
theorem dX11_rest_48 : decode cX11_rest 48 = .ok (.iload_n 2, 1) := by decide +kernel
theorem dX11_rest_49 : decode cX11_rest 49 = .ok (.if_icmp .ne 6, 3) := by decide +kernel
theorem dX11_rest_52 : decode cX11_rest 52 = .ok (.iload 4, 2) := by decide +kernel
theorem dX11_rest_54 : decode cX11_rest 54 = .ok (.ireturn, 1) := by decide +kernel
theorem dX11_rest_55 : decode cX11_rest 55 = .ok (.iinc 3 1, 3) := by decide +kernel
theorem dX11_rest_58 : decode cX11_rest 58 = .ok (.iinc 4 1, 3) := by decide +kernel
theorem dX11_rest_61 : decode cX11_rest 61 = .ok (.goto (-32), 3) := by decide +kernel
theorem dX11_rest_64 : decode cX11_rest 64 = .ok (.iconst (-1), 1) := by decide +kernel
theorem dX11_rest_65 : decode cX11_rest 65 = .ok (.ireturn, 1) := by decide +kernel
theorem dX11_played_0 : decode cX11_played 0 = .ok (.aload_n 0, 1) := by decide +kernel
theorem dX11_played_1 : decode cX11_played 1 = .ok (.iconst 0, 1) := by decide +kernel
theorem dX11_played_2 : decode cX11_played 2 = .ok (.putfield 1, 3) := by decide +kernel
theorem dX11_played_5 : decode cX11_played 5 = .ok (.aload_n 0, 1) := by decide +kernel
theorem dX11_played_6 : decode cX11_played 6 = .ok (.iload_n 2, 1) := by decide +kernel
theorem dX11_played_7 : decode cX11_played 7 = .ok (.invokevirtual 320, 3) := by decide +kernel
theorem dX11_played_10 : decode cX11_played 10 = .ok (.ifCond .eq 24, 3) := by decide +kernel
theorem dX11_played_13 : decode cX11_played 13 = .ok (.iload_n 1, 1) := by decide +kernel
theorem dX11_played_14 : decode cX11_played 14 = .ok (.ifCond .lt 20, 3) := by decide +kernel
theorem dX11_played_17 : decode cX11_played 17 = .ok (.iload_n 1, 1) := by decide +kernel
theorem dX11_played_18 : decode cX11_played 18 = .ok (.aload_n 0, 1) := by decide +kernel
theorem dX11_played_19 : decode cX11_played 19 = .ok (.invokevirtual 317, 3) := by decide +kernel
theorem dX11_played_22 : decode cX11_played 22 = .ok (.if_icmp .ge 12, 3) := by decide +kernel
theorem dX11_played_25 : decode cX11_played 25 = .ok (.iload_n 3, 1) := by decide +kernel
theorem dX11_played_26 : decode cX11_played 26 = .ok (.iconst 0, 1) := by decide +kernel
theorem dX11_played_27 : decode cX11_played 27 = .ok (.iconst 1, 1) := by decide +kernel
theorem dX11_played_28 : decode cX11_played 28 = .ok (.invokestatic 301, 3) := by decide +kernel
theorem dX11_played_31 : decode cX11_played 31 = .ok (.ifCond .ne 5, 3) := by decide +kernel
theorem dX11_played_34 : decode cX11_played 34 = .ok (.iconst (-1), 1) := by decide +kernel
theorem dX11_played_35 : decode cX11_played 35 = .ok (.ireturn, 1) := by decide +kernel
theorem dX11_played_36 : decode cX11_played 36 = .ok (.aload_n 0, 1) := by decide +kernel
theorem dX11_played_37 : decode cX11_played 37 = .ok (.iload_n 2, 1) := by decide +kernel
theorem dX11_played_38 : decode cX11_played 38 = .ok (.invokevirtual 329, 3) := by decide +kernel
theorem dX11_played_41 : decode cX11_played 41 = .ok (.iconst 0, 1) := by decide +kernel
theorem dX11_played_42 : decode cX11_played 42 = .ok (.istore 4, 2) := by decide +kernel
theorem dX11_played_44 : decode cX11_played 44 = .ok (.iload 4, 2) := by decide +kernel
theorem dX11_played_46 : decode cX11_played 46 = .ok (.sipush 256, 3) := by decide +kernel
theorem dX11_played_49 : decode cX11_played 49 = .ok (.if_icmp .ge 27, 3) := by decide +kernel
theorem dX11_played_52 : decode cX11_played 52 = .ok (.aload_n 0, 1) := by decide +kernel
theorem dX11_played_53 : decode cX11_played 53 = .ok (.getfield 105, 3) := by decide +kernel
theorem dX11_played_56 : decode cX11_played 56 = .ok (.iload 4, 2) := by decide +kernel
theorem dX11_played_58 : decode cX11_played 58 = .ok (.iload 4, 2) := by decide +kernel
theorem dX11_played_60 : decode cX11_played 60 = .ok (.iload_n 1, 1) := by decide +kernel
theorem dX11_played_61 : decode cX11_played 61 = .ok (.if_icmp .ne 7, 3) := by decide +kernel
theorem dX11_played_64 : decode cX11_played 64 = .ok (.iconst 1, 1) := by decide +kernel
theorem dX11_played_65 : decode cX11_played 65 = .ok (.goto 4, 3) := by decide +kernel
theorem dX11_played_68 : decode cX11_played 68 = .ok (.iconst 0, 1) := by decide +kernel
theorem dX11_played_69 : decode cX11_played 69 = .ok (.bastore, 1) := by decide +kernel
theorem dX11_played_70 : decode cX11_played 70 = .ok (.iinc 4 1, 3) := by decide +kernel
theorem dX11_played_73 : decode cX11_played 73 = .ok (.goto (-29), 3) := by decide +kernel
theorem dX11_played_76 : decode cX11_played 76 = .ok (.iload_n 1, 1) := by decide +kernel
theorem dX11_played_77 : decode cX11_played 77 = .ok (.istore 4, 2) := by decide +kernel
theorem dX11_played_79 : decode cX11_played 79 = .ok (.iconst 0, 1) := by decide +kernel
theorem dX11_played_80 : decode cX11_played 80 = .ok (.istore 5, 2) := by decide +kernel
theorem dX11_played_82 : decode cX11_played 82 = .ok (.iload 4, 2) := by decide +kernel
theorem dX11_played_84 : decode cX11_played 84 = .ok (.istore 6, 2) := by decide +kernel
theorem dX11_played_86 : decode cX11_played 86 = .ok (.iconst 0, 1) := by decide +kernel
theorem dX11_played_87 : decode cX11_played 87 = .ok (.istore 7, 2) := by decide +kernel
theorem dX11_played_89 : decode cX11_played 89 = .ok (.iload 7, 2) := by decide +kernel
theorem dX11_played_91 : decode cX11_played 91 = .ok (.aload_n 0, 1) := by decide +kernel
theorem dX11_played_92 : decode cX11_played 92 = .ok (.invokevirtual 248, 3) := by decide +kernel
theorem dX11_played_95 : decode cX11_played 95 = .ok (.if_icmp .ge 26, 3) := by decide +kernel
theorem dX11_played_98 : decode cX11_played 98 = .ok (.iload 4, 2) := by decide +kernel
theorem dX11_played_100 : decode cX11_played 100 = .ok (.iload 7, 2) := by decide +kernel
theorem dX11_played_102 : decode cX11_played 102 = .ok (.aload_n 0, 1) := by decide +kernel
theorem dX11_played_103 : decode cX11_played 103 = .ok (.iload 4, 2) := by decide +kernel
theorem dX11_played_105 : decode cX11_played 105 = .ok (.iload 7, 2) := by decide +kernel
theorem dX11_played_107 : decode cX11_played 107 = .ok (.invokevirtual 326, 3) := by decide +kernel
theorem dX11_played_110 : decode cX11_played 110 = .ok (.invokestatic 323, 3) := by decide +kernel
theorem dX11_played_113 : decode cX11_played 113 = .ok (.istore 4, 2) := by decide +kernel
theorem dX11_played_115 : decode cX11_played 115 = .ok (.iinc 7 1, 3) := by decide +kernel
theorem dX11_played_118 : decode cX11_played 118 = .ok (.goto (-29), 3) := by decide +kernel
theorem dX11_played_121 : decode cX11_played 121 = .ok (.iinc 5 1, 3) := by decide +kernel
theorem dX11_played_124 : decode cX11_played 124 = .ok (.iload 4, 2) := by decide +kernel
theorem dX11_played_126 : decode cX11_played 126 = .ok (.iload 6, 2) := by decide +kernel
theorem dX11_played_128 : decode cX11_played 128 = .ok (.if_icmp .ne 15, 3) := by decide +kernel
theorem dX11_played_131 : decode cX11_played 131 = .ok (.iload_n 3, 1) := by decide +kernel
theorem dX11_played_132 : decode cX11_played 132 = .ok (.ifCond .ne 8, 3) := by decide +kernel
theorem dX11_played_135 : decode cX11_played 135 = .ok (.iload 4, 2) := by decide +kernel
theorem dX11_played_137 : decode cX11_played 137 = .ok (.goto 5, 3) := by decide +kernel
theorem dX11_played_140 : decode cX11_played 140 = .ok (.iload 5, 2) := by decide +kernel
theorem dX11_played_142 : decode cX11_played 142 = .ok (.ireturn, 1) := by decide +kernel
theorem dX11_played_143 : decode cX11_played 143 = .ok (.aload_n 0, 1) := by decide +kernel
theorem dX11_played_144 : decode cX11_played 144 = .ok (.getfield 105, 3) := by decide +kernel
theorem dX11_played_147 : decode cX11_played 147 = .ok (.iload 4, 2) := by decide +kernel
theorem dX11_played_149 : decode cX11_played 149 = .ok (.baload, 1) := by decide +kernel
theorem dX11_played_150 : decode cX11_played 150 = .ok (.ifCond .eq 14, 3) := by decide +kernel
theorem dX11_played_153 : decode cX11_played 153 = .ok (.iload_n 3, 1) := by decide +kernel
theorem dX11_played_154 : decode cX11_played 154 = .ok (.ifCond .ne 7, 3) := by decide +kernel
theorem dX11_played_157 : decode cX11_played 157 = .ok (.iconst (-1), 1) := by decide +kernel
theorem dX11_played_158 : decode cX11_played 158 = .ok (.goto 5, 3) := by decide +kernel
theorem dX11_played_161 : decode cX11_played 161 = .ok (.iload 5, 2) := by decide +kernel
theorem dX11_played_163 : decode cX11_played 163 = .ok (.ireturn, 1) := by decide +kernel
theorem dX11_played_164 : decode cX11_played 164 = .ok (.aload_n 0, 1) := by decide +kernel
theorem dX11_played_165 : decode cX11_played 165 = .ok (.getfield 105, 3) := by decide +kernel
theorem dX11_played_168 : decode cX11_played 168 = .ok (.iload 4, 2) := by decide +kernel
theorem dX11_played_170 : decode cX11_played 170 = .ok (.iconst 1, 1) := by decide +kernel
theorem dX11_played_171 : decode cX11_played 171 = .ok (.bastore, 1) := by decide +kernel
theorem dX11_played_172 : decode cX11_played 172 = .ok (.goto (-90), 3) := by decide +kernel
theorem dX11_findGroups_0 : decode cX11_findGroups 0 = .ok (.iload_n 1, 1) := by decide +kernel
theorem dX11_findGroups_1 : decode cX11_findGroups 1 = .ok (.aload_n 0, 1) := by decide +kernel
theorem dX11_findGroups_2 : decode cX11_findGroups 2 = .ok (.invokevirtual 248, 3) := by decide +kernel
theorem dX11_findGroups_5 : decode cX11_findGroups 5 = .ok (.if_icmp .ne 24, 3) := by decide +kernel
theorem dX11_findGroups_8 : decode cX11_findGroups 8 = .ok (.aload_n 0, 1) := by decide +kernel
theorem dX11_findGroups_9 : decode cX11_findGroups 9 = .ok (.getfield 109, 3) := by decide +kernel
theorem dX11_findGroups_12 : decode cX11_findGroups 12 = .ok (.aload_n 0, 1) := by decide +kernel
theorem dX11_findGroups_13 : decode cX11_findGroups 13 = .ok (.getfield 335, 3) := by decide +kernel
theorem dX11_findGroups_16 : decode cX11_findGroups 16 = .ok (.iload_n 2, 1) := by decide +kernel
theorem dX11_findGroups_17 : decode cX11_findGroups 17 = .ok (.iastore, 1) := by decide +kernel
theorem dX11_findGroups_18 : decode cX11_findGroups 18 = .ok (.aload_n 0, 1) := by decide +kernel
theorem dX11_findGroups_19 : decode cX11_findGroups 19 = .ok (.dup, 1) := by decide +kernel
theorem dX11_findGroups_20 : decode cX11_findGroups 20 = .ok (.getfield 335, 3) := by decide +kernel
theorem dX11_findGroups_23 : decode cX11_findGroups 23 = .ok (.iconst 1, 1) := by decide +kernel
theorem dX11_findGroups_24 : decode cX11_findGroups 24 = .ok (.iadd, 1) := by decide +kernel
theorem dX11_findGroups_25 : decode cX11_findGroups 25 = .ok (.putfield 335, 3) := by decide +kernel
theorem dX11_findGroups_28 : decode cX11_findGroups 28 = .ok (.return_, 1) := by decide +kernel
theorem dX11_findGroups_29 : decode cX11_findGroups 29 = .ok (.iconst 0, 1) := by decide +kernel
theorem dX11_findGroups_30 : decode cX11_findGroups 30 = .ok (.istore 4, 2) := by decide +kernel
theorem dX11_findGroups_32 : decode cX11_findGroups 32 = .ok (.iload 4, 2) := by decide +kernel
theorem dX11_findGroups_34 : decode cX11_findGroups 34 = .ok (.iload_n 3, 1) := by decide +kernel
theorem dX11_findGroups_35 : decode cX11_findGroups 35 = .ok (.if_icmp .gt 37, 3) := by decide +kernel
theorem dX11_findGroups_38 : decode cX11_findGroups 38 = .ok (.aload_n 0, 1) := by decide +kernel
theorem dX11_findGroups_39 : decode cX11_findGroups 39 = .ok (.iload_n 1, 1) := by decide +kernel
theorem dX11_findGroups_40 : decode cX11_findGroups 40 = .ok (.iconst 1, 1) := by decide +kernel
theorem dX11_findGroups_41 : decode cX11_findGroups 41 = .ok (.iadd, 1) := by decide +kernel
theorem dX11_findGroups_42 : decode cX11_findGroups 42 = .ok (.iload_n 2, 1) := by decide +kernel
theorem dX11_findGroups_43 : decode cX11_findGroups 43 = .ok (.iload 4, 2) := by decide +kernel
theorem dX11_findGroups_45 : decode cX11_findGroups 45 = .ok (.iconst 3, 1) := by decide +kernel
theorem dX11_findGroups_46 : decode cX11_findGroups 46 = .ok (.iload_n 1, 1) := by decide +kernel
theorem dX11_findGroups_47 : decode cX11_findGroups 47 = .ok (.imul, 1) := by decide +kernel
theorem dX11_findGroups_48 : decode cX11_findGroups 48 = .ok (.ishl, 1) := by decide +kernel
theorem dX11_findGroups_49 : decode cX11_findGroups 49 = .ok (.ior, 1) := by decide +kernel
theorem dX11_findGroups_50 : decode cX11_findGroups 50 = .ok (.iload 4, 2) := by decide +kernel
theorem dX11_findGroups_52 : decode cX11_findGroups 52 = .ok (.iload_n 3, 1) := by decide +kernel
theorem dX11_findGroups_53 : decode cX11_findGroups 53 = .ok (.if_icmp .ne 9, 3) := by decide +kernel
theorem dX11_findGroups_56 : decode cX11_findGroups 56 = .ok (.iload_n 3, 1) := by decide +kernel
theorem dX11_findGroups_57 : decode cX11_findGroups 57 = .ok (.iconst 1, 1) := by decide +kernel
theorem dX11_findGroups_58 : decode cX11_findGroups 58 = .ok (.iadd, 1) := by decide +kernel
theorem dX11_findGroups_59 : decode cX11_findGroups 59 = .ok (.goto 4, 3) := by decide +kernel
theorem dX11_findGroups_62 : decode cX11_findGroups 62 = .ok (.iload_n 3, 1) := by decide +kernel
theorem dX11_findGroups_63 : decode cX11_findGroups 63 = .ok (.invokevirtual 338, 3) := by decide +kernel
theorem dX11_findGroups_66 : decode cX11_findGroups 66 = .ok (.iinc 4 1, 3) := by decide +kernel
theorem dX11_findGroups_69 : decode cX11_findGroups 69 = .ok (.goto (-37), 3) := by decide +kernel
theorem dX11_findGroups_72 : decode cX11_findGroups 72 = .ok (.return_, 1) := by decide +kernel
theorem dX11_groupOf_0 : decode cX11_groupOf 0 = .ok (.iload_n 0, 1) := by decide +kernel
theorem dX11_groupOf_1 : decode cX11_groupOf 1 = .ok (.iconst 3, 1) := by decide +kernel
theorem dX11_groupOf_2 : decode cX11_groupOf 2 = .ok (.iload_n 1, 1) := by decide +kernel
theorem dX11_groupOf_3 : decode cX11_groupOf 3 = .ok (.imul, 1) := by decide +kernel
theorem dX11_groupOf_4 : decode cX11_groupOf 4 = .ok (.ishr, 1) := by decide +kernel
theorem dX11_groupOf_5 : decode cX11_groupOf 5 = .ok (.bipush 7, 2) := by decide +kernel
theorem dX11_groupOf_7 : decode cX11_groupOf 7 = .ok (.iand, 1) := by decide +kernel
theorem dX11_groupOf_8 : decode cX11_groupOf 8 = .ok (.ireturn, 1) := by decide +kernel
theorem dX11_findJoined_0 : decode cX11_findJoined 0 = .ok (.aload_n 0, 1) := by decide +kernel
theorem dX11_findJoined_1 : decode cX11_findJoined 1 = .ok (.iconst 0, 1) := by decide +kernel
theorem dX11_findJoined_2 : decode cX11_findJoined 2 = .ok (.putfield 335, 3) := by decide +kernel
theorem dX11_findJoined_5 : decode cX11_findJoined 5 = .ok (.aload_n 0, 1) := by decide +kernel
theorem dX11_findJoined_6 : decode cX11_findJoined 6 = .ok (.iconst 0, 1) := by decide +kernel
theorem dX11_findJoined_7 : decode cX11_findJoined 7 = .ok (.iconst 0, 1) := by decide +kernel
theorem dX11_findJoined_8 : decode cX11_findJoined 8 = .ok (.iconst 0, 1) := by decide +kernel
theorem dX11_findJoined_9 : decode cX11_findJoined 9 = .ok (.invokevirtual 338, 3) := by decide +kernel
theorem dX11_findJoined_12 : decode cX11_findJoined 12 = .ok (.aload_n 0, 1) := by decide +kernel
theorem dX11_findJoined_13 : decode cX11_findJoined 13 = .ok (.iconst 0, 1) := by decide +kernel
theorem dX11_findJoined_14 : decode cX11_findJoined 14 = .ok (.iconst 1, 1) := by decide +kernel
theorem dX11_findJoined_15 : decode cX11_findJoined 15 = .ok (.invokevirtual 182, 3) := by decide +kernel
theorem dX11_findJoined_18 : decode cX11_findJoined 18 = .ok (.iconst 0, 1) := by decide +kernel
theorem dX11_findJoined_19 : decode cX11_findJoined 19 = .ok (.istore_n 2, 1) := by decide +kernel
theorem dX11_findJoined_20 : decode cX11_findJoined 20 = .ok (.iload_n 2, 1) := by decide +kernel
theorem dX11_findJoined_21 : decode cX11_findJoined 21 = .ok (.aload_n 0, 1) := by decide +kernel
theorem dX11_findJoined_22 : decode cX11_findJoined 22 = .ok (.getfield 335, 3) := by decide +kernel
theorem dX11_findJoined_25 : decode cX11_findJoined 25 = .ok (.if_icmp .ge 130, 3) := by decide +kernel
theorem dX11_findJoined_28 : decode cX11_findJoined 28 = .ok (.iconst 0, 1) := by decide +kernel
theorem dX11_findJoined_29 : decode cX11_findJoined 29 = .ok (.istore_n 3, 1) := by decide +kernel
theorem dX11_findJoined_30 : decode cX11_findJoined 30 = .ok (.iload_n 3, 1) := by decide +kernel
theorem dX11_findJoined_31 : decode cX11_findJoined 31 = .ok (.aload_n 0, 1) := by decide +kernel
theorem dX11_findJoined_32 : decode cX11_findJoined 32 = .ok (.invokevirtual 248, 3) := by decide +kernel
theorem dX11_findJoined_35 : decode cX11_findJoined 35 = .ok (.if_icmp .ge 77, 3) := by decide +kernel
theorem dX11_findJoined_38 : decode cX11_findJoined 38 = .ok (.iconst 0, 1) := by decide +kernel
theorem dX11_findJoined_39 : decode cX11_findJoined 39 = .ok (.istore 4, 2) := by decide +kernel
theorem dX11_findJoined_41 : decode cX11_findJoined 41 = .ok (.iload 4, 2) := by decide +kernel
theorem dX11_findJoined_43 : decode cX11_findJoined 43 = .ok (.aload_n 0, 1) := by decide +kernel
theorem dX11_findJoined_44 : decode cX11_findJoined 44 = .ok (.invokevirtual 248, 3) := by decide +kernel
theorem dX11_findJoined_47 : decode cX11_findJoined 47 = .ok (.if_icmp .ge 59, 3) := by decide +kernel
theorem dX11_findJoined_50 : decode cX11_findJoined 50 = .ok (.aload_n 0, 1) := by decide +kernel
theorem dX11_findJoined_51 : decode cX11_findJoined 51 = .ok (.getfield 69, 3) := by decide +kernel
theorem dX11_findJoined_54 : decode cX11_findJoined 54 = .ok (.bipush 110, 2) := by decide +kernel
theorem dX11_findJoined_56 : decode cX11_findJoined 56 = .ok (.bipush 6, 2) := by decide +kernel
theorem dX11_findJoined_58 : decode cX11_findJoined 58 = .ok (.iload_n 3, 1) := by decide +kernel
theorem dX11_findJoined_59 : decode cX11_findJoined 59 = .ok (.imul, 1) := by decide +kernel
theorem dX11_findJoined_60 : decode cX11_findJoined 60 = .ok (.iadd, 1) := by decide +kernel
theorem dX11_findJoined_61 : decode cX11_findJoined 61 = .ok (.iload 4, 2) := by decide +kernel
theorem dX11_findJoined_63 : decode cX11_findJoined 63 = .ok (.iadd, 1) := by decide +kernel
theorem dX11_findJoined_64 : decode cX11_findJoined 64 = .ok (.iload_n 3, 1) := by decide +kernel
theorem dX11_findJoined_65 : decode cX11_findJoined 65 = .ok (.iload 4, 2) := by decide +kernel
theorem dX11_findJoined_67 : decode cX11_findJoined 67 = .ok (.if_icmp .eq 31, 3) := by decide +kernel
theorem dX11_findJoined_70 : decode cX11_findJoined 70 = .ok (.aload_n 0, 1) := by decide +kernel
theorem dX11_findJoined_71 : decode cX11_findJoined 71 = .ok (.getfield 109, 3) := by decide +kernel
theorem dX11_findJoined_74 : decode cX11_findJoined 74 = .ok (.iload_n 2, 1) := by decide +kernel
theorem dX11_findJoined_75 : decode cX11_findJoined 75 = .ok (.iaload, 1) := by decide +kernel
theorem dX11_findJoined_76 : decode cX11_findJoined 76 = .ok (.iload_n 3, 1) := by decide +kernel
theorem dX11_findJoined_77 : decode cX11_findJoined 77 = .ok (.invokestatic 341, 3) := by decide +kernel
theorem dX11_findJoined_80 : decode cX11_findJoined 80 = .ok (.aload_n 0, 1) := by decide +kernel
theorem dX11_findJoined_81 : decode cX11_findJoined 81 = .ok (.getfield 109, 3) := by decide +kernel
theorem dX11_findJoined_84 : decode cX11_findJoined 84 = .ok (.iload_n 2, 1) := by decide +kernel
theorem dX11_findJoined_85 : decode cX11_findJoined 85 = .ok (.iaload, 1) := by decide +kernel
theorem dX11_findJoined_86 : decode cX11_findJoined 86 = .ok (.iload 4, 2) := by decide +kernel
theorem dX11_findJoined_88 : decode cX11_findJoined 88 = .ok (.invokestatic 341, 3) := by decide +kernel
theorem dX11_findJoined_91 : decode cX11_findJoined 91 = .ok (.if_icmp .ne 7, 3) := by decide +kernel
theorem dX11_findJoined_94 : decode cX11_findJoined 94 = .ok (.iconst 1, 1) := by decide +kernel
theorem dX11_findJoined_95 : decode cX11_findJoined 95 = .ok (.goto 4, 3) := by decide +kernel
theorem dX11_findJoined_98 : decode cX11_findJoined 98 = .ok (.iconst 0, 1) := by decide +kernel
theorem dX11_findJoined_99 : decode cX11_findJoined 99 = .ok (.iastore, 1) := by decide +kernel
theorem dX11_findJoined_100 : decode cX11_findJoined 100 = .ok (.iinc 4 1, 3) := by decide +kernel
theorem dX11_findJoined_103 : decode cX11_findJoined 103 = .ok (.goto (-62), 3) := by decide +kernel
theorem dX11_findJoined_106 : decode cX11_findJoined 106 = .ok (.iinc 3 1, 3) := by decide +kernel
theorem dX11_findJoined_109 : decode cX11_findJoined 109 = .ok (.goto (-79), 3) := by decide +kernel
theorem dX11_findJoined_112 : decode cX11_findJoined 112 = .ok (.aload_n 0, 1) := by decide +kernel
theorem dX11_findJoined_113 : decode cX11_findJoined 113 = .ok (.iload_n 1, 1) := by decide +kernel
theorem dX11_findJoined_114 : decode cX11_findJoined 114 = .ok (.invokevirtual 314, 3) := by decide +kernel
theorem dX11_findJoined_117 : decode cX11_findJoined 117 = .ok (.iconst 0, 1) := by decide +kernel
theorem dX11_findJoined_118 : decode cX11_findJoined 118 = .ok (.istore_n 3, 1) := by decide +kernel
theorem dX11_findJoined_119 : decode cX11_findJoined 119 = .ok (.iload_n 3, 1) := by decide +kernel
theorem dX11_findJoined_120 : decode cX11_findJoined 120 = .ok (.aload_n 0, 1) := by decide +kernel
theorem dX11_findJoined_121 : decode cX11_findJoined 121 = .ok (.invokevirtual 248, 3) := by decide +kernel
theorem dX11_findJoined_124 : decode cX11_findJoined 124 = .ok (.if_icmp .ge 25, 3) := by decide +kernel
theorem dX11_findJoined_127 : decode cX11_findJoined 127 = .ok (.aload_n 0, 1) := by decide +kernel
theorem dX11_findJoined_128 : decode cX11_findJoined 128 = .ok (.getfield 112, 3) := by decide +kernel
theorem dX11_findJoined_131 : decode cX11_findJoined 131 = .ok (.iconst 5, 1) := by decide +kernel
theorem dX11_findJoined_132 : decode cX11_findJoined 132 = .ok (.iload_n 2, 1) := by decide +kernel
theorem dX11_findJoined_133 : decode cX11_findJoined 133 = .ok (.imul, 1) := by decide +kernel
theorem dX11_findJoined_134 : decode cX11_findJoined 134 = .ok (.iload_n 3, 1) := by decide +kernel
theorem dX11_findJoined_135 : decode cX11_findJoined 135 = .ok (.iadd, 1) := by decide +kernel
theorem dX11_findJoined_136 : decode cX11_findJoined 136 = .ok (.aload_n 0, 1) := by decide +kernel
theorem dX11_findJoined_137 : decode cX11_findJoined 137 = .ok (.getfield 99, 3) := by decide +kernel
theorem dX11_findJoined_140 : decode cX11_findJoined 140 = .ok (.iload_n 3, 1) := by decide +kernel
theorem dX11_findJoined_141 : decode cX11_findJoined 141 = .ok (.iaload, 1) := by decide +kernel
theorem dX11_findJoined_142 : decode cX11_findJoined 142 = .ok (.iastore, 1) := by decide +kernel
theorem dX11_findJoined_143 : decode cX11_findJoined 143 = .ok (.iinc 3 1, 3) := by decide +kernel
theorem dX11_findJoined_146 : decode cX11_findJoined 146 = .ok (.goto (-27), 3) := by decide +kernel
theorem dX11_findJoined_149 : decode cX11_findJoined 149 = .ok (.iinc 2 1, 3) := by decide +kernel
theorem dX11_findJoined_152 : decode cX11_findJoined 152 = .ok (.goto (-132), 3) := by decide +kernel
theorem dX11_findJoined_155 : decode cX11_findJoined 155 = .ok (.aload_n 0, 1) := by decide +kernel
theorem dX11_findJoined_156 : decode cX11_findJoined 156 = .ok (.iconst 1, 1) := by decide +kernel
theorem dX11_findJoined_157 : decode cX11_findJoined 157 = .ok (.iconst 0, 1) := by decide +kernel
theorem dX11_findJoined_158 : decode cX11_findJoined 158 = .ok (.invokevirtual 182, 3) := by decide +kernel
theorem dX11_findJoined_161 : decode cX11_findJoined 161 = .ok (.return_, 1) := by decide +kernel
theorem dX11_without_0 : decode cX11_without 0 = .ok (.iconst 0, 1) := by decide +kernel
theorem dX11_without_1 : decode cX11_without 1 = .ok (.istore_n 3, 1) := by decide +kernel
theorem dX11_without_2 : decode cX11_without 2 = .ok (.iconst 0, 1) := by decide +kernel
theorem dX11_without_3 : decode cX11_without 3 = .ok (.istore 4, 2) := by decide +kernel
theorem dX11_without_5 : decode cX11_without 5 = .ok (.iconst 0, 1) := by decide +kernel
theorem dX11_without_6 : decode cX11_without 6 = .ok (.istore 5, 2) := by decide +kernel
theorem dX11_without_8 : decode cX11_without 8 = .ok (.iload 5, 2) := by decide +kernel
theorem dX11_without_10 : decode cX11_without 10 = .ok (.aload_n 0, 1) := by decide +kernel
theorem dX11_without_11 : decode cX11_without 11 = .ok (.invokevirtual 248, 3) := by decide +kernel
theorem dX11_without_14 : decode cX11_without 14 = .ok (.if_icmp .ge 163, 3) := by decide +kernel
theorem dX11_without_17 : decode cX11_without 17 = .ok (.iconst (-1), 1) := by decide +kernel
theorem dX11_without_18 : decode cX11_without 18 = .ok (.istore 6, 2) := by decide +kernel
theorem dX11_without_20 : decode cX11_without 20 = .ok (.iconst 0, 1) := by decide +kernel
theorem dX11_without_21 : decode cX11_without 21 = .ok (.istore 7, 2) := by decide +kernel
theorem dX11_without_23 : decode cX11_without 23 = .ok (.iload 7, 2) := by decide +kernel
theorem dX11_without_25 : decode cX11_without 25 = .ok (.iload 5, 2) := by decide +kernel
theorem dX11_without_27 : decode cX11_without 27 = .ok (.if_icmp .ge 109, 3) := by decide +kernel
theorem dX11_without_30 : decode cX11_without 30 = .ok (.iload_n 2, 1) := by decide +kernel
theorem dX11_without_31 : decode cX11_without 31 = .ok (.iload 5, 2) := by decide +kernel
theorem dX11_without_33 : decode cX11_without 33 = .ok (.ishr, 1) := by decide +kernel
theorem dX11_without_34 : decode cX11_without 34 = .ok (.iconst 1, 1) := by decide +kernel
theorem dX11_without_35 : decode cX11_without 35 = .ok (.iand, 1) := by decide +kernel
theorem dX11_without_36 : decode cX11_without 36 = .ok (.iconst 1, 1) := by decide +kernel
theorem dX11_without_37 : decode cX11_without 37 = .ok (.if_icmp .ne 17, 3) := by decide +kernel
theorem dX11_without_40 : decode cX11_without 40 = .ok (.iload_n 2, 1) := by decide +kernel
theorem dX11_without_41 : decode cX11_without 41 = .ok (.iload 7, 2) := by decide +kernel
theorem dX11_without_43 : decode cX11_without 43 = .ok (.ishr, 1) := by decide +kernel
theorem dX11_without_44 : decode cX11_without 44 = .ok (.iconst 1, 1) := by decide +kernel
theorem dX11_without_45 : decode cX11_without 45 = .ok (.iand, 1) := by decide +kernel
theorem dX11_without_46 : decode cX11_without 46 = .ok (.iconst 1, 1) := by decide +kernel
theorem dX11_without_47 : decode cX11_without 47 = .ok (.if_icmp .ne 7, 3) := by decide +kernel
theorem dX11_without_50 : decode cX11_without 50 = .ok (.iconst 1, 1) := by decide +kernel
theorem dX11_without_51 : decode cX11_without 51 = .ok (.goto 4, 3) := by decide +kernel
theorem dX11_without_54 : decode cX11_without 54 = .ok (.iconst 0, 1) := by decide +kernel
theorem dX11_without_55 : decode cX11_without 55 = .ok (.istore 8, 2) := by decide +kernel
theorem dX11_without_57 : decode cX11_without 57 = .ok (.iload_n 2, 1) := by decide +kernel
theorem dX11_without_58 : decode cX11_without 58 = .ok (.iload 5, 2) := by decide +kernel
theorem dX11_without_60 : decode cX11_without 60 = .ok (.ishr, 1) := by decide +kernel
theorem dX11_without_61 : decode cX11_without 61 = .ok (.iconst 1, 1) := by decide +kernel
theorem dX11_without_62 : decode cX11_without 62 = .ok (.iand, 1) := by decide +kernel
theorem dX11_without_63 : decode cX11_without 63 = .ok (.ifCond .ne 41, 3) := by decide +kernel
theorem dX11_without_66 : decode cX11_without 66 = .ok (.iload_n 2, 1) := by decide +kernel
theorem dX11_without_67 : decode cX11_without 67 = .ok (.iload 7, 2) := by decide +kernel
theorem dX11_without_69 : decode cX11_without 69 = .ok (.ishr, 1) := by decide +kernel
theorem dX11_without_70 : decode cX11_without 70 = .ok (.iconst 1, 1) := by decide +kernel
theorem dX11_without_71 : decode cX11_without 71 = .ok (.iand, 1) := by decide +kernel
theorem dX11_without_72 : decode cX11_without 72 = .ok (.ifCond .ne 32, 3) := by decide +kernel
theorem dX11_without_75 : decode cX11_without 75 = .ok (.aload_n 0, 1) := by decide +kernel
theorem dX11_without_76 : decode cX11_without 76 = .ok (.getfield 109, 3) := by decide +kernel
theorem dX11_without_79 : decode cX11_without 79 = .ok (.iload_n 1, 1) := by decide +kernel
theorem dX11_without_80 : decode cX11_without 80 = .ok (.iaload, 1) := by decide +kernel
theorem dX11_without_81 : decode cX11_without 81 = .ok (.iload 5, 2) := by decide +kernel
theorem dX11_without_83 : decode cX11_without 83 = .ok (.invokestatic 341, 3) := by decide +kernel
theorem dX11_without_86 : decode cX11_without 86 = .ok (.aload_n 0, 1) := by decide +kernel
theorem dX11_without_87 : decode cX11_without 87 = .ok (.getfield 109, 3) := by decide +kernel
theorem dX11_without_90 : decode cX11_without 90 = .ok (.iload_n 1, 1) := by decide +kernel
theorem dX11_without_91 : decode cX11_without 91 = .ok (.iaload, 1) := by decide +kernel
theorem dX11_without_92 : decode cX11_without 92 = .ok (.iload 7, 2) := by decide +kernel
theorem dX11_without_94 : decode cX11_without 94 = .ok (.invokestatic 341, 3) := by decide +kernel
theorem dX11_without_97 : decode cX11_without 97 = .ok (.if_icmp .ne 7, 3) := by decide +kernel
theorem dX11_without_100 : decode cX11_without 100 = .ok (.iconst 1, 1) := by decide +kernel
theorem dX11_without_101 : decode cX11_without 101 = .ok (.goto 4, 3) := by decide +kernel
theorem dX11_without_104 : decode cX11_without 104 = .ok (.iconst 0, 1) := by decide +kernel
theorem dX11_without_105 : decode cX11_without 105 = .ok (.istore 9, 2) := by decide +kernel
theorem dX11_without_107 : decode cX11_without 107 = .ok (.iload 8, 2) := by decide +kernel
theorem dX11_without_109 : decode cX11_without 109 = .ok (.ifCond .ne 8, 3) := by decide +kernel
theorem dX11_without_112 : decode cX11_without 112 = .ok (.iload 9, 2) := by decide +kernel
theorem dX11_without_114 : decode cX11_without 114 = .ok (.ifCond .eq 12, 3) := by decide +kernel
theorem dX11_without_117 : decode cX11_without 117 = .ok (.iload_n 3, 1) := by decide +kernel
theorem dX11_without_118 : decode cX11_without 118 = .ok (.iload 7, 2) := by decide +kernel
theorem dX11_without_120 : decode cX11_without 120 = .ok (.invokestatic 341, 3) := by decide +kernel
theorem dX11_without_123 : decode cX11_without 123 = .ok (.goto 5, 3) := by decide +kernel
theorem dX11_without_126 : decode cX11_without 126 = .ok (.iload 6, 2) := by decide +kernel
theorem dX11_without_128 : decode cX11_without 128 = .ok (.istore 6, 2) := by decide +kernel
theorem dX11_without_130 : decode cX11_without 130 = .ok (.iinc 7 1, 3) := by decide +kernel
theorem dX11_without_133 : decode cX11_without 133 = .ok (.goto (-110), 3) := by decide +kernel
theorem dX11_without_136 : decode cX11_without 136 = .ok (.iload_n 3, 1) := by decide +kernel
theorem dX11_without_137 : decode cX11_without 137 = .ok (.iload 6, 2) := by decide +kernel
theorem dX11_without_139 : decode cX11_without 139 = .ok (.ifCond .ge 8, 3) := by decide +kernel
theorem dX11_without_142 : decode cX11_without 142 = .ok (.iload 4, 2) := by decide +kernel
theorem dX11_without_144 : decode cX11_without 144 = .ok (.goto 5, 3) := by decide +kernel
theorem dX11_without_147 : decode cX11_without 147 = .ok (.iload 6, 2) := by decide +kernel
theorem dX11_without_149 : decode cX11_without 149 = .ok (.iconst 3, 1) := by decide +kernel
theorem dX11_without_150 : decode cX11_without 150 = .ok (.iload 5, 2) := by decide +kernel
theorem dX11_without_152 : decode cX11_without 152 = .ok (.imul, 1) := by decide +kernel
theorem dX11_without_153 : decode cX11_without 153 = .ok (.ishl, 1) := by decide +kernel
theorem dX11_without_154 : decode cX11_without 154 = .ok (.ior, 1) := by decide +kernel
theorem dX11_without_155 : decode cX11_without 155 = .ok (.istore_n 3, 1) := by decide +kernel
theorem dX11_without_156 : decode cX11_without 156 = .ok (.iload 4, 2) := by decide +kernel
theorem dX11_without_158 : decode cX11_without 158 = .ok (.iload 6, 2) := by decide +kernel
theorem dX11_without_160 : decode cX11_without 160 = .ok (.ifCond .ge 7, 3) := by decide +kernel
theorem dX11_without_163 : decode cX11_without 163 = .ok (.iconst 1, 1) := by decide +kernel
theorem dX11_without_164 : decode cX11_without 164 = .ok (.goto 4, 3) := by decide +kernel
theorem dX11_without_167 : decode cX11_without 167 = .ok (.iconst 0, 1) := by decide +kernel
theorem dX11_without_168 : decode cX11_without 168 = .ok (.iadd, 1) := by decide +kernel
theorem dX11_without_169 : decode cX11_without 169 = .ok (.istore 4, 2) := by decide +kernel
theorem dX11_without_171 : decode cX11_without 171 = .ok (.iinc 5 1, 3) := by decide +kernel
theorem dX11_without_174 : decode cX11_without 174 = .ok (.goto (-166), 3) := by decide +kernel
theorem dX11_without_177 : decode cX11_without 177 = .ok (.iconst 0, 1) := by decide +kernel
theorem dX11_without_178 : decode cX11_without 178 = .ok (.istore 5, 2) := by decide +kernel
theorem dX11_without_180 : decode cX11_without 180 = .ok (.aload_n 0, 1) := by decide +kernel
theorem dX11_without_181 : decode cX11_without 181 = .ok (.getfield 109, 3) := by decide +kernel
theorem dX11_without_184 : decode cX11_without 184 = .ok (.iload 5, 2) := by decide +kernel
theorem dX11_without_186 : decode cX11_without 186 = .ok (.iaload, 1) := by decide +kernel
theorem dX11_without_187 : decode cX11_without 187 = .ok (.iload_n 3, 1) := by decide +kernel
theorem dX11_without_188 : decode cX11_without 188 = .ok (.if_icmp .eq 9, 3) := by decide +kernel
theorem dX11_without_191 : decode cX11_without 191 = .ok (.iinc 5 1, 3) := by decide +kernel
theorem dX11_without_194 : decode cX11_without 194 = .ok (.goto (-14), 3) := by decide +kernel
theorem dX11_without_197 : decode cX11_without 197 = .ok (.iload 5, 2) := by decide +kernel
theorem dX11_without_199 : decode cX11_without 199 = .ok (.ireturn, 1) := by decide +kernel
theorem dX11_isFirm_0 : decode cX11_isFirm 0 = .ok (.iconst 1, 1) := by decide +kernel
theorem dX11_isFirm_1 : decode cX11_isFirm 1 = .ok (.istore_n 2, 1) := by decide +kernel
theorem dX11_isFirm_2 : decode cX11_isFirm 2 = .ok (.iload_n 2, 1) := by decide +kernel
theorem dX11_isFirm_3 : decode cX11_isFirm 3 = .ok (.iconst 1, 1) := by decide +kernel
theorem dX11_isFirm_4 : decode cX11_isFirm 4 = .ok (.aload_n 0, 1) := by decide +kernel
theorem dX11_isFirm_5 : decode cX11_isFirm 5 = .ok (.invokevirtual 248, 3) := by decide +kernel
theorem dX11_isFirm_8 : decode cX11_isFirm 8 = .ok (.ishl, 1) := by decide +kernel
theorem dX11_isFirm_9 : decode cX11_isFirm 9 = .ok (.if_icmp .ge 90, 3) := by decide +kernel
theorem dX11_isFirm_12 : decode cX11_isFirm 12 = .ok (.aload_n 0, 1) := by decide +kernel
theorem dX11_isFirm_13 : decode cX11_isFirm 13 = .ok (.iload_n 1, 1) := by decide +kernel
theorem dX11_isFirm_14 : decode cX11_isFirm 14 = .ok (.iload_n 2, 1) := by decide +kernel
theorem dX11_isFirm_15 : decode cX11_isFirm 15 = .ok (.invokevirtual 344, 3) := by decide +kernel
theorem dX11_isFirm_18 : decode cX11_isFirm 18 = .ok (.istore_n 3, 1) := by decide +kernel
theorem dX11_isFirm_19 : decode cX11_isFirm 19 = .ok (.iconst 1, 1) := by decide +kernel
theorem dX11_isFirm_20 : decode cX11_isFirm 20 = .ok (.istore 4, 2) := by decide +kernel
theorem dX11_isFirm_22 : decode cX11_isFirm 22 = .ok (.iconst 0, 1) := by decide +kernel
theorem dX11_isFirm_23 : decode cX11_isFirm 23 = .ok (.istore 5, 2) := by decide +kernel
theorem dX11_isFirm_25 : decode cX11_isFirm 25 = .ok (.iload 5, 2) := by decide +kernel
theorem dX11_isFirm_27 : decode cX11_isFirm 27 = .ok (.aload_n 0, 1) := by decide +kernel
theorem dX11_isFirm_28 : decode cX11_isFirm 28 = .ok (.invokevirtual 248, 3) := by decide +kernel
theorem dX11_isFirm_31 : decode cX11_isFirm 31 = .ok (.if_icmp .ge 55, 3) := by decide +kernel
theorem dX11_isFirm_34 : decode cX11_isFirm 34 = .ok (.iload 4, 2) := by decide +kernel
theorem dX11_isFirm_36 : decode cX11_isFirm 36 = .ok (.ifCond .eq 41, 3) := by decide +kernel
theorem dX11_isFirm_39 : decode cX11_isFirm 39 = .ok (.iload_n 2, 1) := by decide +kernel
theorem dX11_isFirm_40 : decode cX11_isFirm 40 = .ok (.iload 5, 2) := by decide +kernel
theorem dX11_isFirm_42 : decode cX11_isFirm 42 = .ok (.ishr, 1) := by decide +kernel
theorem dX11_isFirm_43 : decode cX11_isFirm 43 = .ok (.iconst 1, 1) := by decide +kernel
theorem dX11_isFirm_44 : decode cX11_isFirm 44 = .ok (.iand, 1) := by decide +kernel
theorem dX11_isFirm_45 : decode cX11_isFirm 45 = .ok (.ifCond .eq 28, 3) := by decide +kernel
theorem dX11_isFirm_48 : decode cX11_isFirm 48 = .ok (.aload_n 0, 1) := by decide +kernel
theorem dX11_isFirm_49 : decode cX11_isFirm 49 = .ok (.getfield 112, 3) := by decide +kernel
theorem dX11_isFirm_52 : decode cX11_isFirm 52 = .ok (.iconst 5, 1) := by decide +kernel
theorem dX11_isFirm_53 : decode cX11_isFirm 53 = .ok (.iload_n 3, 1) := by decide +kernel
theorem dX11_isFirm_54 : decode cX11_isFirm 54 = .ok (.imul, 1) := by decide +kernel
theorem dX11_isFirm_55 : decode cX11_isFirm 55 = .ok (.iload 5, 2) := by decide +kernel
theorem dX11_isFirm_57 : decode cX11_isFirm 57 = .ok (.iadd, 1) := by decide +kernel
theorem dX11_isFirm_58 : decode cX11_isFirm 58 = .ok (.iaload, 1) := by decide +kernel
theorem dX11_isFirm_59 : decode cX11_isFirm 59 = .ok (.aload_n 0, 1) := by decide +kernel
theorem dX11_isFirm_60 : decode cX11_isFirm 60 = .ok (.getfield 112, 3) := by decide +kernel
theorem dX11_isFirm_63 : decode cX11_isFirm 63 = .ok (.iconst 5, 1) := by decide +kernel
theorem dX11_isFirm_64 : decode cX11_isFirm 64 = .ok (.iload_n 1, 1) := by decide +kernel
theorem dX11_isFirm_65 : decode cX11_isFirm 65 = .ok (.imul, 1) := by decide +kernel
theorem dX11_isFirm_66 : decode cX11_isFirm 66 = .ok (.iload 5, 2) := by decide +kernel
theorem dX11_isFirm_68 : decode cX11_isFirm 68 = .ok (.iadd, 1) := by decide +kernel
theorem dX11_isFirm_69 : decode cX11_isFirm 69 = .ok (.iaload, 1) := by decide +kernel
theorem dX11_isFirm_70 : decode cX11_isFirm 70 = .ok (.if_icmp .ge 7, 3) := by decide +kernel
theorem dX11_isFirm_73 : decode cX11_isFirm 73 = .ok (.iconst 1, 1) := by decide +kernel
theorem dX11_isFirm_74 : decode cX11_isFirm 74 = .ok (.goto 4, 3) := by decide +kernel
theorem dX11_isFirm_77 : decode cX11_isFirm 77 = .ok (.iconst 0, 1) := by decide +kernel
theorem dX11_isFirm_78 : decode cX11_isFirm 78 = .ok (.istore 4, 2) := by decide +kernel
theorem dX11_isFirm_80 : decode cX11_isFirm 80 = .ok (.iinc 5 1, 3) := by decide +kernel
theorem dX11_isFirm_83 : decode cX11_isFirm 83 = .ok (.goto (-58), 3) := by decide +kernel
theorem dX11_isFirm_86 : decode cX11_isFirm 86 = .ok (.iload 4, 2) := by decide +kernel
theorem dX11_isFirm_88 : decode cX11_isFirm 88 = .ok (.ifCond .eq 5, 3) := by decide +kernel
theorem dX11_isFirm_91 : decode cX11_isFirm 91 = .ok (.iconst 0, 1) := by decide +kernel
theorem dX11_isFirm_92 : decode cX11_isFirm 92 = .ok (.ireturn, 1) := by decide +kernel
theorem dX11_isFirm_93 : decode cX11_isFirm 93 = .ok (.iinc 2 1, 3) := by decide +kernel
theorem dX11_isFirm_96 : decode cX11_isFirm 96 = .ok (.goto (-94), 3) := by decide +kernel
theorem dX11_isFirm_99 : decode cX11_isFirm 99 = .ok (.iconst 1, 1) := by decide +kernel
theorem dX11_isFirm_100 : decode cX11_isFirm 100 = .ok (.ireturn, 1) := by decide +kernel
theorem dX11_canJoin_0 : decode cX11_canJoin 0 = .ok (.iload_n 1, 1) := by decide +kernel
theorem dX11_canJoin_1 : decode cX11_canJoin 1 = .ok (.invokestatic 311, 3) := by decide +kernel
theorem dX11_canJoin_4 : decode cX11_canJoin 4 = .ok (.ifCond .eq 15, 3) := by decide +kernel
theorem dX11_canJoin_7 : decode cX11_canJoin 7 = .ok (.aload_n 0, 1) := by decide +kernel
theorem dX11_canJoin_8 : decode cX11_canJoin 8 = .ok (.invokevirtual 248, 3) := by decide +kernel
theorem dX11_canJoin_11 : decode cX11_canJoin 11 = .ok (.iconst 5, 1) := by decide +kernel
theorem dX11_canJoin_12 : decode cX11_canJoin 12 = .ok (.if_icmp .gt 7, 3) := by decide +kernel
theorem dX11_canJoin_15 : decode cX11_canJoin 15 = .ok (.iconst 1, 1) := by decide +kernel
theorem dX11_canJoin_16 : decode cX11_canJoin 16 = .ok (.goto 4, 3) := by decide +kernel
theorem dX11_canJoin_19 : decode cX11_canJoin 19 = .ok (.iconst 0, 1) := by decide +kernel
theorem dX11_canJoin_20 : decode cX11_canJoin 20 = .ok (.ireturn, 1) := by decide +kernel
theorem dX11_firm_0 : decode cX11_firm 0 = .ok (.aload_n 0, 1) := by decide +kernel
theorem dX11_firm_1 : decode cX11_firm 1 = .ok (.iconst 0, 1) := by decide +kernel
theorem dX11_firm_2 : decode cX11_firm 2 = .ok (.putfield 1, 3) := by decide +kernel
theorem dX11_firm_5 : decode cX11_firm 5 = .ok (.aload_n 0, 1) := by decide +kernel
theorem dX11_firm_6 : decode cX11_firm 6 = .ok (.iload_n 1, 1) := by decide +kernel
theorem dX11_firm_7 : decode cX11_firm 7 = .ok (.invokevirtual 347, 3) := by decide +kernel
theorem dX11_firm_10 : decode cX11_firm 10 = .ok (.ifCond .ne 5, 3) := by decide +kernel
theorem dX11_firm_13 : decode cX11_firm 13 = .ok (.iconst (-1), 1) := by decide +kernel
theorem dX11_firm_14 : decode cX11_firm 14 = .ok (.ireturn, 1) := by decide +kernel
theorem dX11_firm_15 : decode cX11_firm 15 = .ok (.aload_n 0, 1) := by decide +kernel
theorem dX11_firm_16 : decode cX11_firm 16 = .ok (.iload_n 1, 1) := by decide +kernel
theorem dX11_firm_17 : decode cX11_firm 17 = .ok (.invokevirtual 350, 3) := by decide +kernel
theorem dX11_firm_20 : decode cX11_firm 20 = .ok (.iconst 0, 1) := by decide +kernel
theorem dX11_firm_21 : decode cX11_firm 21 = .ok (.istore_n 2, 1) := by decide +kernel
theorem dX11_firm_22 : decode cX11_firm 22 = .ok (.iconst 0, 1) := by decide +kernel
theorem dX11_firm_23 : decode cX11_firm 23 = .ok (.istore_n 3, 1) := by decide +kernel
theorem dX11_firm_24 : decode cX11_firm 24 = .ok (.iload_n 3, 1) := by decide +kernel
theorem dX11_firm_25 : decode cX11_firm 25 = .ok (.aload_n 0, 1) := by decide +kernel
theorem dX11_firm_26 : decode cX11_firm 26 = .ok (.getfield 335, 3) := by decide +kernel
theorem dX11_firm_29 : decode cX11_firm 29 = .ok (.if_icmp .ge 25, 3) := by decide +kernel
theorem dX11_firm_32 : decode cX11_firm 32 = .ok (.iload_n 2, 1) := by decide +kernel
theorem dX11_firm_33 : decode cX11_firm 33 = .ok (.aload_n 0, 1) := by decide +kernel
theorem dX11_firm_34 : decode cX11_firm 34 = .ok (.iload_n 3, 1) := by decide +kernel
theorem dX11_firm_35 : decode cX11_firm 35 = .ok (.invokevirtual 353, 3) := by decide +kernel
theorem dX11_firm_38 : decode cX11_firm 38 = .ok (.ifCond .eq 7, 3) := by decide +kernel
theorem dX11_firm_41 : decode cX11_firm 41 = .ok (.iconst 1, 1) := by decide +kernel
theorem dX11_firm_42 : decode cX11_firm 42 = .ok (.goto 4, 3) := by decide +kernel
theorem dX11_firm_45 : decode cX11_firm 45 = .ok (.iconst 0, 1) := by decide +kernel
theorem dX11_firm_46 : decode cX11_firm 46 = .ok (.iadd, 1) := by decide +kernel
theorem dX11_firm_47 : decode cX11_firm 47 = .ok (.istore_n 2, 1) := by decide +kernel
theorem dX11_firm_48 : decode cX11_firm 48 = .ok (.iinc 3 1, 3) := by decide +kernel
theorem dX11_firm_51 : decode cX11_firm 51 = .ok (.goto (-27), 3) := by decide +kernel
theorem dX11_firm_54 : decode cX11_firm 54 = .ok (.iload_n 2, 1) := by decide +kernel
theorem dX11_firm_55 : decode cX11_firm 55 = .ok (.ireturn, 1) := by decide +kernel
theorem dX11_group_0 : decode cX11_group 0 = .ok (.aload_n 0, 1) := by decide +kernel
theorem dX11_group_1 : decode cX11_group 1 = .ok (.iconst 0, 1) := by decide +kernel
theorem dX11_group_2 : decode cX11_group 2 = .ok (.putfield 1, 3) := by decide +kernel
theorem dX11_group_5 : decode cX11_group 5 = .ok (.aload_n 0, 1) := by decide +kernel
theorem dX11_group_6 : decode cX11_group 6 = .ok (.iload_n 1, 1) := by decide +kernel
theorem dX11_group_7 : decode cX11_group 7 = .ok (.invokevirtual 347, 3) := by decide +kernel
theorem dX11_group_10 : decode cX11_group 10 = .ok (.ifCond .eq 15, 3) := by decide +kernel
theorem dX11_group_13 : decode cX11_group 13 = .ok (.iload_n 2, 1) := by decide +kernel
theorem dX11_group_14 : decode cX11_group 14 = .ok (.ifCond .lt 11, 3) := by decide +kernel
theorem dX11_group_17 : decode cX11_group 17 = .ok (.aload_n 0, 1) := by decide +kernel
theorem dX11_group_18 : decode cX11_group 18 = .ok (.iload_n 3, 1) := by decide +kernel
theorem dX11_group_19 : decode cX11_group 19 = .ok (.invokevirtual 298, 3) := by decide +kernel
theorem dX11_group_22 : decode cX11_group 22 = .ok (.ifCond .ne 5, 3) := by decide +kernel
theorem dX11_group_25 : decode cX11_group 25 = .ok (.iconst (-1), 1) := by decide +kernel
theorem dX11_group_26 : decode cX11_group 26 = .ok (.ireturn, 1) := by decide +kernel
theorem dX11_group_27 : decode cX11_group 27 = .ok (.aload_n 0, 1) := by decide +kernel
theorem dX11_group_28 : decode cX11_group 28 = .ok (.iload_n 1, 1) := by decide +kernel
theorem dX11_group_29 : decode cX11_group 29 = .ok (.invokevirtual 350, 3) := by decide +kernel
theorem dX11_group_32 : decode cX11_group 32 = .ok (.iconst 0, 1) := by decide +kernel
theorem dX11_group_33 : decode cX11_group 33 = .ok (.istore 4, 2) := by decide +kernel
theorem dX11_group_35 : decode cX11_group 35 = .ok (.iconst 0, 1) := by decide +kernel
theorem dX11_group_36 : decode cX11_group 36 = .ok (.istore 5, 2) := by decide +kernel
theorem dX11_group_38 : decode cX11_group 38 = .ok (.iload 5, 2) := by decide +kernel
theorem dX11_group_40 : decode cX11_group 40 = .ok (.aload_n 0, 1) := by decide +kernel
theorem dX11_group_41 : decode cX11_group 41 = .ok (.getfield 335, 3) := by decide +kernel
theorem dX11_group_44 : decode cX11_group 44 = .ok (.if_icmp .ge 39, 3) := by decide +kernel
theorem dX11_group_47 : decode cX11_group 47 = .ok (.aload_n 0, 1) := by decide +kernel
theorem dX11_group_48 : decode cX11_group 48 = .ok (.iload 5, 2) := by decide +kernel
theorem dX11_group_50 : decode cX11_group 50 = .ok (.invokevirtual 353, 3) := by decide +kernel
theorem dX11_group_53 : decode cX11_group 53 = .ok (.ifCond .eq 24, 3) := by decide +kernel
theorem dX11_group_56 : decode cX11_group 56 = .ok (.iload 4, 2) := by decide +kernel
theorem dX11_group_58 : decode cX11_group 58 = .ok (.iload_n 2, 1) := by decide +kernel
theorem dX11_group_59 : decode cX11_group 59 = .ok (.if_icmp .ne 15, 3) := by decide +kernel
theorem dX11_group_62 : decode cX11_group 62 = .ok (.aload_n 0, 1) := by decide +kernel
theorem dX11_group_63 : decode cX11_group 63 = .ok (.getfield 109, 3) := by decide +kernel
theorem dX11_group_66 : decode cX11_group 66 = .ok (.iload 5, 2) := by decide +kernel
theorem dX11_group_68 : decode cX11_group 68 = .ok (.iaload, 1) := by decide +kernel
theorem dX11_group_69 : decode cX11_group 69 = .ok (.iload_n 3, 1) := by decide +kernel
theorem dX11_group_70 : decode cX11_group 70 = .ok (.invokestatic 341, 3) := by decide +kernel
theorem dX11_group_73 : decode cX11_group 73 = .ok (.ireturn, 1) := by decide +kernel
theorem dX11_group_74 : decode cX11_group 74 = .ok (.iinc 4 1, 3) := by decide +kernel
theorem dX11_group_77 : decode cX11_group 77 = .ok (.iinc 5 1, 3) := by decide +kernel
theorem dX11_group_80 : decode cX11_group 80 = .ok (.goto (-42), 3) := by decide +kernel
theorem dX11_group_83 : decode cX11_group 83 = .ok (.iconst (-1), 1) := by decide +kernel
theorem dX11_group_84 : decode cX11_group 84 = .ok (.ireturn, 1) := by decide +kernel
theorem dX11_pup_0 : decode cX11_pup 0 = .ok (.aload_n 0, 1) := by decide +kernel
theorem dX11_pup_1 : decode cX11_pup 1 = .ok (.aload_n 0, 1) := by decide +kernel
theorem dX11_pup_2 : decode cX11_pup 2 = .ok (.iload_n 1, 1) := by decide +kernel
theorem dX11_pup_3 : decode cX11_pup 3 = .ok (.invokevirtual 298, 3) := by decide +kernel
theorem dX11_pup_6 : decode cX11_pup 6 = .ok (.ifCond .eq 25, 3) := by decide +kernel
theorem dX11_pup_9 : decode cX11_pup 9 = .ok (.iload_n 2, 1) := by decide +kernel
theorem dX11_pup_10 : decode cX11_pup 10 = .ok (.invokestatic 311, 3) := by decide +kernel
theorem dX11_pup_13 : decode cX11_pup 13 = .ok (.ifCond .eq 18, 3) := by decide +kernel
theorem dX11_pup_16 : decode cX11_pup 16 = .ok (.aload_n 0, 1) := by decide +kernel
theorem dX11_pup_17 : decode cX11_pup 17 = .ok (.iload_n 1, 1) := by decide +kernel
theorem dX11_pup_18 : decode cX11_pup 18 = .ok (.iconst 2, 1) := by decide +kernel
theorem dX11_pup_19 : decode cX11_pup 19 = .ok (.invokevirtual 251, 3) := by decide +kernel
theorem dX11_pup_22 : decode cX11_pup 22 = .ok (.bipush 99, 2) := by decide +kernel
theorem dX11_pup_24 : decode cX11_pup 24 = .ok (.if_icmp .ge 7, 3) := by decide +kernel
theorem dX11_pup_27 : decode cX11_pup 27 = .ok (.iconst 0, 1) := by decide +kernel
theorem dX11_pup_28 : decode cX11_pup 28 = .ok (.goto 4, 3) := by decide +kernel
theorem dX11_pup_31 : decode cX11_pup 31 = .ok (.iconst 1, 1) := by decide +kernel
theorem dX11_pup_32 : decode cX11_pup 32 = .ok (.putfield 1, 3) := by decide +kernel
theorem dX11_pup_35 : decode cX11_pup 35 = .ok (.aload_n 0, 1) := by decide +kernel
theorem dX11_pup_36 : decode cX11_pup 36 = .ok (.getfield 1, 3) := by decide +kernel
theorem dX11_pup_39 : decode cX11_pup 39 = .ok (.ifCond .le 5, 3) := by decide +kernel
theorem dX11_pup_42 : decode cX11_pup 42 = .ok (.iconst 0, 1) := by decide +kernel
theorem dX11_pup_43 : decode cX11_pup 43 = .ok (.ireturn, 1) := by decide +kernel
theorem dX11_pup_44 : decode cX11_pup 44 = .ok (.aload_n 0, 1) := by decide +kernel
theorem dX11_pup_45 : decode cX11_pup 45 = .ok (.iload_n 2, 1) := by decide +kernel
theorem dX11_pup_46 : decode cX11_pup 46 = .ok (.invokevirtual 314, 3) := by decide +kernel
theorem dX11_pup_49 : decode cX11_pup 49 = .ok (.aload_n 0, 1) := by decide +kernel
theorem dX11_pup_50 : decode cX11_pup 50 = .ok (.getfield 99, 3) := by decide +kernel
theorem dX11_pup_53 : decode cX11_pup 53 = .ok (.iload_n 1, 1) := by decide +kernel
theorem dX11_pup_54 : decode cX11_pup 54 = .ok (.iaload, 1) := by decide +kernel
theorem dX11_pup_55 : decode cX11_pup 55 = .ok (.istore_n 3, 1) := by decide +kernel
theorem dX11_pup_56 : decode cX11_pup 56 = .ok (.aload_n 0, 1) := by decide +kernel
theorem dX11_pup_57 : decode cX11_pup 57 = .ok (.iload_n 1, 1) := by decide +kernel
theorem dX11_pup_58 : decode cX11_pup 58 = .ok (.iconst 2, 1) := by decide +kernel
theorem dX11_pup_59 : decode cX11_pup 59 = .ok (.iconst 1, 1) := by decide +kernel
theorem dX11_pup_60 : decode cX11_pup 60 = .ok (.invokevirtual 279, 3) := by decide +kernel
theorem dX11_pup_63 : decode cX11_pup 63 = .ok (.aload_n 0, 1) := by decide +kernel
theorem dX11_pup_64 : decode cX11_pup 64 = .ok (.iload_n 2, 1) := by decide +kernel
theorem dX11_pup_65 : decode cX11_pup 65 = .ok (.invokevirtual 314, 3) := by decide +kernel
theorem dX11_pup_68 : decode cX11_pup 68 = .ok (.aload_n 0, 1) := by decide +kernel
theorem dX11_pup_69 : decode cX11_pup 69 = .ok (.iload_n 1, 1) := by decide +kernel
theorem dX11_pup_70 : decode cX11_pup 70 = .ok (.iconst 2, 1) := by decide +kernel
theorem dX11_pup_71 : decode cX11_pup 71 = .ok (.iconst (-1), 1) := by decide +kernel
theorem dX11_pup_72 : decode cX11_pup 72 = .ok (.invokevirtual 279, 3) := by decide +kernel
theorem dX11_pup_75 : decode cX11_pup 75 = .ok (.iload_n 3, 1) := by decide +kernel
theorem dX11_pup_76 : decode cX11_pup 76 = .ok (.aload_n 0, 1) := by decide +kernel
theorem dX11_pup_77 : decode cX11_pup 77 = .ok (.getfield 99, 3) := by decide +kernel
theorem dX11_pup_80 : decode cX11_pup 80 = .ok (.iload_n 1, 1) := by decide +kernel
theorem dX11_pup_81 : decode cX11_pup 81 = .ok (.iaload, 1) := by decide +kernel
theorem dX11_pup_82 : decode cX11_pup 82 = .ok (.isub, 1) := by decide +kernel
theorem dX11_pup_83 : decode cX11_pup 83 = .ok (.ireturn, 1) := by decide +kernel
theorem dX11_bite_0 : decode cX11_bite 0 = .ok (.aload_n 0, 1) := by decide +kernel
theorem dX11_bite_1 : decode cX11_bite 1 = .ok (.iconst 0, 1) := by decide +kernel
theorem dX11_bite_2 : decode cX11_bite 2 = .ok (.putfield 1, 3) := by decide +kernel
theorem dX11_bite_5 : decode cX11_bite 5 = .ok (.aload_n 0, 1) := by decide +kernel
theorem dX11_bite_6 : decode cX11_bite 6 = .ok (.getfield 69, 3) := by decide +kernel
theorem dX11_bite_9 : decode cX11_bite 9 = .ok (.iconst 4, 1) := by decide +kernel
theorem dX11_bite_10 : decode cX11_bite 10 = .ok (.iaload, 1) := by decide +kernel
theorem dX11_bite_11 : decode cX11_bite 11 = .ok (.istore_n 2, 1) := by decide +kernel
theorem dX11_bite_12 : decode cX11_bite 12 = .ok (.iload_n 1, 1) := by decide +kernel
theorem dX11_bite_13 : decode cX11_bite 13 = .ok (.ifCond .ne 12, 3) := by decide +kernel
theorem dX11_bite_16 : decode cX11_bite 16 = .ok (.aload_n 0, 1) := by decide +kernel
theorem dX11_bite_17 : decode cX11_bite 17 = .ok (.getfield 69, 3) := by decide +kernel
theorem dX11_bite_20 : decode cX11_bite 20 = .ok (.iconst 4, 1) := by decide +kernel
theorem dX11_bite_21 : decode cX11_bite 21 = .ok (.iconst 0, 1) := by decide +kernel
theorem dX11_bite_22 : decode cX11_bite 22 = .ok (.iastore, 1) := by decide +kernel
theorem dX11_bite_23 : decode cX11_bite 23 = .ok (.iconst 0, 1) := by decide +kernel
theorem dX11_bite_24 : decode cX11_bite 24 = .ok (.ireturn, 1) := by decide +kernel
theorem dX11_bite_25 : decode cX11_bite 25 = .ok (.iload_n 1, 1) := by decide +kernel
theorem dX11_bite_26 : decode cX11_bite 26 = .ok (.iconst 1, 1) := by decide +kernel
theorem dX11_bite_27 : decode cX11_bite 27 = .ok (.iconst 4, 1) := by decide +kernel
theorem dX11_bite_28 : decode cX11_bite 28 = .ok (.invokestatic 301, 3) := by decide +kernel
theorem dX11_bite_31 : decode cX11_bite 31 = .ok (.ifCond .eq 9, 3) := by decide +kernel
theorem dX11_bite_34 : decode cX11_bite 34 = .ok (.iload_n 2, 1) := by decide +kernel
theorem dX11_bite_35 : decode cX11_bite 35 = .ok (.bipush 8, 2) := by decide +kernel
theorem dX11_bite_37 : decode cX11_bite 37 = .ok (.if_icmp .ne 5, 3) := by decide +kernel
theorem dX11_bite_40 : decode cX11_bite 40 = .ok (.iconst (-1), 1) := by decide +kernel
theorem dX11_bite_41 : decode cX11_bite 41 = .ok (.ireturn, 1) := by decide +kernel
theorem dX11_bite_42 : decode cX11_bite 42 = .ok (.aload_n 0, 1) := by decide +kernel
theorem dX11_bite_43 : decode cX11_bite 43 = .ok (.getfield 69, 3) := by decide +kernel
theorem dX11_bite_46 : decode cX11_bite 46 = .ok (.sipush 182, 3) := by decide +kernel
theorem dX11_bite_49 : decode cX11_bite 49 = .ok (.iload_n 2, 1) := by decide +kernel
theorem dX11_bite_50 : decode cX11_bite 50 = .ok (.iadd, 1) := by decide +kernel
theorem dX11_bite_51 : decode cX11_bite 51 = .ok (.iload_n 1, 1) := by decide +kernel
theorem dX11_bite_52 : decode cX11_bite 52 = .ok (.iastore, 1) := by decide +kernel
theorem dX11_bite_53 : decode cX11_bite 53 = .ok (.aload_n 0, 1) := by decide +kernel
theorem dX11_bite_54 : decode cX11_bite 54 = .ok (.getfield 69, 3) := by decide +kernel
theorem dX11_bite_57 : decode cX11_bite 57 = .ok (.iconst 4, 1) := by decide +kernel
theorem dX11_bite_58 : decode cX11_bite 58 = .ok (.dup2, 1) := by decide +kernel
theorem dX11_bite_59 : decode cX11_bite 59 = .ok (.iaload, 1) := by decide +kernel
theorem dX11_bite_60 : decode cX11_bite 60 = .ok (.iconst 1, 1) := by decide +kernel
theorem dX11_bite_61 : decode cX11_bite 61 = .ok (.iadd, 1) := by decide +kernel
theorem dX11_bite_62 : decode cX11_bite 62 = .ok (.iastore, 1) := by decide +kernel
theorem dX11_bite_63 : decode cX11_bite 63 = .ok (.iload_n 2, 1) := by decide +kernel
theorem dX11_bite_64 : decode cX11_bite 64 = .ok (.iconst 1, 1) := by decide +kernel
theorem dX11_bite_65 : decode cX11_bite 65 = .ok (.iadd, 1) := by decide +kernel
theorem dX11_bite_66 : decode cX11_bite 66 = .ok (.ireturn, 1) := by decide +kernel
theorem dX11_bitesSo_0 : decode cX11_bitesSo 0 = .ok (.aload_n 0, 1) := by decide +kernel
theorem dX11_bitesSo_1 : decode cX11_bitesSo 1 = .ok (.iload_n 1, 1) := by decide +kernel
theorem dX11_bitesSo_2 : decode cX11_bitesSo 2 = .ok (.iconst 2, 1) := by decide +kernel
theorem dX11_bitesSo_3 : decode cX11_bitesSo 3 = .ok (.invokevirtual 251, 3) := by decide +kernel
theorem dX11_bitesSo_6 : decode cX11_bitesSo 6 = .ok (.ifCond .le 7, 3) := by decide +kernel
theorem dX11_bitesSo_9 : decode cX11_bitesSo 9 = .ok (.iconst 1, 1) := by decide +kernel
theorem dX11_bitesSo_10 : decode cX11_bitesSo 10 = .ok (.goto 4, 3) := by decide +kernel
theorem dX11_bitesSo_13 : decode cX11_bitesSo 13 = .ok (.iconst 0, 1) := by decide +kernel
theorem dX11_bitesSo_14 : decode cX11_bitesSo 14 = .ok (.istore_n 2, 1) := by decide +kernel
theorem dX11_bitesSo_15 : decode cX11_bitesSo 15 = .ok (.iconst 0, 1) := by decide +kernel
theorem dX11_bitesSo_16 : decode cX11_bitesSo 16 = .ok (.istore_n 3, 1) := by decide +kernel
theorem dX11_bitesSo_17 : decode cX11_bitesSo 17 = .ok (.iload_n 3, 1) := by decide +kernel
theorem dX11_bitesSo_18 : decode cX11_bitesSo 18 = .ok (.aload_n 0, 1) := by decide +kernel
theorem dX11_bitesSo_19 : decode cX11_bitesSo 19 = .ok (.getfield 69, 3) := by decide +kernel
theorem dX11_bitesSo_22 : decode cX11_bitesSo 22 = .ok (.iconst 4, 1) := by decide +kernel
theorem dX11_bitesSo_23 : decode cX11_bitesSo 23 = .ok (.iaload, 1) := by decide +kernel
theorem dX11_bitesSo_24 : decode cX11_bitesSo 24 = .ok (.if_icmp .ge 36, 3) := by decide +kernel
theorem dX11_bitesSo_27 : decode cX11_bitesSo 27 = .ok (.iload_n 2, 1) := by decide +kernel
theorem dX11_bitesSo_28 : decode cX11_bitesSo 28 = .ok (.aload_n 0, 1) := by decide +kernel
theorem dX11_bitesSo_29 : decode cX11_bitesSo 29 = .ok (.getfield 69, 3) := by decide +kernel
theorem dX11_bitesSo_32 : decode cX11_bitesSo 32 = .ok (.bipush 50, 2) := by decide +kernel
theorem dX11_bitesSo_34 : decode cX11_bitesSo 34 = .ok (.iconst 4, 1) := by decide +kernel
theorem dX11_bitesSo_35 : decode cX11_bitesSo 35 = .ok (.iload_n 1, 1) := by decide +kernel
theorem dX11_bitesSo_36 : decode cX11_bitesSo 36 = .ok (.imul, 1) := by decide +kernel
theorem dX11_bitesSo_37 : decode cX11_bitesSo 37 = .ok (.iadd, 1) := by decide +kernel
theorem dX11_bitesSo_38 : decode cX11_bitesSo 38 = .ok (.aload_n 0, 1) := by decide +kernel
theorem dX11_bitesSo_39 : decode cX11_bitesSo 39 = .ok (.getfield 69, 3) := by decide +kernel
theorem dX11_bitesSo_42 : decode cX11_bitesSo 42 = .ok (.sipush 182, 3) := by decide +kernel
theorem dX11_bitesSo_45 : decode cX11_bitesSo 45 = .ok (.iload_n 3, 1) := by decide +kernel
theorem dX11_bitesSo_46 : decode cX11_bitesSo 46 = .ok (.iadd, 1) := by decide +kernel
theorem dX11_bitesSo_47 : decode cX11_bitesSo 47 = .ok (.iaload, 1) := by decide +kernel
theorem dX11_bitesSo_48 : decode cX11_bitesSo 48 = .ok (.iadd, 1) := by decide +kernel
theorem dX11_bitesSo_49 : decode cX11_bitesSo 49 = .ok (.iconst 1, 1) := by decide +kernel
theorem dX11_bitesSo_50 : decode cX11_bitesSo 50 = .ok (.isub, 1) := by decide +kernel
theorem dX11_bitesSo_51 : decode cX11_bitesSo 51 = .ok (.iaload, 1) := by decide +kernel
theorem dX11_bitesSo_52 : decode cX11_bitesSo 52 = .ok (.imul, 1) := by decide +kernel
theorem dX11_bitesSo_53 : decode cX11_bitesSo 53 = .ok (.istore_n 2, 1) := by decide +kernel
theorem dX11_bitesSo_54 : decode cX11_bitesSo 54 = .ok (.iinc 3 1, 3) := by decide +kernel
theorem dX11_bitesSo_57 : decode cX11_bitesSo 57 = .ok (.goto (-40), 3) := by decide +kernel
theorem dX11_bitesSo_60 : decode cX11_bitesSo 60 = .ok (.iload_n 2, 1) := by decide +kernel
theorem dX11_bitesSo_61 : decode cX11_bitesSo 61 = .ok (.ireturn, 1) := by decide +kernel
theorem dX11_common_0 : decode cX11_common 0 = .ok (.iload_n 0, 1) := by decide +kernel
theorem dX11_common_1 : decode cX11_common 1 = .ok (.istore_n 2, 1) := by decide +kernel
theorem dX11_common_2 : decode cX11_common 2 = .ok (.iload_n 1, 1) := by decide +kernel
theorem dX11_common_3 : decode cX11_common 3 = .ok (.istore_n 3, 1) := by decide +kernel
theorem dX11_common_4 : decode cX11_common 4 = .ok (.iload_n 3, 1) := by decide +kernel
theorem dX11_common_5 : decode cX11_common 5 = .ok (.ifCond .eq 16, 3) := by decide +kernel
theorem dX11_common_8 : decode cX11_common 8 = .ok (.iload_n 2, 1) := by decide +kernel
theorem dX11_common_9 : decode cX11_common 9 = .ok (.iload_n 3, 1) := by decide +kernel
theorem dX11_common_10 : decode cX11_common 10 = .ok (.irem, 1) := by decide +kernel
theorem dX11_common_11 : decode cX11_common 11 = .ok (.istore 4, 2) := by decide +kernel
theorem dX11_common_13 : decode cX11_common 13 = .ok (.iload_n 3, 1) := by decide +kernel
theorem dX11_common_14 : decode cX11_common 14 = .ok (.istore_n 2, 1) := by decide +kernel
theorem dX11_common_15 : decode cX11_common 15 = .ok (.iload 4, 2) := by decide +kernel
theorem dX11_common_17 : decode cX11_common 17 = .ok (.istore_n 3, 1) := by decide +kernel
theorem dX11_common_18 : decode cX11_common 18 = .ok (.goto (-14), 3) := by decide +kernel
theorem dX11_common_21 : decode cX11_common 21 = .ok (.iload_n 2, 1) := by decide +kernel
theorem dX11_common_22 : decode cX11_common 22 = .ok (.ireturn, 1) := by decide +kernel
theorem dX11_whose_0 : decode cX11_whose 0 = .ok (.aload_n 0, 1) := by decide +kernel
theorem dX11_whose_1 : decode cX11_whose 1 = .ok (.iconst 0, 1) := by decide +kernel
theorem dX11_whose_2 : decode cX11_whose 2 = .ok (.putfield 1, 3) := by decide +kernel
theorem dX11_whose_5 : decode cX11_whose 5 = .ok (.aload_n 0, 1) := by decide +kernel
theorem dX11_whose_6 : decode cX11_whose 6 = .ok (.iload_n 1, 1) := by decide +kernel
theorem dX11_whose_7 : decode cX11_whose 7 = .ok (.invokevirtual 298, 3) := by decide +kernel
theorem dX11_whose_10 : decode cX11_whose 10 = .ok (.ifCond .eq 21, 3) := by decide +kernel
theorem dX11_whose_13 : decode cX11_whose 13 = .ok (.iload_n 2, 1) := by decide +kernel
theorem dX11_whose_14 : decode cX11_whose 14 = .ok (.iconst 0, 1) := by decide +kernel
theorem dX11_whose_15 : decode cX11_whose 15 = .ok (.iconst 1, 1) := by decide +kernel
theorem dX11_whose_16 : decode cX11_whose 16 = .ok (.invokestatic 301, 3) := by decide +kernel
theorem dX11_whose_19 : decode cX11_whose 19 = .ok (.ifCond .eq 12, 3) := by decide +kernel
theorem dX11_whose_22 : decode cX11_whose 22 = .ok (.aload_n 0, 1) := by decide +kernel
theorem dX11_whose_23 : decode cX11_whose 23 = .ok (.iload_n 1, 1) := by decide +kernel
theorem dX11_whose_24 : decode cX11_whose 24 = .ok (.iconst 2, 1) := by decide +kernel
theorem dX11_whose_25 : decode cX11_whose 25 = .ok (.invokevirtual 251, 3) := by decide +kernel
theorem dX11_whose_28 : decode cX11_whose 28 = .ok (.ifCond .ne 5, 3) := by decide +kernel
theorem dX11_whose_31 : decode cX11_whose 31 = .ok (.iconst (-1), 1) := by decide +kernel
theorem dX11_whose_32 : decode cX11_whose 32 = .ok (.ireturn, 1) := by decide +kernel
theorem dX11_whose_33 : decode cX11_whose 33 = .ok (.iconst 0, 1) := by decide +kernel
theorem dX11_whose_34 : decode cX11_whose 34 = .ok (.istore_n 3, 1) := by decide +kernel
theorem dX11_whose_35 : decode cX11_whose 35 = .ok (.iconst 0, 1) := by decide +kernel
theorem dX11_whose_36 : decode cX11_whose 36 = .ok (.istore 4, 2) := by decide +kernel
theorem dX11_whose_38 : decode cX11_whose 38 = .ok (.iload 4, 2) := by decide +kernel
theorem dX11_whose_40 : decode cX11_whose 40 = .ok (.aload_n 0, 1) := by decide +kernel
theorem dX11_whose_41 : decode cX11_whose 41 = .ok (.invokevirtual 248, 3) := by decide +kernel
theorem dX11_whose_44 : decode cX11_whose 44 = .ok (.if_icmp .ge 18, 3) := by decide +kernel
theorem dX11_whose_47 : decode cX11_whose 47 = .ok (.iload_n 3, 1) := by decide +kernel
theorem dX11_whose_48 : decode cX11_whose 48 = .ok (.aload_n 0, 1) := by decide +kernel
theorem dX11_whose_49 : decode cX11_whose 49 = .ok (.iload 4, 2) := by decide +kernel
theorem dX11_whose_51 : decode cX11_whose 51 = .ok (.invokevirtual 356, 3) := by decide +kernel
theorem dX11_whose_54 : decode cX11_whose 54 = .ok (.iadd, 1) := by decide +kernel
theorem dX11_whose_55 : decode cX11_whose 55 = .ok (.istore_n 3, 1) := by decide +kernel
theorem dX11_whose_56 : decode cX11_whose 56 = .ok (.iinc 4 1, 3) := by decide +kernel
theorem dX11_whose_59 : decode cX11_whose 59 = .ok (.goto (-21), 3) := by decide +kernel
theorem dX11_whose_62 : decode cX11_whose 62 = .ok (.iload_n 3, 1) := by decide +kernel
theorem dX11_whose_63 : decode cX11_whose 63 = .ok (.ifCond .ne 5, 3) := by decide +kernel
theorem dX11_whose_66 : decode cX11_whose 66 = .ok (.iconst (-1), 1) := by decide +kernel
theorem dX11_whose_67 : decode cX11_whose 67 = .ok (.ireturn, 1) := by decide +kernel
theorem dX11_whose_68 : decode cX11_whose 68 = .ok (.aload_n 0, 1) := by decide +kernel
theorem dX11_whose_69 : decode cX11_whose 69 = .ok (.iload_n 1, 1) := by decide +kernel
theorem dX11_whose_70 : decode cX11_whose 70 = .ok (.invokevirtual 356, 3) := by decide +kernel
theorem dX11_whose_73 : decode cX11_whose 73 = .ok (.iload_n 3, 1) := by decide +kernel
theorem dX11_whose_74 : decode cX11_whose 74 = .ok (.invokestatic 359, 3) := by decide +kernel
theorem dX11_whose_77 : decode cX11_whose 77 = .ok (.istore 4, 2) := by decide +kernel
theorem dX11_whose_79 : decode cX11_whose 79 = .ok (.iload_n 2, 1) := by decide +kernel
theorem dX11_whose_80 : decode cX11_whose 80 = .ok (.ifCond .ne 14, 3) := by decide +kernel
theorem dX11_whose_83 : decode cX11_whose 83 = .ok (.aload_n 0, 1) := by decide +kernel
theorem dX11_whose_84 : decode cX11_whose 84 = .ok (.iload_n 1, 1) := by decide +kernel
theorem dX11_whose_85 : decode cX11_whose 85 = .ok (.invokevirtual 356, 3) := by decide +kernel
theorem dX11_whose_88 : decode cX11_whose 88 = .ok (.iload 4, 2) := by decide +kernel
theorem dX11_whose_90 : decode cX11_whose 90 = .ok (.idiv, 1) := by decide +kernel
theorem dX11_whose_91 : decode cX11_whose 91 = .ok (.goto 7, 3) := by decide +kernel
theorem dX11_whose_94 : decode cX11_whose 94 = .ok (.iload_n 3, 1) := by decide +kernel
theorem dX11_whose_95 : decode cX11_whose 95 = .ok (.iload 4, 2) := by decide +kernel
theorem dX11_whose_97 : decode cX11_whose 97 = .ok (.idiv, 1) := by decide +kernel
theorem dX11_whose_98 : decode cX11_whose 98 = .ok (.ireturn, 1) := by decide +kernel
theorem dX11_bits_0 : decode cX11_bits 0 = .ok (.iconst 0, 1) := by decide +kernel
theorem dX11_bits_1 : decode cX11_bits 1 = .ok (.istore_n 1, 1) := by decide +kernel
theorem dX11_bits_2 : decode cX11_bits 2 = .ok (.iconst 0, 1) := by decide +kernel
theorem dX11_bits_3 : decode cX11_bits 3 = .ok (.istore_n 2, 1) := by decide +kernel
theorem dX11_bits_4 : decode cX11_bits 4 = .ok (.iload_n 2, 1) := by decide +kernel
theorem dX11_bits_5 : decode cX11_bits 5 = .ok (.bipush 6, 2) := by decide +kernel
theorem dX11_bits_7 : decode cX11_bits 7 = .ok (.if_icmp .ge 17, 3) := by decide +kernel
theorem dX11_bits_10 : decode cX11_bits 10 = .ok (.iload_n 1, 1) := by decide +kernel
theorem dX11_bits_11 : decode cX11_bits 11 = .ok (.iload_n 0, 1) := by decide +kernel
theorem dX11_bits_12 : decode cX11_bits 12 = .ok (.iload_n 2, 1) := by decide +kernel
theorem dX11_bits_13 : decode cX11_bits 13 = .ok (.ishr, 1) := by decide +kernel
theorem dX11_bits_14 : decode cX11_bits 14 = .ok (.iconst 1, 1) := by decide +kernel
theorem dX11_bits_15 : decode cX11_bits 15 = .ok (.iand, 1) := by decide +kernel
theorem dX11_bits_16 : decode cX11_bits 16 = .ok (.iadd, 1) := by decide +kernel
theorem dX11_bits_17 : decode cX11_bits 17 = .ok (.istore_n 1, 1) := by decide +kernel
theorem dX11_bits_18 : decode cX11_bits 18 = .ok (.iinc 2 1, 3) := by decide +kernel
theorem dX11_bits_21 : decode cX11_bits 21 = .ok (.goto (-17), 3) := by decide +kernel
theorem dX11_bits_24 : decode cX11_bits 24 = .ok (.iload_n 1, 1) := by decide +kernel
theorem dX11_bits_25 : decode cX11_bits 25 = .ok (.ireturn, 1) := by decide +kernel
theorem dX11_chance_0 : decode cX11_chance 0 = .ok (.aload_n 0, 1) := by decide +kernel
theorem dX11_chance_1 : decode cX11_chance 1 = .ok (.iconst 0, 1) := by decide +kernel
theorem dX11_chance_2 : decode cX11_chance 2 = .ok (.putfield 1, 3) := by decide +kernel
theorem dX11_chance_5 : decode cX11_chance 5 = .ok (.iload_n 1, 1) := by decide +kernel
theorem dX11_chance_6 : decode cX11_chance 6 = .ok (.iconst 0, 1) := by decide +kernel
theorem dX11_chance_7 : decode cX11_chance 7 = .ok (.iconst 1, 1) := by decide +kernel
theorem dX11_chance_8 : decode cX11_chance 8 = .ok (.invokestatic 301, 3) := by decide +kernel
theorem dX11_chance_11 : decode cX11_chance 11 = .ok (.ifCond .ne 5, 3) := by decide +kernel
theorem dX11_chance_14 : decode cX11_chance 14 = .ok (.iconst (-1), 1) := by decide +kernel
theorem dX11_chance_15 : decode cX11_chance 15 = .ok (.ireturn, 1) := by decide +kernel
theorem dX11_chance_16 : decode cX11_chance 16 = .ok (.iconst 1, 1) := by decide +kernel
theorem dX11_chance_17 : decode cX11_chance 17 = .ok (.aload_n 0, 1) := by decide +kernel
theorem dX11_chance_18 : decode cX11_chance 18 = .ok (.invokevirtual 248, 3) := by decide +kernel
theorem dX11_chance_21 : decode cX11_chance 21 = .ok (.ishl, 1) := by decide +kernel
theorem dX11_chance_22 : decode cX11_chance 22 = .ok (.iconst 1, 1) := by decide +kernel
theorem dX11_chance_23 : decode cX11_chance 23 = .ok (.isub, 1) := by decide +kernel
theorem dX11_chance_24 : decode cX11_chance 24 = .ok (.istore_n 2, 1) := by decide +kernel
theorem dX11_chance_25 : decode cX11_chance 25 = .ok (.iconst 1, 1) := by decide +kernel
theorem dX11_chance_26 : decode cX11_chance 26 = .ok (.istore_n 3, 1) := by decide +kernel
theorem dX11_chance_27 : decode cX11_chance 27 = .ok (.iconst 0, 1) := by decide +kernel
theorem dX11_chance_28 : decode cX11_chance 28 = .ok (.istore 4, 2) := by decide +kernel
theorem dX11_chance_30 : decode cX11_chance 30 = .ok (.iconst 0, 1) := by decide +kernel
theorem dX11_chance_31 : decode cX11_chance 31 = .ok (.istore 5, 2) := by decide +kernel
theorem dX11_chance_33 : decode cX11_chance 33 = .ok (.iload 5, 2) := by decide +kernel
theorem dX11_chance_35 : decode cX11_chance 35 = .ok (.aload_n 0, 1) := by decide +kernel
theorem dX11_chance_36 : decode cX11_chance 36 = .ok (.invokevirtual 248, 3) := by decide +kernel
theorem dX11_chance_39 : decode cX11_chance 39 = .ok (.if_icmp .ge 81, 3) := by decide +kernel
theorem dX11_chance_42 : decode cX11_chance 42 = .ok (.aload_n 0, 1) := by decide +kernel
theorem dX11_chance_43 : decode cX11_chance 43 = .ok (.iload 5, 2) := by decide +kernel
theorem dX11_chance_45 : decode cX11_chance 45 = .ok (.iconst 2, 1) := by decide +kernel
theorem dX11_chance_46 : decode cX11_chance 46 = .ok (.invokevirtual 251, 3) := by decide +kernel
theorem dX11_chance_49 : decode cX11_chance 49 = .ok (.ifCond .le 16, 3) := by decide +kernel
theorem dX11_chance_52 : decode cX11_chance 52 = .ok (.aload_n 0, 1) := by decide +kernel
theorem dX11_chance_53 : decode cX11_chance 53 = .ok (.aload_n 0, 1) := by decide +kernel
theorem dX11_chance_54 : decode cX11_chance 54 = .ok (.iload 5, 2) := by decide +kernel
theorem dX11_chance_56 : decode cX11_chance 56 = .ok (.invokevirtual 283, 3) := by decide +kernel
theorem dX11_chance_59 : decode cX11_chance 59 = .ok (.invokevirtual 305, 3) := by decide +kernel
theorem dX11_chance_62 : decode cX11_chance 62 = .ok (.goto 4, 3) := by decide +kernel
theorem dX11_chance_65 : decode cX11_chance 65 = .ok (.iconst 0, 1) := by decide +kernel
theorem dX11_chance_66 : decode cX11_chance 66 = .ok (.istore 6, 2) := by decide +kernel
theorem dX11_chance_68 : decode cX11_chance 68 = .ok (.iload_n 2, 1) := by decide +kernel
theorem dX11_chance_69 : decode cX11_chance 69 = .ok (.iload 6, 2) := by decide +kernel
theorem dX11_chance_71 : decode cX11_chance 71 = .ok (.ifCond .ne 7, 3) := by decide +kernel
theorem dX11_chance_74 : decode cX11_chance 74 = .ok (.iconst (-1), 1) := by decide +kernel
theorem dX11_chance_75 : decode cX11_chance 75 = .ok (.goto 5, 3) := by decide +kernel
theorem dX11_chance_78 : decode cX11_chance 78 = .ok (.iload 6, 2) := by decide +kernel
theorem dX11_chance_80 : decode cX11_chance 80 = .ok (.iand, 1) := by decide +kernel
theorem dX11_chance_81 : decode cX11_chance 81 = .ok (.istore_n 2, 1) := by decide +kernel
theorem dX11_chance_82 : decode cX11_chance 82 = .ok (.iload 6, 2) := by decide +kernel
theorem dX11_chance_84 : decode cX11_chance 84 = .ok (.ifCond .ne 7, 3) := by decide +kernel
theorem dX11_chance_87 : decode cX11_chance 87 = .ok (.iload_n 3, 1) := by decide +kernel
theorem dX11_chance_88 : decode cX11_chance 88 = .ok (.goto 10, 3) := by decide +kernel
theorem dX11_chance_91 : decode cX11_chance 91 = .ok (.iload_n 3, 1) := by decide +kernel
theorem dX11_chance_92 : decode cX11_chance 92 = .ok (.iload 6, 2) := by decide +kernel
theorem dX11_chance_94 : decode cX11_chance 94 = .ok (.invokestatic 362, 3) := by decide +kernel
theorem dX11_chance_97 : decode cX11_chance 97 = .ok (.imul, 1) := by decide +kernel
theorem dX11_chance_98 : decode cX11_chance 98 = .ok (.istore_n 3, 1) := by decide +kernel
theorem dX11_chance_99 : decode cX11_chance 99 = .ok (.iload 4, 2) := by decide +kernel
theorem dX11_chance_101 : decode cX11_chance 101 = .ok (.iload 6, 2) := by decide +kernel
theorem dX11_chance_103 : decode cX11_chance 103 = .ok (.ifCond .ne 7, 3) := by decide +kernel
theorem dX11_chance_106 : decode cX11_chance 106 = .ok (.iconst 0, 1) := by decide +kernel
theorem dX11_chance_107 : decode cX11_chance 107 = .ok (.goto 4, 3) := by decide +kernel
theorem dX11_chance_110 : decode cX11_chance 110 = .ok (.iconst 1, 1) := by decide +kernel
theorem dX11_chance_111 : decode cX11_chance 111 = .ok (.iadd, 1) := by decide +kernel
theorem dX11_chance_112 : decode cX11_chance 112 = .ok (.istore 4, 2) := by decide +kernel
theorem dX11_chance_114 : decode cX11_chance 114 = .ok (.iinc 5 1, 3) := by decide +kernel
theorem dX11_chance_117 : decode cX11_chance 117 = .ok (.goto (-84), 3) := by decide +kernel
theorem dX11_chance_120 : decode cX11_chance 120 = .ok (.iload 4, 2) := by decide +kernel
theorem dX11_chance_122 : decode cX11_chance 122 = .ok (.ifCond .ne 7, 3) := by decide +kernel
theorem dX11_chance_125 : decode cX11_chance 125 = .ok (.iconst 1, 1) := by decide +kernel
theorem dX11_chance_126 : decode cX11_chance 126 = .ok (.goto 7, 3) := by decide +kernel
theorem dX11_chance_129 : decode cX11_chance 129 = .ok (.iload_n 2, 1) := by decide +kernel
theorem dX11_chance_130 : decode cX11_chance 130 = .ok (.invokestatic 362, 3) := by decide +kernel
theorem dX11_chance_133 : decode cX11_chance 133 = .ok (.istore 5, 2) := by decide +kernel
theorem dX11_chance_135 : decode cX11_chance 135 = .ok (.iload 5, 2) := by decide +kernel
theorem dX11_chance_137 : decode cX11_chance 137 = .ok (.iload_n 3, 1) := by decide +kernel
theorem dX11_chance_138 : decode cX11_chance 138 = .ok (.invokestatic 359, 3) := by decide +kernel
theorem dX11_chance_141 : decode cX11_chance 141 = .ok (.istore 6, 2) := by decide +kernel
theorem dX11_chance_143 : decode cX11_chance 143 = .ok (.iload_n 1, 1) := by decide +kernel
theorem dX11_chance_144 : decode cX11_chance 144 = .ok (.ifCond .ne 11, 3) := by decide +kernel
theorem dX11_chance_147 : decode cX11_chance 147 = .ok (.iload 5, 2) := by decide +kernel
theorem dX11_chance_149 : decode cX11_chance 149 = .ok (.iload 6, 2) := by decide +kernel
theorem dX11_chance_151 : decode cX11_chance 151 = .ok (.idiv, 1) := by decide +kernel
theorem dX11_chance_152 : decode cX11_chance 152 = .ok (.goto 7, 3) := by decide +kernel
theorem dX11_chance_155 : decode cX11_chance 155 = .ok (.iload_n 3, 1) := by decide +kernel
theorem dX11_chance_156 : decode cX11_chance 156 = .ok (.iload 6, 2) := by decide +kernel
theorem dX11_chance_158 : decode cX11_chance 158 = .ok (.idiv, 1) := by decide +kernel
theorem dX11_chance_159 : decode cX11_chance 159 = .ok (.ireturn, 1) := by decide +kernel
theorem dX11_mark_0 : decode cX11_mark 0 = .ok (.aload_n 0, 1) := by decide +kernel
theorem dX11_mark_1 : decode cX11_mark 1 = .ok (.iconst 0, 1) := by decide +kernel
theorem dX11_mark_2 : decode cX11_mark 2 = .ok (.putfield 1, 3) := by decide +kernel
theorem dX11_mark_5 : decode cX11_mark 5 = .ok (.iload_n 1, 1) := by decide +kernel
theorem dX11_mark_6 : decode cX11_mark 6 = .ok (.iconst 0, 1) := by decide +kernel
theorem dX11_mark_7 : decode cX11_mark 7 = .ok (.iconst 3, 1) := by decide +kernel
theorem dX11_mark_8 : decode cX11_mark 8 = .ok (.invokestatic 301, 3) := by decide +kernel
theorem dX11_mark_11 : decode cX11_mark 11 = .ok (.ifCond .eq 16, 3) := by decide +kernel
theorem dX11_mark_14 : decode cX11_mark 14 = .ok (.iload_n 2, 1) := by decide +kernel
theorem dX11_mark_15 : decode cX11_mark 15 = .ok (.ifCond .eq 14, 3) := by decide +kernel
theorem dX11_mark_18 : decode cX11_mark 18 = .ok (.aload_n 0, 1) := by decide +kernel
theorem dX11_mark_19 : decode cX11_mark 19 = .ok (.getfield 115, 3) := by decide +kernel
theorem dX11_mark_22 : decode cX11_mark 22 = .ok (.iload_n 1, 1) := by decide +kernel
theorem dX11_mark_23 : decode cX11_mark 23 = .ok (.baload, 1) := by decide +kernel
theorem dX11_mark_24 : decode cX11_mark 24 = .ok (.ifCond .ne 5, 3) := by decide +kernel
theorem dX11_mark_27 : decode cX11_mark 27 = .ok (.iconst 0, 1) := by decide +kernel
theorem dX11_mark_28 : decode cX11_mark 28 = .ok (.ireturn, 1) := by decide +kernel
theorem dX11_mark_29 : decode cX11_mark 29 = .ok (.aload_n 0, 1) := by decide +kernel
theorem dX11_mark_30 : decode cX11_mark 30 = .ok (.getfield 115, 3) := by decide +kernel
theorem dX11_mark_33 : decode cX11_mark 33 = .ok (.iload_n 1, 1) := by decide +kernel
theorem dX11_mark_34 : decode cX11_mark 34 = .ok (.iconst 1, 1) := by decide +kernel
theorem dX11_mark_35 : decode cX11_mark 35 = .ok (.bastore, 1) := by decide +kernel
theorem dX11_mark_36 : decode cX11_mark 36 = .ok (.aload_n 0, 1) := by decide +kernel
theorem dX11_mark_37 : decode cX11_mark 37 = .ok (.iload_n 2, 1) := by decide +kernel
theorem dX11_mark_38 : decode cX11_mark 38 = .ok (.ifCond .eq 9, 3) := by decide +kernel
theorem dX11_mark_41 : decode cX11_mark 41 = .ok (.iconst 2, 1) := by decide +kernel
theorem dX11_mark_42 : decode cX11_mark 42 = .ok (.iload_n 1, 1) := by decide +kernel
theorem dX11_mark_43 : decode cX11_mark 43 = .ok (.iadd, 1) := by decide +kernel
theorem dX11_mark_44 : decode cX11_mark 44 = .ok (.goto 4, 3) := by decide +kernel
theorem dX11_mark_47 : decode cX11_mark 47 = .ok (.iconst 0, 1) := by decide +kernel
theorem dX11_mark_48 : decode cX11_mark 48 = .ok (.iload_n 2, 1) := by decide +kernel
theorem dX11_mark_49 : decode cX11_mark 49 = .ok (.ifCond .eq 7, 3) := by decide +kernel
theorem dX11_mark_52 : decode cX11_mark 52 = .ok (.iconst 0, 1) := by decide +kernel
theorem dX11_mark_53 : decode cX11_mark 53 = .ok (.goto 6, 3) := by decide +kernel
theorem dX11_mark_56 : decode cX11_mark 56 = .ok (.iconst 2, 1) := by decide +kernel
theorem dX11_mark_57 : decode cX11_mark 57 = .ok (.iload_n 1, 1) := by decide +kernel
theorem dX11_mark_58 : decode cX11_mark 58 = .ok (.iadd, 1) := by decide +kernel
theorem dX11_mark_59 : decode cX11_mark 59 = .ok (.invokevirtual 182, 3) := by decide +kernel
theorem dX11_mark_62 : decode cX11_mark 62 = .ok (.iconst 1, 1) := by decide +kernel
theorem dX11_mark_63 : decode cX11_mark 63 = .ok (.ireturn, 1) := by decide +kernel
theorem dX11_pairs_0 : decode cX11_pairs 0 = .ok (.iconst 0, 1) := by decide +kernel
theorem dX11_pairs_1 : decode cX11_pairs 1 = .ok (.istore_n 2, 1) := by decide +kernel
theorem dX11_pairs_2 : decode cX11_pairs 2 = .ok (.iconst 0, 1) := by decide +kernel
theorem dX11_pairs_3 : decode cX11_pairs 3 = .ok (.istore_n 3, 1) := by decide +kernel
theorem dX11_pairs_4 : decode cX11_pairs 4 = .ok (.iload_n 3, 1) := by decide +kernel
theorem dX11_pairs_5 : decode cX11_pairs 5 = .ok (.aload_n 0, 1) := by decide +kernel
theorem dX11_pairs_6 : decode cX11_pairs 6 = .ok (.invokevirtual 248, 3) := by decide +kernel
theorem dX11_pairs_9 : decode cX11_pairs 9 = .ok (.if_icmp .ge 49, 3) := by decide +kernel
theorem dX11_pairs_12 : decode cX11_pairs 12 = .ok (.iconst 0, 1) := by decide +kernel
theorem dX11_pairs_13 : decode cX11_pairs 13 = .ok (.istore 4, 2) := by decide +kernel
theorem dX11_pairs_15 : decode cX11_pairs 15 = .ok (.iload 4, 2) := by decide +kernel
theorem dX11_pairs_17 : decode cX11_pairs 17 = .ok (.iload_n 3, 1) := by decide +kernel
theorem dX11_pairs_18 : decode cX11_pairs 18 = .ok (.if_icmp .ge 34, 3) := by decide +kernel
theorem dX11_pairs_21 : decode cX11_pairs 21 = .ok (.iload_n 2, 1) := by decide +kernel
theorem dX11_pairs_22 : decode cX11_pairs 22 = .ok (.aload_n 0, 1) := by decide +kernel
theorem dX11_pairs_23 : decode cX11_pairs 23 = .ok (.getfield 69, 3) := by decide +kernel
theorem dX11_pairs_26 : decode cX11_pairs 26 = .ok (.iload_n 1, 1) := by decide +kernel
theorem dX11_pairs_27 : decode cX11_pairs 27 = .ok (.bipush 6, 2) := by decide +kernel
theorem dX11_pairs_29 : decode cX11_pairs 29 = .ok (.iload_n 3, 1) := by decide +kernel
theorem dX11_pairs_30 : decode cX11_pairs 30 = .ok (.imul, 1) := by decide +kernel
theorem dX11_pairs_31 : decode cX11_pairs 31 = .ok (.iadd, 1) := by decide +kernel
theorem dX11_pairs_32 : decode cX11_pairs 32 = .ok (.iload 4, 2) := by decide +kernel
theorem dX11_pairs_34 : decode cX11_pairs 34 = .ok (.iadd, 1) := by decide +kernel
theorem dX11_pairs_35 : decode cX11_pairs 35 = .ok (.iaload, 1) := by decide +kernel
theorem dX11_pairs_36 : decode cX11_pairs 36 = .ok (.ifCond .le 7, 3) := by decide +kernel
theorem dX11_pairs_39 : decode cX11_pairs 39 = .ok (.iconst 1, 1) := by decide +kernel
theorem dX11_pairs_40 : decode cX11_pairs 40 = .ok (.goto 4, 3) := by decide +kernel
theorem dX11_pairs_43 : decode cX11_pairs 43 = .ok (.iconst 0, 1) := by decide +kernel
theorem dX11_pairs_44 : decode cX11_pairs 44 = .ok (.iadd, 1) := by decide +kernel
theorem dX11_pairs_45 : decode cX11_pairs 45 = .ok (.istore_n 2, 1) := by decide +kernel
theorem dX11_pairs_46 : decode cX11_pairs 46 = .ok (.iinc 4 1, 3) := by decide +kernel
theorem dX11_pairs_49 : decode cX11_pairs 49 = .ok (.goto (-34), 3) := by decide +kernel
theorem dX11_pairs_52 : decode cX11_pairs 52 = .ok (.iinc 3 1, 3) := by decide +kernel
theorem dX11_pairs_55 : decode cX11_pairs 55 = .ok (.goto (-51), 3) := by decide +kernel
theorem dX11_pairs_58 : decode cX11_pairs 58 = .ok (.iload_n 2, 1) := by decide +kernel
theorem dX11_pairs_59 : decode cX11_pairs 59 = .ok (.ireturn, 1) := by decide +kernel
theorem dX11_count_0 : decode cX11_count 0 = .ok (.aload_n 0, 1) := by decide +kernel
theorem dX11_count_1 : decode cX11_count 1 = .ok (.iconst 0, 1) := by decide +kernel
theorem dX11_count_2 : decode cX11_count 2 = .ok (.putfield 1, 3) := by decide +kernel
theorem dX11_count_5 : decode cX11_count 5 = .ok (.iconst 0, 1) := by decide +kernel
theorem dX11_count_6 : decode cX11_count 6 = .ok (.istore_n 2, 1) := by decide +kernel
theorem dX11_count_7 : decode cX11_count 7 = .ok (.iload_n 1, 1) := by decide +kernel
theorem dX11_count_8 : decode cX11_count 8 = .ok (.tableswitch 188 0 8 #[52, 57, 64, 74, 81, 88, 124, 131, 183], 52) := by decide +kernel
theorem dX11_count_60 : decode cX11_count 60 = .ok (.aload_n 0, 1) := by decide +kernel
theorem dX11_count_61 : decode cX11_count 61 = .ok (.invokevirtual 248, 3) := by decide +kernel
theorem dX11_count_64 : decode cX11_count 64 = .ok (.ireturn, 1) := by decide +kernel
theorem dX11_count_65 : decode cX11_count 65 = .ok (.aload_n 0, 1) := by decide +kernel
theorem dX11_count_66 : decode cX11_count 66 = .ok (.getfield 69, 3) := by decide +kernel
theorem dX11_count_69 : decode cX11_count 69 = .ok (.iconst 1, 1) := by decide +kernel
theorem dX11_count_70 : decode cX11_count 70 = .ok (.iaload, 1) := by decide +kernel
theorem dX11_count_71 : decode cX11_count 71 = .ok (.ireturn, 1) := by decide +kernel
theorem dX11_count_72 : decode cX11_count 72 = .ok (.aload_n 0, 1) := by decide +kernel
theorem dX11_count_73 : decode cX11_count 73 = .ok (.getfield 69, 3) := by decide +kernel
theorem dX11_count_76 : decode cX11_count 76 = .ok (.iconst 1, 1) := by decide +kernel
theorem dX11_count_77 : decode cX11_count 77 = .ok (.iaload, 1) := by decide +kernel
theorem dX11_count_78 : decode cX11_count 78 = .ok (.bipush 28, 2) := by decide +kernel
theorem dX11_count_80 : decode cX11_count 80 = .ok (.idiv, 1) := by decide +kernel
theorem dX11_count_81 : decode cX11_count 81 = .ok (.ireturn, 1) := by decide +kernel
theorem dX11_count_82 : decode cX11_count 82 = .ok (.aload_n 0, 1) := by decide +kernel
theorem dX11_count_83 : decode cX11_count 83 = .ok (.bipush 74, 2) := by decide +kernel
theorem dX11_count_85 : decode cX11_count 85 = .ok (.invokevirtual 365, 3) := by decide +kernel
theorem dX11_count_88 : decode cX11_count 88 = .ok (.ireturn, 1) := by decide +kernel
theorem dX11_count_89 : decode cX11_count 89 = .ok (.aload_n 0, 1) := by decide +kernel
theorem dX11_count_90 : decode cX11_count 90 = .ok (.bipush 110, 2) := by decide +kernel
theorem dX11_count_92 : decode cX11_count 92 = .ok (.invokevirtual 365, 3) := by decide +kernel
theorem dX11_count_95 : decode cX11_count 95 = .ok (.ireturn, 1) := by decide +kernel
theorem dX11_count_96 : decode cX11_count 96 = .ok (.iconst 0, 1) := by decide +kernel
theorem dX11_count_97 : decode cX11_count 97 = .ok (.istore_n 3, 1) := by decide +kernel
theorem dX11_count_98 : decode cX11_count 98 = .ok (.iload_n 3, 1) := by decide +kernel
theorem dX11_count_99 : decode cX11_count 99 = .ok (.aload_n 0, 1) := by decide +kernel
theorem dX11_count_100 : decode cX11_count 100 = .ok (.invokevirtual 248, 3) := by decide +kernel
theorem dX11_count_103 : decode cX11_count 103 = .ok (.if_icmp .ge 27, 3) := by decide +kernel
theorem dX11_count_106 : decode cX11_count 106 = .ok (.iload_n 2, 1) := by decide +kernel
theorem dX11_count_107 : decode cX11_count 107 = .ok (.aload_n 0, 1) := by decide +kernel
theorem dX11_count_108 : decode cX11_count 108 = .ok (.iload_n 3, 1) := by decide +kernel
theorem dX11_count_109 : decode cX11_count 109 = .ok (.bipush 6, 2) := by decide +kernel
theorem dX11_count_111 : decode cX11_count 111 = .ok (.invokevirtual 251, 3) := by decide +kernel
theorem dX11_count_114 : decode cX11_count 114 = .ok (.ifCond .le 7, 3) := by decide +kernel
theorem dX11_count_117 : decode cX11_count 117 = .ok (.iconst 1, 1) := by decide +kernel
theorem dX11_count_118 : decode cX11_count 118 = .ok (.goto 4, 3) := by decide +kernel
theorem dX11_count_121 : decode cX11_count 121 = .ok (.iconst 0, 1) := by decide +kernel
theorem dX11_count_122 : decode cX11_count 122 = .ok (.iadd, 1) := by decide +kernel
theorem dX11_count_123 : decode cX11_count 123 = .ok (.istore_n 2, 1) := by decide +kernel
theorem dX11_count_124 : decode cX11_count 124 = .ok (.iinc 3 1, 3) := by decide +kernel
theorem dX11_count_127 : decode cX11_count 127 = .ok (.goto (-29), 3) := by decide +kernel
theorem dX11_count_130 : decode cX11_count 130 = .ok (.iload_n 2, 1) := by decide +kernel
theorem dX11_count_131 : decode cX11_count 131 = .ok (.ireturn, 1) := by decide +kernel
theorem dX11_count_132 : decode cX11_count 132 = .ok (.aload_n 0, 1) := by decide +kernel
theorem dX11_count_133 : decode cX11_count 133 = .ok (.getfield 69, 3) := by decide +kernel
theorem dX11_count_136 : decode cX11_count 136 = .ok (.iconst 4, 1) := by decide +kernel
theorem dX11_count_137 : decode cX11_count 137 = .ok (.iaload, 1) := by decide +kernel
theorem dX11_count_138 : decode cX11_count 138 = .ok (.ireturn, 1) := by decide +kernel
theorem dX11_count_139 : decode cX11_count 139 = .ok (.iconst 0, 1) := by decide +kernel
theorem dX11_count_140 : decode cX11_count 140 = .ok (.istore_n 3, 1) := by decide +kernel
theorem dX11_count_141 : decode cX11_count 141 = .ok (.iload_n 3, 1) := by decide +kernel
theorem dX11_count_142 : decode cX11_count 142 = .ok (.aload_n 0, 1) := by decide +kernel
theorem dX11_count_143 : decode cX11_count 143 = .ok (.invokevirtual 248, 3) := by decide +kernel
theorem dX11_count_146 : decode cX11_count 146 = .ok (.if_icmp .ge 43, 3) := by decide +kernel
theorem dX11_count_149 : decode cX11_count 149 = .ok (.iconst 0, 1) := by decide +kernel
theorem dX11_count_150 : decode cX11_count 150 = .ok (.istore 4, 2) := by decide +kernel
theorem dX11_count_152 : decode cX11_count 152 = .ok (.iload 4, 2) := by decide +kernel
theorem dX11_count_154 : decode cX11_count 154 = .ok (.iload_n 3, 1) := by decide +kernel
theorem dX11_count_155 : decode cX11_count 155 = .ok (.if_icmp .ge 28, 3) := by decide +kernel
theorem dX11_count_158 : decode cX11_count 158 = .ok (.iload_n 2, 1) := by decide +kernel
theorem dX11_count_159 : decode cX11_count 159 = .ok (.aload_n 0, 1) := by decide +kernel
theorem dX11_count_160 : decode cX11_count 160 = .ok (.getfield 69, 3) := by decide +kernel
theorem dX11_count_163 : decode cX11_count 163 = .ok (.sipush 146, 3) := by decide +kernel
theorem dX11_count_166 : decode cX11_count 166 = .ok (.bipush 6, 2) := by decide +kernel
theorem dX11_count_168 : decode cX11_count 168 = .ok (.iload_n 3, 1) := by decide +kernel
theorem dX11_count_169 : decode cX11_count 169 = .ok (.imul, 1) := by decide +kernel
theorem dX11_count_170 : decode cX11_count 170 = .ok (.iadd, 1) := by decide +kernel
theorem dX11_count_171 : decode cX11_count 171 = .ok (.iload 4, 2) := by decide +kernel
theorem dX11_count_173 : decode cX11_count 173 = .ok (.iadd, 1) := by decide +kernel
theorem dX11_count_174 : decode cX11_count 174 = .ok (.iaload, 1) := by decide +kernel
theorem dX11_count_175 : decode cX11_count 175 = .ok (.iadd, 1) := by decide +kernel
theorem dX11_count_176 : decode cX11_count 176 = .ok (.istore_n 2, 1) := by decide +kernel
theorem dX11_count_177 : decode cX11_count 177 = .ok (.iinc 4 1, 3) := by decide +kernel
theorem dX11_count_180 : decode cX11_count 180 = .ok (.goto (-28), 3) := by decide +kernel
theorem dX11_count_183 : decode cX11_count 183 = .ok (.iinc 3 1, 3) := by decide +kernel
theorem dX11_count_186 : decode cX11_count 186 = .ok (.goto (-45), 3) := by decide +kernel
theorem dX11_count_189 : decode cX11_count 189 = .ok (.iload_n 2, 1) := by decide +kernel
theorem dX11_count_190 : decode cX11_count 190 = .ok (.ireturn, 1) := by decide +kernel
theorem dX11_count_191 : decode cX11_count 191 = .ok (.aload_n 0, 1) := by decide +kernel
theorem dX11_count_192 : decode cX11_count 192 = .ok (.getfield 11, 3) := by decide +kernel
theorem dX11_count_195 : decode cX11_count 195 = .ok (.ireturn, 1) := by decide +kernel
theorem dX11_count_196 : decode cX11_count 196 = .ok (.iconst (-1), 1) := by decide +kernel
theorem dX11_count_197 : decode cX11_count 197 = .ok (.ireturn, 1) := by decide +kernel
