theorem dX12_init_0 : decode cX12_init 0 = .ok (.aload_n 0, 1) := by decide +kernel
theorem dX12_init_1 : decode cX12_init 1 = .ok (.invokespecial 1, 3) := by decide +kernel
theorem dX12_init_4 : decode cX12_init 4 = .ok (.aload_n 0, 1) := by decide +kernel
theorem dX12_init_5 : decode cX12_init 5 = .ok (.bipush 120, 2) := by decide +kernel
theorem dX12_init_7 : decode cX12_init 7 = .ok (.newarray .byte, 2) := by decide +kernel
theorem dX12_init_9 : decode cX12_init 9 = .ok (.putfield 7, 3) := by decide +kernel
theorem dX12_init_12 : decode cX12_init 12 = .ok (.aload_n 0, 1) := by decide +kernel
theorem dX12_init_13 : decode cX12_init 13 = .ok (.bipush 7, 2) := by decide +kernel
theorem dX12_init_15 : decode cX12_init 15 = .ok (.newarray .int, 2) := by decide +kernel
theorem dX12_init_17 : decode cX12_init 17 = .ok (.putfield 13, 3) := by decide +kernel
theorem dX12_init_20 : decode cX12_init 20 = .ok (.aload_n 0, 1) := by decide +kernel
theorem dX12_init_21 : decode cX12_init 21 = .ok (.bipush 7, 2) := by decide +kernel
theorem dX12_init_23 : decode cX12_init 23 = .ok (.newarray .int, 2) := by decide +kernel
theorem dX12_init_25 : decode cX12_init 25 = .ok (.putfield 17, 3) := by decide +kernel
theorem dX12_init_28 : decode cX12_init 28 = .ok (.aload_n 0, 1) := by decide +kernel
theorem dX12_init_29 : decode cX12_init 29 = .ok (.sipush 252, 3) := by decide +kernel
theorem dX12_init_32 : decode cX12_init 32 = .ok (.newarray .int, 2) := by decide +kernel
theorem dX12_init_34 : decode cX12_init 34 = .ok (.putfield 20, 3) := by decide +kernel
theorem dX12_init_37 : decode cX12_init 37 = .ok (.aload_n 0, 1) := by decide +kernel
theorem dX12_init_38 : decode cX12_init 38 = .ok (.bipush 40, 2) := by decide +kernel
theorem dX12_init_40 : decode cX12_init 40 = .ok (.newarray .int, 2) := by decide +kernel
theorem dX12_init_42 : decode cX12_init 42 = .ok (.putfield 23, 3) := by decide +kernel
theorem dX12_init_45 : decode cX12_init 45 = .ok (.aload_n 0, 1) := by decide +kernel
theorem dX12_init_46 : decode cX12_init 46 = .ok (.bipush 40, 2) := by decide +kernel
theorem dX12_init_48 : decode cX12_init 48 = .ok (.newarray .int, 2) := by decide +kernel
theorem dX12_init_50 : decode cX12_init 50 = .ok (.putfield 26, 3) := by decide +kernel
theorem dX12_init_53 : decode cX12_init 53 = .ok (.aload_n 0, 1) := by decide +kernel
theorem dX12_init_54 : decode cX12_init 54 = .ok (.bipush 40, 2) := by decide +kernel
theorem dX12_init_56 : decode cX12_init 56 = .ok (.newarray .int, 2) := by decide +kernel
theorem dX12_init_58 : decode cX12_init 58 = .ok (.putfield 29, 3) := by decide +kernel
theorem dX12_init_61 : decode cX12_init 61 = .ok (.aload_n 0, 1) := by decide +kernel
theorem dX12_init_62 : decode cX12_init 62 = .ok (.bipush 40, 2) := by decide +kernel
theorem dX12_init_64 : decode cX12_init 64 = .ok (.newarray .int, 2) := by decide +kernel
theorem dX12_init_66 : decode cX12_init 66 = .ok (.putfield 32, 3) := by decide +kernel
theorem dX12_init_69 : decode cX12_init 69 = .ok (.aload_n 0, 1) := by decide +kernel
theorem dX12_init_70 : decode cX12_init 70 = .ok (.sipush 650, 3) := by decide +kernel
theorem dX12_init_73 : decode cX12_init 73 = .ok (.newarray .byte, 2) := by decide +kernel
theorem dX12_init_75 : decode cX12_init 75 = .ok (.putfield 35, 3) := by decide +kernel
theorem dX12_init_78 : decode cX12_init 78 = .ok (.aload_n 0, 1) := by decide +kernel
theorem dX12_init_79 : decode cX12_init 79 = .ok (.sipush 650, 3) := by decide +kernel
theorem dX12_init_82 : decode cX12_init 82 = .ok (.newarray .int, 2) := by decide +kernel
theorem dX12_init_84 : decode cX12_init 84 = .ok (.putfield 38, 3) := by decide +kernel
theorem dX12_init_87 : decode cX12_init 87 = .ok (.aload_n 0, 1) := by decide +kernel
theorem dX12_init_88 : decode cX12_init 88 = .ok (.iconst 5, 1) := by decide +kernel
theorem dX12_init_89 : decode cX12_init 89 = .ok (.newarray .int, 2) := by decide +kernel
theorem dX12_init_91 : decode cX12_init 91 = .ok (.putfield 41, 3) := by decide +kernel
theorem dX12_init_94 : decode cX12_init 94 = .ok (.aload_n 0, 1) := by decide +kernel
theorem dX12_init_95 : decode cX12_init 95 = .ok (.sipush 305, 3) := by decide +kernel
theorem dX12_init_98 : decode cX12_init 98 = .ok (.newarray .short, 2) := by decide +kernel
theorem dX12_init_100 : decode cX12_init 100 = .ok (.putfield 44, 3) := by decide +kernel
theorem dX12_init_103 : decode cX12_init 103 = .ok (.aload_n 0, 1) := by decide +kernel
theorem dX12_init_104 : decode cX12_init 104 = .ok (.sipush 305, 3) := by decide +kernel
theorem dX12_init_107 : decode cX12_init 107 = .ok (.newarray .short, 2) := by decide +kernel
theorem dX12_init_109 : decode cX12_init 109 = .ok (.putfield 48, 3) := by decide +kernel
theorem dX12_init_112 : decode cX12_init 112 = .ok (.aload_n 0, 1) := by decide +kernel
theorem dX12_init_113 : decode cX12_init 113 = .ok (.iconst 4, 1) := by decide +kernel
theorem dX12_init_114 : decode cX12_init 114 = .ok (.newarray .int, 2) := by decide +kernel
theorem dX12_init_116 : decode cX12_init 116 = .ok (.putfield 51, 3) := by decide +kernel
theorem dX12_init_119 : decode cX12_init 119 = .ok (.aload_n 0, 1) := by decide +kernel
theorem dX12_init_120 : decode cX12_init 120 = .ok (.sipush 130, 3) := by decide +kernel
theorem dX12_init_123 : decode cX12_init 123 = .ok (.newarray .int, 2) := by decide +kernel
theorem dX12_init_125 : decode cX12_init 125 = .ok (.putfield 54, 3) := by decide +kernel
theorem dX12_init_128 : decode cX12_init 128 = .ok (.aload_n 0, 1) := by decide +kernel
theorem dX12_init_129 : decode cX12_init 129 = .ok (.iconst (-1), 1) := by decide +kernel
theorem dX12_init_130 : decode cX12_init 130 = .ok (.putfield 57, 3) := by decide +kernel
theorem dX12_init_133 : decode cX12_init 133 = .ok (.aload_n 0, 1) := by decide +kernel
theorem dX12_init_134 : decode cX12_init 134 = .ok (.bipush 8, 2) := by decide +kernel
theorem dX12_init_136 : decode cX12_init 136 = .ok (.newarray .int, 2) := by decide +kernel
theorem dX12_init_138 : decode cX12_init 138 = .ok (.putfield 61, 3) := by decide +kernel
theorem dX12_init_141 : decode cX12_init 141 = .ok (.aload_n 0, 1) := by decide +kernel
theorem dX12_init_142 : decode cX12_init 142 = .ok (.bipush 8, 2) := by decide +kernel
theorem dX12_init_144 : decode cX12_init 144 = .ok (.newarray .int, 2) := by decide +kernel
theorem dX12_init_146 : decode cX12_init 146 = .ok (.putfield 64, 3) := by decide +kernel
theorem dX12_init_149 : decode cX12_init 149 = .ok (.aload_n 0, 1) := by decide +kernel
theorem dX12_init_150 : decode cX12_init 150 = .ok (.bipush 8, 2) := by decide +kernel
theorem dX12_init_152 : decode cX12_init 152 = .ok (.newarray .int, 2) := by decide +kernel
theorem dX12_init_154 : decode cX12_init 154 = .ok (.putfield 67, 3) := by decide +kernel
theorem dX12_init_157 : decode cX12_init 157 = .ok (.aload_n 0, 1) := by decide +kernel
theorem dX12_init_158 : decode cX12_init 158 = .ok (.bipush 8, 2) := by decide +kernel
theorem dX12_init_160 : decode cX12_init 160 = .ok (.newarray .int, 2) := by decide +kernel
theorem dX12_init_162 : decode cX12_init 162 = .ok (.putfield 70, 3) := by decide +kernel
theorem dX12_init_165 : decode cX12_init 165 = .ok (.aload_n 0, 1) := by decide +kernel
theorem dX12_init_166 : decode cX12_init 166 = .ok (.iconst 5, 1) := by decide +kernel
theorem dX12_init_167 : decode cX12_init 167 = .ok (.newarray .int, 2) := by decide +kernel
theorem dX12_init_169 : decode cX12_init 169 = .ok (.putfield 73, 3) := by decide +kernel
theorem dX12_init_172 : decode cX12_init 172 = .ok (.aload_n 0, 1) := by decide +kernel
theorem dX12_init_173 : decode cX12_init 173 = .ok (.bipush 12, 2) := by decide +kernel
theorem dX12_init_175 : decode cX12_init 175 = .ok (.newarray .int, 2) := by decide +kernel
theorem dX12_init_177 : decode cX12_init 177 = .ok (.putfield 76, 3) := by decide +kernel
theorem dX12_init_180 : decode cX12_init 180 = .ok (.aload_n 0, 1) := by decide +kernel
theorem dX12_init_181 : decode cX12_init 181 = .ok (.iconst 5, 1) := by decide +kernel
theorem dX12_init_182 : decode cX12_init 182 = .ok (.newarray .int, 2) := by decide +kernel
theorem dX12_init_184 : decode cX12_init 184 = .ok (.putfield 79, 3) := by decide +kernel
theorem dX12_init_187 : decode cX12_init 187 = .ok (.aload_n 0, 1) := by decide +kernel
theorem dX12_init_188 : decode cX12_init 188 = .ok (.bipush 20, 2) := by decide +kernel
theorem dX12_init_190 : decode cX12_init 190 = .ok (.newarray .int, 2) := by decide +kernel
theorem dX12_init_192 : decode cX12_init 192 = .ok (.putfield 82, 3) := by decide +kernel
theorem dX12_init_195 : decode cX12_init 195 = .ok (.aload_n 0, 1) := by decide +kernel
theorem dX12_init_196 : decode cX12_init 196 = .ok (.bipush 20, 2) := by decide +kernel
theorem dX12_init_198 : decode cX12_init 198 = .ok (.newarray .int, 2) := by decide +kernel
theorem dX12_init_200 : decode cX12_init 200 = .ok (.putfield 85, 3) := by decide +kernel
theorem dX12_init_203 : decode cX12_init 203 = .ok (.aload_n 0, 1) := by decide +kernel
theorem dX12_init_204 : decode cX12_init 204 = .ok (.bipush 50, 2) := by decide +kernel
theorem dX12_init_206 : decode cX12_init 206 = .ok (.newarray .int, 2) := by decide +kernel
theorem dX12_init_208 : decode cX12_init 208 = .ok (.putfield 88, 3) := by decide +kernel
theorem dX12_init_211 : decode cX12_init 211 = .ok (.aload_n 0, 1) := by decide +kernel
theorem dX12_init_212 : decode cX12_init 212 = .ok (.bipush 24, 2) := by decide +kernel
theorem dX12_init_214 : decode cX12_init 214 = .ok (.newarray .int, 2) := by decide +kernel
theorem dX12_init_216 : decode cX12_init 216 = .ok (.putfield 91, 3) := by decide +kernel
theorem dX12_init_219 : decode cX12_init 219 = .ok (.aload_n 0, 1) := by decide +kernel
theorem dX12_init_220 : decode cX12_init 220 = .ok (.bipush 6, 2) := by decide +kernel
theorem dX12_init_222 : decode cX12_init 222 = .ok (.newarray .int, 2) := by decide +kernel
theorem dX12_init_224 : decode cX12_init 224 = .ok (.dup, 1) := by decide +kernel
theorem dX12_init_225 : decode cX12_init 225 = .ok (.iconst 0, 1) := by decide +kernel
theorem dX12_init_226 : decode cX12_init 226 = .ok (.iconst (-1), 1) := by decide +kernel
theorem dX12_init_227 : decode cX12_init 227 = .ok (.iastore, 1) := by decide +kernel
theorem dX12_init_228 : decode cX12_init 228 = .ok (.dup, 1) := by decide +kernel
theorem dX12_init_229 : decode cX12_init 229 = .ok (.iconst 1, 1) := by decide +kernel
theorem dX12_init_230 : decode cX12_init 230 = .ok (.iconst (-1), 1) := by decide +kernel
theorem dX12_init_231 : decode cX12_init 231 = .ok (.iastore, 1) := by decide +kernel
theorem dX12_init_232 : decode cX12_init 232 = .ok (.dup, 1) := by decide +kernel
theorem dX12_init_233 : decode cX12_init 233 = .ok (.iconst 2, 1) := by decide +kernel
theorem dX12_init_234 : decode cX12_init 234 = .ok (.iconst (-1), 1) := by decide +kernel
theorem dX12_init_235 : decode cX12_init 235 = .ok (.iastore, 1) := by decide +kernel
theorem dX12_init_236 : decode cX12_init 236 = .ok (.dup, 1) := by decide +kernel
theorem dX12_init_237 : decode cX12_init 237 = .ok (.iconst 3, 1) := by decide +kernel
theorem dX12_init_238 : decode cX12_init 238 = .ok (.iconst (-1), 1) := by decide +kernel
theorem dX12_init_239 : decode cX12_init 239 = .ok (.iastore, 1) := by decide +kernel
theorem dX12_init_240 : decode cX12_init 240 = .ok (.dup, 1) := by decide +kernel
theorem dX12_init_241 : decode cX12_init 241 = .ok (.iconst 4, 1) := by decide +kernel
theorem dX12_init_242 : decode cX12_init 242 = .ok (.iconst (-1), 1) := by decide +kernel
theorem dX12_init_243 : decode cX12_init 243 = .ok (.iastore, 1) := by decide +kernel
theorem dX12_init_244 : decode cX12_init 244 = .ok (.dup, 1) := by decide +kernel
theorem dX12_init_245 : decode cX12_init 245 = .ok (.iconst 5, 1) := by decide +kernel
theorem dX12_init_246 : decode cX12_init 246 = .ok (.iconst (-1), 1) := by decide +kernel
theorem dX12_init_247 : decode cX12_init 247 = .ok (.iastore, 1) := by decide +kernel
theorem dX12_init_248 : decode cX12_init 248 = .ok (.putfield 94, 3) := by decide +kernel
theorem dX12_init_251 : decode cX12_init 251 = .ok (.aload_n 0, 1) := by decide +kernel
theorem dX12_init_252 : decode cX12_init 252 = .ok (.bipush 6, 2) := by decide +kernel
theorem dX12_init_254 : decode cX12_init 254 = .ok (.newarray .int, 2) := by decide +kernel
theorem dX12_init_256 : decode cX12_init 256 = .ok (.putfield 97, 3) := by decide +kernel
theorem dX12_init_259 : decode cX12_init 259 = .ok (.aload_n 0, 1) := by decide +kernel
theorem dX12_init_260 : decode cX12_init 260 = .ok (.sipush 360, 3) := by decide +kernel
theorem dX12_init_263 : decode cX12_init 263 = .ok (.newarray .long, 2) := by decide +kernel
theorem dX12_init_265 : decode cX12_init 265 = .ok (.putfield 100, 3) := by decide +kernel
theorem dX12_init_268 : decode cX12_init 268 = .ok (.aload_n 0, 1) := by decide +kernel
theorem dX12_init_269 : decode cX12_init 269 = .ok (.bipush 60, 2) := by decide +kernel
theorem dX12_init_271 : decode cX12_init 271 = .ok (.newarray .long, 2) := by decide +kernel
theorem dX12_init_273 : decode cX12_init 273 = .ok (.putfield 104, 3) := by decide +kernel
theorem dX12_init_276 : decode cX12_init 276 = .ok (.return_, 1) := by decide +kernel
theorem dX12_in_0 : decode cX12_in 0 = .ok (.iload_n 0, 1) := by decide +kernel
theorem dX12_in_1 : decode cX12_in 1 = .ok (.iload_n 1, 1) := by decide +kernel
theorem dX12_in_2 : decode cX12_in 2 = .ok (.if_icmp .lt 12, 3) := by decide +kernel
theorem dX12_in_5 : decode cX12_in 5 = .ok (.iload_n 0, 1) := by decide +kernel
theorem dX12_in_6 : decode cX12_in 6 = .ok (.iload_n 2, 1) := by decide +kernel
theorem dX12_in_7 : decode cX12_in 7 = .ok (.if_icmp .gt 7, 3) := by decide +kernel
theorem dX12_in_10 : decode cX12_in 10 = .ok (.iconst 1, 1) := by decide +kernel
theorem dX12_in_11 : decode cX12_in 11 = .ok (.goto 4, 3) := by decide +kernel
theorem dX12_in_14 : decode cX12_in 14 = .ok (.iconst 0, 1) := by decide +kernel
theorem dX12_in_15 : decode cX12_in 15 = .ok (.ireturn, 1) := by decide +kernel
theorem dX12_sizeOf_0 : decode cX12_sizeOf 0 = .ok (.iload_n 0, 1) := by decide +kernel
theorem dX12_sizeOf_1 : decode cX12_sizeOf 1 = .ok (.ifCond .ge 8, 3) := by decide +kernel
theorem dX12_sizeOf_4 : decode cX12_sizeOf 4 = .ok (.iload_n 0, 1) := by decide +kernel
theorem dX12_sizeOf_5 : decode cX12_sizeOf 5 = .ok (.ineg, 1) := by decide +kernel
theorem dX12_sizeOf_6 : decode cX12_sizeOf 6 = .ok (.goto 4, 3) := by decide +kernel
theorem dX12_sizeOf_9 : decode cX12_sizeOf 9 = .ok (.iload_n 0, 1) := by decide +kernel
theorem dX12_sizeOf_10 : decode cX12_sizeOf 10 = .ok (.ireturn, 1) := by decide +kernel
theorem dX12_held_0 : decode cX12_held 0 = .ok (.iload_n 0, 1) := by decide +kernel
theorem dX12_held_1 : decode cX12_held 1 = .ok (.iload_n 1, 1) := by decide +kernel
theorem dX12_held_2 : decode cX12_held 2 = .ok (.if_icmp .ge 7, 3) := by decide +kernel
theorem dX12_held_5 : decode cX12_held 5 = .ok (.iload_n 1, 1) := by decide +kernel
theorem dX12_held_6 : decode cX12_held 6 = .ok (.goto 13, 3) := by decide +kernel
theorem dX12_held_9 : decode cX12_held 9 = .ok (.iload_n 0, 1) := by decide +kernel
theorem dX12_held_10 : decode cX12_held 10 = .ok (.iload_n 2, 1) := by decide +kernel
theorem dX12_held_11 : decode cX12_held 11 = .ok (.if_icmp .le 7, 3) := by decide +kernel
theorem dX12_held_14 : decode cX12_held 14 = .ok (.iload_n 2, 1) := by decide +kernel
theorem dX12_held_15 : decode cX12_held 15 = .ok (.goto 4, 3) := by decide +kernel
theorem dX12_held_18 : decode cX12_held 18 = .ok (.iload_n 0, 1) := by decide +kernel
theorem dX12_held_19 : decode cX12_held 19 = .ok (.ireturn, 1) := by decide +kernel
theorem dX12_feed_0 : decode cX12_feed 0 = .ok (.iload_n 1, 1) := by decide +kernel
theorem dX12_feed_1 : decode cX12_feed 1 = .ok (.iconst 1, 1) := by decide +kernel
theorem dX12_feed_2 : decode cX12_feed 2 = .ok (.iconst 4, 1) := by decide +kernel
theorem dX12_feed_3 : decode cX12_feed 3 = .ok (.invokestatic 110, 3) := by decide +kernel
theorem dX12_feed_6 : decode cX12_feed 6 = .ok (.ifCond .ne 5, 3) := by decide +kernel
theorem dX12_feed_9 : decode cX12_feed 9 = .ok (.iconst (-1), 1) := by decide +kernel
theorem dX12_feed_10 : decode cX12_feed 10 = .ok (.ireturn, 1) := by decide +kernel
theorem dX12_feed_11 : decode cX12_feed 11 = .ok (.aload_n 0, 1) := by decide +kernel
theorem dX12_feed_12 : decode cX12_feed 12 = .ok (.getfield 114, 3) := by decide +kernel
theorem dX12_feed_15 : decode cX12_feed 15 = .ok (.iload_n 1, 1) := by decide +kernel
theorem dX12_feed_16 : decode cX12_feed 16 = .ok (.iadd, 1) := by decide +kernel
theorem dX12_feed_17 : decode cX12_feed 17 = .ok (.bipush 120, 2) := by decide +kernel
theorem dX12_feed_19 : decode cX12_feed 19 = .ok (.if_icmp .le 6, 3) := by decide +kernel
theorem dX12_feed_22 : decode cX12_feed 22 = .ok (.bipush (-3), 2) := by decide +kernel
theorem dX12_feed_24 : decode cX12_feed 24 = .ok (.ireturn, 1) := by decide +kernel
theorem dX12_feed_25 : decode cX12_feed 25 = .ok (.iconst 0, 1) := by decide +kernel
theorem dX12_feed_26 : decode cX12_feed 26 = .ok (.istore_n 3, 1) := by decide +kernel
theorem dX12_feed_27 : decode cX12_feed 27 = .ok (.iload_n 3, 1) := by decide +kernel
theorem dX12_feed_28 : decode cX12_feed 28 = .ok (.iload_n 1, 1) := by decide +kernel
theorem dX12_feed_29 : decode cX12_feed 29 = .ok (.if_icmp .ge 35, 3) := by decide +kernel
theorem dX12_feed_32 : decode cX12_feed 32 = .ok (.aload_n 0, 1) := by decide +kernel
theorem dX12_feed_33 : decode cX12_feed 33 = .ok (.getfield 7, 3) := by decide +kernel
theorem dX12_feed_36 : decode cX12_feed 36 = .ok (.aload_n 0, 1) := by decide +kernel
theorem dX12_feed_37 : decode cX12_feed 37 = .ok (.getfield 114, 3) := by decide +kernel
theorem dX12_feed_40 : decode cX12_feed 40 = .ok (.iload_n 2, 1) := by decide +kernel
theorem dX12_feed_41 : decode cX12_feed 41 = .ok (.bipush 8, 2) := by decide +kernel
theorem dX12_feed_43 : decode cX12_feed 43 = .ok (.iload_n 3, 1) := by decide +kernel
theorem dX12_feed_44 : decode cX12_feed 44 = .ok (.imul, 1) := by decide +kernel
theorem dX12_feed_45 : decode cX12_feed 45 = .ok (.ishr, 1) := by decide +kernel
theorem dX12_feed_46 : decode cX12_feed 46 = .ok (.i2b, 1) := by decide +kernel
theorem dX12_feed_47 : decode cX12_feed 47 = .ok (.bastore, 1) := by decide +kernel
theorem dX12_feed_48 : decode cX12_feed 48 = .ok (.aload_n 0, 1) := by decide +kernel
theorem dX12_feed_49 : decode cX12_feed 49 = .ok (.dup, 1) := by decide +kernel
theorem dX12_feed_50 : decode cX12_feed 50 = .ok (.getfield 114, 3) := by decide +kernel
theorem dX12_feed_53 : decode cX12_feed 53 = .ok (.iconst 1, 1) := by decide +kernel
theorem dX12_feed_54 : decode cX12_feed 54 = .ok (.iadd, 1) := by decide +kernel
theorem dX12_feed_55 : decode cX12_feed 55 = .ok (.putfield 114, 3) := by decide +kernel
theorem dX12_feed_58 : decode cX12_feed 58 = .ok (.iinc 3 1, 3) := by decide +kernel
theorem dX12_feed_61 : decode cX12_feed 61 = .ok (.goto (-34), 3) := by decide +kernel
theorem dX12_feed_64 : decode cX12_feed 64 = .ok (.aload_n 0, 1) := by decide +kernel
theorem dX12_feed_65 : decode cX12_feed 65 = .ok (.getfield 114, 3) := by decide +kernel
theorem dX12_feed_68 : decode cX12_feed 68 = .ok (.ireturn, 1) := by decide +kernel
theorem dX12_isPlace_0 : decode cX12_isPlace 0 = .ok (.iload_n 1, 1) := by decide +kernel
theorem dX12_isPlace_1 : decode cX12_isPlace 1 = .ok (.iconst 0, 1) := by decide +kernel
theorem dX12_isPlace_2 : decode cX12_isPlace 2 = .ok (.aload_n 0, 1) := by decide +kernel
theorem dX12_isPlace_3 : decode cX12_isPlace 3 = .ok (.getfield 117, 3) := by decide +kernel
theorem dX12_isPlace_6 : decode cX12_isPlace 6 = .ok (.iconst 1, 1) := by decide +kernel
theorem dX12_isPlace_7 : decode cX12_isPlace 7 = .ok (.isub, 1) := by decide +kernel
theorem dX12_isPlace_8 : decode cX12_isPlace 8 = .ok (.invokestatic 110, 3) := by decide +kernel
theorem dX12_isPlace_11 : decode cX12_isPlace 11 = .ok (.ireturn, 1) := by decide +kernel
theorem dX12_isCell_0 : decode cX12_isCell 0 = .ok (.aload_n 0, 1) := by decide +kernel
theorem dX12_isCell_1 : decode cX12_isCell 1 = .ok (.iload_n 1, 1) := by decide +kernel
theorem dX12_isCell_2 : decode cX12_isCell 2 = .ok (.invokevirtual 120, 3) := by decide +kernel
theorem dX12_isCell_5 : decode cX12_isCell 5 = .ok (.ifCond .eq 23, 3) := by decide +kernel
theorem dX12_isCell_8 : decode cX12_isCell 8 = .ok (.iload_n 2, 1) := by decide +kernel
theorem dX12_isCell_9 : decode cX12_isCell 9 = .ok (.iconst 0, 1) := by decide +kernel
theorem dX12_isCell_10 : decode cX12_isCell 10 = .ok (.aload_n 0, 1) := by decide +kernel
theorem dX12_isCell_11 : decode cX12_isCell 11 = .ok (.getfield 13, 3) := by decide +kernel
theorem dX12_isCell_14 : decode cX12_isCell 14 = .ok (.iload_n 1, 1) := by decide +kernel
theorem dX12_isCell_15 : decode cX12_isCell 15 = .ok (.iaload, 1) := by decide +kernel
theorem dX12_isCell_16 : decode cX12_isCell 16 = .ok (.iconst 1, 1) := by decide +kernel
theorem dX12_isCell_17 : decode cX12_isCell 17 = .ok (.isub, 1) := by decide +kernel
theorem dX12_isCell_18 : decode cX12_isCell 18 = .ok (.invokestatic 110, 3) := by decide +kernel
theorem dX12_isCell_21 : decode cX12_isCell 21 = .ok (.ifCond .eq 7, 3) := by decide +kernel
theorem dX12_isCell_24 : decode cX12_isCell 24 = .ok (.iconst 1, 1) := by decide +kernel
theorem dX12_isCell_25 : decode cX12_isCell 25 = .ok (.goto 4, 3) := by decide +kernel
theorem dX12_isCell_28 : decode cX12_isCell 28 = .ok (.iconst 0, 1) := by decide +kernel
theorem dX12_isCell_29 : decode cX12_isCell 29 = .ok (.ireturn, 1) := by decide +kernel
theorem dX12_isHere_0 : decode cX12_isHere 0 = .ok (.aload_n 0, 1) := by decide +kernel
theorem dX12_isHere_1 : decode cX12_isHere 1 = .ok (.getfield 124, 3) := by decide +kernel
theorem dX12_isHere_4 : decode cX12_isHere 4 = .ok (.ifCond .ge 31, 3) := by decide +kernel
theorem dX12_isHere_7 : decode cX12_isHere 7 = .ok (.aload_n 0, 1) := by decide +kernel
theorem dX12_isHere_8 : decode cX12_isHere 8 = .ok (.getfield 127, 3) := by decide +kernel
theorem dX12_isHere_11 : decode cX12_isHere 11 = .ok (.aload_n 0, 1) := by decide +kernel
theorem dX12_isHere_12 : decode cX12_isHere 12 = .ok (.getfield 114, 3) := by decide +kernel
theorem dX12_isHere_15 : decode cX12_isHere 15 = .ok (.if_icmp .ge 20, 3) := by decide +kernel
theorem dX12_isHere_18 : decode cX12_isHere 18 = .ok (.aload_n 0, 1) := by decide +kernel
theorem dX12_isHere_19 : decode cX12_isHere 19 = .ok (.getfield 7, 3) := by decide +kernel
theorem dX12_isHere_22 : decode cX12_isHere 22 = .ok (.aload_n 0, 1) := by decide +kernel
theorem dX12_isHere_23 : decode cX12_isHere 23 = .ok (.getfield 127, 3) := by decide +kernel
theorem dX12_isHere_26 : decode cX12_isHere 26 = .ok (.baload, 1) := by decide +kernel
theorem dX12_isHere_27 : decode cX12_isHere 27 = .ok (.iload_n 1, 1) := by decide +kernel
theorem dX12_isHere_28 : decode cX12_isHere 28 = .ok (.if_icmp .ne 7, 3) := by decide +kernel
theorem dX12_isHere_31 : decode cX12_isHere 31 = .ok (.iconst 1, 1) := by decide +kernel
theorem dX12_isHere_32 : decode cX12_isHere 32 = .ok (.goto 4, 3) := by decide +kernel
theorem dX12_isHere_35 : decode cX12_isHere 35 = .ok (.iconst 0, 1) := by decide +kernel
theorem dX12_isHere_36 : decode cX12_isHere 36 = .ok (.ireturn, 1) := by decide +kernel
theorem dX12_takes_0 : decode cX12_takes 0 = .ok (.aload_n 0, 1) := by decide +kernel
theorem dX12_takes_1 : decode cX12_takes 1 = .ok (.iload_n 1, 1) := by decide +kernel
theorem dX12_takes_2 : decode cX12_takes 2 = .ok (.invokevirtual 130, 3) := by decide +kernel
theorem dX12_takes_5 : decode cX12_takes 5 = .ok (.ifCond .eq 16, 3) := by decide +kernel
theorem dX12_takes_8 : decode cX12_takes 8 = .ok (.aload_n 0, 1) := by decide +kernel
theorem dX12_takes_9 : decode cX12_takes 9 = .ok (.dup, 1) := by decide +kernel
theorem dX12_takes_10 : decode cX12_takes 10 = .ok (.getfield 127, 3) := by decide +kernel
theorem dX12_takes_13 : decode cX12_takes 13 = .ok (.iconst 1, 1) := by decide +kernel
theorem dX12_takes_14 : decode cX12_takes 14 = .ok (.iadd, 1) := by decide +kernel
theorem dX12_takes_15 : decode cX12_takes 15 = .ok (.putfield 127, 3) := by decide +kernel
theorem dX12_takes_18 : decode cX12_takes 18 = .ok (.goto 18, 3) := by decide +kernel
theorem dX12_takes_21 : decode cX12_takes 21 = .ok (.aload_n 0, 1) := by decide +kernel
theorem dX12_takes_22 : decode cX12_takes 22 = .ok (.getfield 124, 3) := by decide +kernel
theorem dX12_takes_25 : decode cX12_takes 25 = .ok (.ifCond .ge 11, 3) := by decide +kernel
theorem dX12_takes_28 : decode cX12_takes 28 = .ok (.aload_n 0, 1) := by decide +kernel
theorem dX12_takes_29 : decode cX12_takes 29 = .ok (.aload_n 0, 1) := by decide +kernel
theorem dX12_takes_30 : decode cX12_takes 30 = .ok (.getfield 127, 3) := by decide +kernel
theorem dX12_takes_33 : decode cX12_takes 33 = .ok (.putfield 124, 3) := by decide +kernel
theorem dX12_takes_36 : decode cX12_takes 36 = .ok (.return_, 1) := by decide +kernel
theorem dX12_digit_0 : decode cX12_digit 0 = .ok (.aload_n 0, 1) := by decide +kernel
theorem dX12_digit_1 : decode cX12_digit 1 = .ok (.getfield 124, 3) := by decide +kernel
theorem dX12_digit_4 : decode cX12_digit 4 = .ok (.ifCond .lt 5, 3) := by decide +kernel
theorem dX12_digit_7 : decode cX12_digit 7 = .ok (.iconst 0, 1) := by decide +kernel
theorem dX12_digit_8 : decode cX12_digit 8 = .ok (.ireturn, 1) := by decide +kernel
theorem dX12_digit_9 : decode cX12_digit 9 = .ok (.aload_n 0, 1) := by decide +kernel
theorem dX12_digit_10 : decode cX12_digit 10 = .ok (.getfield 127, 3) := by decide +kernel
theorem dX12_digit_13 : decode cX12_digit 13 = .ok (.aload_n 0, 1) := by decide +kernel
theorem dX12_digit_14 : decode cX12_digit 14 = .ok (.getfield 114, 3) := by decide +kernel
theorem dX12_digit_17 : decode cX12_digit 17 = .ok (.if_icmp .ge 18, 3) := by decide +kernel
theorem dX12_digit_20 : decode cX12_digit 20 = .ok (.aload_n 0, 1) := by decide +kernel
theorem dX12_digit_21 : decode cX12_digit 21 = .ok (.getfield 7, 3) := by decide +kernel
theorem dX12_digit_24 : decode cX12_digit 24 = .ok (.aload_n 0, 1) := by decide +kernel
theorem dX12_digit_25 : decode cX12_digit 25 = .ok (.getfield 127, 3) := by decide +kernel
theorem dX12_digit_28 : decode cX12_digit 28 = .ok (.baload, 1) := by decide +kernel
theorem dX12_digit_29 : decode cX12_digit 29 = .ok (.bipush 48, 2) := by decide +kernel
theorem dX12_digit_31 : decode cX12_digit 31 = .ok (.isub, 1) := by decide +kernel
theorem dX12_digit_32 : decode cX12_digit 32 = .ok (.goto 4, 3) := by decide +kernel
theorem dX12_digit_35 : decode cX12_digit 35 = .ok (.iconst (-1), 1) := by decide +kernel
theorem dX12_digit_36 : decode cX12_digit 36 = .ok (.istore_n 1, 1) := by decide +kernel
theorem dX12_digit_37 : decode cX12_digit 37 = .ok (.iload_n 1, 1) := by decide +kernel
theorem dX12_digit_38 : decode cX12_digit 38 = .ok (.iconst 0, 1) := by decide +kernel
theorem dX12_digit_39 : decode cX12_digit 39 = .ok (.bipush 9, 2) := by decide +kernel
theorem dX12_digit_41 : decode cX12_digit 41 = .ok (.invokestatic 110, 3) := by decide +kernel
theorem dX12_digit_44 : decode cX12_digit 44 = .ok (.ifCond .ne 13, 3) := by decide +kernel
theorem dX12_digit_47 : decode cX12_digit 47 = .ok (.aload_n 0, 1) := by decide +kernel
theorem dX12_digit_48 : decode cX12_digit 48 = .ok (.aload_n 0, 1) := by decide +kernel
theorem dX12_digit_49 : decode cX12_digit 49 = .ok (.getfield 127, 3) := by decide +kernel
theorem dX12_digit_52 : decode cX12_digit 52 = .ok (.putfield 124, 3) := by decide +kernel
theorem dX12_digit_55 : decode cX12_digit 55 = .ok (.iconst 0, 1) := by decide +kernel
theorem dX12_digit_56 : decode cX12_digit 56 = .ok (.ireturn, 1) := by decide +kernel
theorem dX12_digit_57 : decode cX12_digit 57 = .ok (.aload_n 0, 1) := by decide +kernel
theorem dX12_digit_58 : decode cX12_digit 58 = .ok (.dup, 1) := by decide +kernel
theorem dX12_digit_59 : decode cX12_digit 59 = .ok (.getfield 127, 3) := by decide +kernel
theorem dX12_digit_62 : decode cX12_digit 62 = .ok (.iconst 1, 1) := by decide +kernel
theorem dX12_digit_63 : decode cX12_digit 63 = .ok (.iadd, 1) := by decide +kernel
theorem dX12_digit_64 : decode cX12_digit 64 = .ok (.putfield 127, 3) := by decide +kernel
theorem dX12_digit_67 : decode cX12_digit 67 = .ok (.iload_n 1, 1) := by decide +kernel
theorem dX12_digit_68 : decode cX12_digit 68 = .ok (.ireturn, 1) := by decide +kernel
theorem dX12_readNumber_0 : decode cX12_readNumber 0 = .ok (.aload_n 0, 1) := by decide +kernel
theorem dX12_readNumber_1 : decode cX12_readNumber 1 = .ok (.getfield 127, 3) := by decide +kernel
theorem dX12_readNumber_4 : decode cX12_readNumber 4 = .ok (.istore_n 1, 1) := by decide +kernel
theorem dX12_readNumber_5 : decode cX12_readNumber 5 = .ok (.iconst 0, 1) := by decide +kernel
theorem dX12_readNumber_6 : decode cX12_readNumber 6 = .ok (.istore_n 2, 1) := by decide +kernel
theorem dX12_readNumber_7 : decode cX12_readNumber 7 = .ok (.aload_n 0, 1) := by decide +kernel
theorem dX12_readNumber_8 : decode cX12_readNumber 8 = .ok (.getfield 124, 3) := by decide +kernel
theorem dX12_readNumber_11 : decode cX12_readNumber 11 = .ok (.ifCond .ge 74, 3) := by decide +kernel
theorem dX12_readNumber_14 : decode cX12_readNumber 14 = .ok (.aload_n 0, 1) := by decide +kernel
theorem dX12_readNumber_15 : decode cX12_readNumber 15 = .ok (.getfield 127, 3) := by decide +kernel
theorem dX12_readNumber_18 : decode cX12_readNumber 18 = .ok (.aload_n 0, 1) := by decide +kernel
theorem dX12_readNumber_19 : decode cX12_readNumber 19 = .ok (.getfield 114, 3) := by decide +kernel
theorem dX12_readNumber_22 : decode cX12_readNumber 22 = .ok (.if_icmp .ge 63, 3) := by decide +kernel
theorem dX12_readNumber_25 : decode cX12_readNumber 25 = .ok (.aload_n 0, 1) := by decide +kernel
theorem dX12_readNumber_26 : decode cX12_readNumber 26 = .ok (.getfield 127, 3) := by decide +kernel
theorem dX12_readNumber_29 : decode cX12_readNumber 29 = .ok (.iload_n 1, 1) := by decide +kernel
theorem dX12_readNumber_30 : decode cX12_readNumber 30 = .ok (.iconst 2, 1) := by decide +kernel
theorem dX12_readNumber_31 : decode cX12_readNumber 31 = .ok (.iadd, 1) := by decide +kernel
theorem dX12_readNumber_32 : decode cX12_readNumber 32 = .ok (.if_icmp .ge 53, 3) := by decide +kernel
theorem dX12_readNumber_35 : decode cX12_readNumber 35 = .ok (.aload_n 0, 1) := by decide +kernel
theorem dX12_readNumber_36 : decode cX12_readNumber 36 = .ok (.getfield 7, 3) := by decide +kernel
theorem dX12_readNumber_39 : decode cX12_readNumber 39 = .ok (.aload_n 0, 1) := by decide +kernel
theorem dX12_readNumber_40 : decode cX12_readNumber 40 = .ok (.getfield 127, 3) := by decide +kernel
theorem dX12_readNumber_43 : decode cX12_readNumber 43 = .ok (.baload, 1) := by decide +kernel
theorem dX12_readNumber_44 : decode cX12_readNumber 44 = .ok (.bipush 48, 2) := by decide +kernel
theorem dX12_readNumber_46 : decode cX12_readNumber 46 = .ok (.bipush 57, 2) := by decide +kernel
theorem dX12_readNumber_48 : decode cX12_readNumber 48 = .ok (.invokestatic 110, 3) := by decide +kernel
theorem dX12_readNumber_51 : decode cX12_readNumber 51 = .ok (.ifCond .eq 34, 3) := by decide +kernel
theorem dX12_readNumber_54 : decode cX12_readNumber 54 = .ok (.bipush 10, 2) := by decide +kernel
theorem dX12_readNumber_56 : decode cX12_readNumber 56 = .ok (.iload_n 2, 1) := by decide +kernel
theorem dX12_readNumber_57 : decode cX12_readNumber 57 = .ok (.imul, 1) := by decide +kernel
theorem dX12_readNumber_58 : decode cX12_readNumber 58 = .ok (.aload_n 0, 1) := by decide +kernel
theorem dX12_readNumber_59 : decode cX12_readNumber 59 = .ok (.getfield 7, 3) := by decide +kernel
theorem dX12_readNumber_62 : decode cX12_readNumber 62 = .ok (.aload_n 0, 1) := by decide +kernel
theorem dX12_readNumber_63 : decode cX12_readNumber 63 = .ok (.getfield 127, 3) := by decide +kernel
theorem dX12_readNumber_66 : decode cX12_readNumber 66 = .ok (.baload, 1) := by decide +kernel
theorem dX12_readNumber_67 : decode cX12_readNumber 67 = .ok (.iadd, 1) := by decide +kernel
theorem dX12_readNumber_68 : decode cX12_readNumber 68 = .ok (.bipush 48, 2) := by decide +kernel
theorem dX12_readNumber_70 : decode cX12_readNumber 70 = .ok (.isub, 1) := by decide +kernel
theorem dX12_readNumber_71 : decode cX12_readNumber 71 = .ok (.istore_n 2, 1) := by decide +kernel
theorem dX12_readNumber_72 : decode cX12_readNumber 72 = .ok (.aload_n 0, 1) := by decide +kernel
theorem dX12_readNumber_73 : decode cX12_readNumber 73 = .ok (.dup, 1) := by decide +kernel
theorem dX12_readNumber_74 : decode cX12_readNumber 74 = .ok (.getfield 127, 3) := by decide +kernel
theorem dX12_readNumber_77 : decode cX12_readNumber 77 = .ok (.iconst 1, 1) := by decide +kernel
theorem dX12_readNumber_78 : decode cX12_readNumber 78 = .ok (.iadd, 1) := by decide +kernel
theorem dX12_readNumber_79 : decode cX12_readNumber 79 = .ok (.putfield 127, 3) := by decide +kernel
theorem dX12_readNumber_82 : decode cX12_readNumber 82 = .ok (.goto (-75), 3) := by decide +kernel
theorem dX12_readNumber_85 : decode cX12_readNumber 85 = .ok (.aload_n 0, 1) := by decide +kernel
theorem dX12_readNumber_86 : decode cX12_readNumber 86 = .ok (.getfield 124, 3) := by decide +kernel
theorem dX12_readNumber_89 : decode cX12_readNumber 89 = .ok (.ifCond .ge 22, 3) := by decide +kernel
theorem dX12_readNumber_92 : decode cX12_readNumber 92 = .ok (.aload_n 0, 1) := by decide +kernel
theorem dX12_readNumber_93 : decode cX12_readNumber 93 = .ok (.getfield 127, 3) := by decide +kernel
theorem dX12_readNumber_96 : decode cX12_readNumber 96 = .ok (.iload_n 1, 1) := by decide +kernel
theorem dX12_readNumber_97 : decode cX12_readNumber 97 = .ok (.if_icmp .eq 9, 3) := by decide +kernel
theorem dX12_readNumber_100 : decode cX12_readNumber 100 = .ok (.iload_n 2, 1) := by decide +kernel
theorem dX12_readNumber_101 : decode cX12_readNumber 101 = .ok (.bipush 30, 2) := by decide +kernel
theorem dX12_readNumber_103 : decode cX12_readNumber 103 = .ok (.if_icmp .le 8, 3) := by decide +kernel
theorem dX12_readNumber_106 : decode cX12_readNumber 106 = .ok (.aload_n 0, 1) := by decide +kernel
theorem dX12_readNumber_107 : decode cX12_readNumber 107 = .ok (.iload_n 1, 1) := by decide +kernel
theorem dX12_readNumber_108 : decode cX12_readNumber 108 = .ok (.putfield 124, 3) := by decide +kernel
theorem dX12_readNumber_111 : decode cX12_readNumber 111 = .ok (.iload_n 2, 1) := by decide +kernel
theorem dX12_readNumber_112 : decode cX12_readNumber 112 = .ok (.ireturn, 1) := by decide +kernel
theorem dX12_readCell_0 : decode cX12_readCell 0 = .ok (.bipush 36, 2) := by decide +kernel
theorem dX12_readCell_2 : decode cX12_readCell 2 = .ok (.iload_n 1, 1) := by decide +kernel
theorem dX12_readCell_3 : decode cX12_readCell 3 = .ok (.imul, 1) := by decide +kernel
theorem dX12_readCell_4 : decode cX12_readCell 4 = .ok (.iconst 3, 1) := by decide +kernel
theorem dX12_readCell_5 : decode cX12_readCell 5 = .ok (.aload_n 0, 1) := by decide +kernel
theorem dX12_readCell_6 : decode cX12_readCell 6 = .ok (.getfield 13, 3) := by decide +kernel
theorem dX12_readCell_9 : decode cX12_readCell 9 = .ok (.iload_n 1, 1) := by decide +kernel
theorem dX12_readCell_10 : decode cX12_readCell 10 = .ok (.iaload, 1) := by decide +kernel
theorem dX12_readCell_11 : decode cX12_readCell 11 = .ok (.imul, 1) := by decide +kernel
theorem dX12_readCell_12 : decode cX12_readCell 12 = .ok (.iadd, 1) := by decide +kernel
theorem dX12_readCell_13 : decode cX12_readCell 13 = .ok (.istore_n 2, 1) := by decide +kernel
theorem dX12_readCell_14 : decode cX12_readCell 14 = .ok (.aload_n 0, 1) := by decide +kernel
theorem dX12_readCell_15 : decode cX12_readCell 15 = .ok (.getfield 20, 3) := by decide +kernel
theorem dX12_readCell_18 : decode cX12_readCell 18 = .ok (.iload_n 2, 1) := by decide +kernel
theorem dX12_readCell_19 : decode cX12_readCell 19 = .ok (.aload_n 0, 1) := by decide +kernel
theorem dX12_readCell_20 : decode cX12_readCell 20 = .ok (.invokevirtual 133, 3) := by decide +kernel
theorem dX12_readCell_23 : decode cX12_readCell 23 = .ok (.iastore, 1) := by decide +kernel
theorem dX12_readCell_24 : decode cX12_readCell 24 = .ok (.aload_n 0, 1) := by decide +kernel
theorem dX12_readCell_25 : decode cX12_readCell 25 = .ok (.bipush 44, 2) := by decide +kernel
theorem dX12_readCell_27 : decode cX12_readCell 27 = .ok (.invokevirtual 137, 3) := by decide +kernel
theorem dX12_readCell_30 : decode cX12_readCell 30 = .ok (.aload_n 0, 1) := by decide +kernel
theorem dX12_readCell_31 : decode cX12_readCell 31 = .ok (.getfield 20, 3) := by decide +kernel
theorem dX12_readCell_34 : decode cX12_readCell 34 = .ok (.iload_n 2, 1) := by decide +kernel
theorem dX12_readCell_35 : decode cX12_readCell 35 = .ok (.iconst 1, 1) := by decide +kernel
theorem dX12_readCell_36 : decode cX12_readCell 36 = .ok (.iadd, 1) := by decide +kernel
theorem dX12_readCell_37 : decode cX12_readCell 37 = .ok (.aload_n 0, 1) := by decide +kernel
theorem dX12_readCell_38 : decode cX12_readCell 38 = .ok (.invokevirtual 133, 3) := by decide +kernel
theorem dX12_readCell_41 : decode cX12_readCell 41 = .ok (.iastore, 1) := by decide +kernel
theorem dX12_readCell_42 : decode cX12_readCell 42 = .ok (.aload_n 0, 1) := by decide +kernel
theorem dX12_readCell_43 : decode cX12_readCell 43 = .ok (.bipush 44, 2) := by decide +kernel
theorem dX12_readCell_45 : decode cX12_readCell 45 = .ok (.invokevirtual 137, 3) := by decide +kernel
theorem dX12_readCell_48 : decode cX12_readCell 48 = .ok (.aload_n 0, 1) := by decide +kernel
theorem dX12_readCell_49 : decode cX12_readCell 49 = .ok (.getfield 20, 3) := by decide +kernel
theorem dX12_readCell_52 : decode cX12_readCell 52 = .ok (.iload_n 2, 1) := by decide +kernel
theorem dX12_readCell_53 : decode cX12_readCell 53 = .ok (.iconst 2, 1) := by decide +kernel
theorem dX12_readCell_54 : decode cX12_readCell 54 = .ok (.iadd, 1) := by decide +kernel
theorem dX12_readCell_55 : decode cX12_readCell 55 = .ok (.aload_n 0, 1) := by decide +kernel
theorem dX12_readCell_56 : decode cX12_readCell 56 = .ok (.invokevirtual 141, 3) := by decide +kernel
theorem dX12_readCell_59 : decode cX12_readCell 59 = .ok (.iastore, 1) := by decide +kernel
theorem dX12_readCell_60 : decode cX12_readCell 60 = .ok (.aload_n 0, 1) := by decide +kernel
theorem dX12_readCell_61 : decode cX12_readCell 61 = .ok (.getfield 13, 3) := by decide +kernel
theorem dX12_readCell_64 : decode cX12_readCell 64 = .ok (.iload_n 1, 1) := by decide +kernel
theorem dX12_readCell_65 : decode cX12_readCell 65 = .ok (.dup2, 1) := by decide +kernel
theorem dX12_readCell_66 : decode cX12_readCell 66 = .ok (.iaload, 1) := by decide +kernel
theorem dX12_readCell_67 : decode cX12_readCell 67 = .ok (.iconst 1, 1) := by decide +kernel
theorem dX12_readCell_68 : decode cX12_readCell 68 = .ok (.iadd, 1) := by decide +kernel
theorem dX12_readCell_69 : decode cX12_readCell 69 = .ok (.iastore, 1) := by decide +kernel
theorem dX12_readCell_70 : decode cX12_readCell 70 = .ok (.return_, 1) := by decide +kernel
theorem dX12_place_0 : decode cX12_place 0 = .ok (.aload_n 0, 1) := by decide +kernel
theorem dX12_place_1 : decode cX12_place 1 = .ok (.getfield 117, 3) := by decide +kernel
theorem dX12_place_4 : decode cX12_place 4 = .ok (.bipush 6, 2) := by decide +kernel
theorem dX12_place_6 : decode cX12_place 6 = .ok (.if_icmp .ne 6, 3) := by decide +kernel
theorem dX12_place_9 : decode cX12_place 9 = .ok (.bipush (-3), 2) := by decide +kernel
theorem dX12_place_11 : decode cX12_place 11 = .ok (.ireturn, 1) := by decide +kernel
theorem dX12_place_12 : decode cX12_place 12 = .ok (.aload_n 0, 1) := by decide +kernel
theorem dX12_place_13 : decode cX12_place 13 = .ok (.iconst 0, 1) := by decide +kernel
theorem dX12_place_14 : decode cX12_place 14 = .ok (.putfield 127, 3) := by decide +kernel
theorem dX12_place_17 : decode cX12_place 17 = .ok (.aload_n 0, 1) := by decide +kernel
theorem dX12_place_18 : decode cX12_place 18 = .ok (.iconst (-1), 1) := by decide +kernel
theorem dX12_place_19 : decode cX12_place 19 = .ok (.putfield 124, 3) := by decide +kernel
theorem dX12_place_22 : decode cX12_place 22 = .ok (.aload_n 0, 1) := by decide +kernel
theorem dX12_place_23 : decode cX12_place 23 = .ok (.getfield 117, 3) := by decide +kernel
theorem dX12_place_26 : decode cX12_place 26 = .ok (.istore_n 1, 1) := by decide +kernel
theorem dX12_place_27 : decode cX12_place 27 = .ok (.aload_n 0, 1) := by decide +kernel
theorem dX12_place_28 : decode cX12_place 28 = .ok (.getfield 13, 3) := by decide +kernel
theorem dX12_place_31 : decode cX12_place 31 = .ok (.iload_n 1, 1) := by decide +kernel
theorem dX12_place_32 : decode cX12_place 32 = .ok (.iconst 0, 1) := by decide +kernel
theorem dX12_place_33 : decode cX12_place 33 = .ok (.iastore, 1) := by decide +kernel
theorem dX12_place_34 : decode cX12_place 34 = .ok (.aload_n 0, 1) := by decide +kernel
theorem dX12_place_35 : decode cX12_place 35 = .ok (.iload_n 1, 1) := by decide +kernel
theorem dX12_place_36 : decode cX12_place 36 = .ok (.invokevirtual 144, 3) := by decide +kernel
theorem dX12_place_39 : decode cX12_place 39 = .ok (.aload_n 0, 1) := by decide +kernel
theorem dX12_place_40 : decode cX12_place 40 = .ok (.bipush 59, 2) := by decide +kernel
theorem dX12_place_42 : decode cX12_place 42 = .ok (.invokevirtual 130, 3) := by decide +kernel
theorem dX12_place_45 : decode cX12_place 45 = .ok (.ifCond .eq 32, 3) := by decide +kernel
theorem dX12_place_48 : decode cX12_place 48 = .ok (.aload_n 0, 1) := by decide +kernel
theorem dX12_place_49 : decode cX12_place 49 = .ok (.getfield 13, 3) := by decide +kernel
theorem dX12_place_52 : decode cX12_place 52 = .ok (.iload_n 1, 1) := by decide +kernel
theorem dX12_place_53 : decode cX12_place 53 = .ok (.iaload, 1) := by decide +kernel
theorem dX12_place_54 : decode cX12_place 54 = .ok (.bipush 12, 2) := by decide +kernel
theorem dX12_place_56 : decode cX12_place 56 = .ok (.if_icmp .ge 21, 3) := by decide +kernel
theorem dX12_place_59 : decode cX12_place 59 = .ok (.aload_n 0, 1) := by decide +kernel
theorem dX12_place_60 : decode cX12_place 60 = .ok (.dup, 1) := by decide +kernel
theorem dX12_place_61 : decode cX12_place 61 = .ok (.getfield 127, 3) := by decide +kernel
theorem dX12_place_64 : decode cX12_place 64 = .ok (.iconst 1, 1) := by decide +kernel
theorem dX12_place_65 : decode cX12_place 65 = .ok (.iadd, 1) := by decide +kernel
theorem dX12_place_66 : decode cX12_place 66 = .ok (.putfield 127, 3) := by decide +kernel
theorem dX12_place_69 : decode cX12_place 69 = .ok (.aload_n 0, 1) := by decide +kernel
theorem dX12_place_70 : decode cX12_place 70 = .ok (.iload_n 1, 1) := by decide +kernel
theorem dX12_place_71 : decode cX12_place 71 = .ok (.invokevirtual 144, 3) := by decide +kernel
theorem dX12_place_74 : decode cX12_place 74 = .ok (.goto (-35), 3) := by decide +kernel
theorem dX12_place_77 : decode cX12_place 77 = .ok (.aload_n 0, 1) := by decide +kernel
theorem dX12_place_78 : decode cX12_place 78 = .ok (.bipush 47, 2) := by decide +kernel
theorem dX12_place_80 : decode cX12_place 80 = .ok (.invokevirtual 137, 3) := by decide +kernel
theorem dX12_place_83 : decode cX12_place 83 = .ok (.aload_n 0, 1) := by decide +kernel
theorem dX12_place_84 : decode cX12_place 84 = .ok (.getfield 17, 3) := by decide +kernel
theorem dX12_place_87 : decode cX12_place 87 = .ok (.iload_n 1, 1) := by decide +kernel
theorem dX12_place_88 : decode cX12_place 88 = .ok (.aload_n 0, 1) := by decide +kernel
theorem dX12_place_89 : decode cX12_place 89 = .ok (.invokevirtual 141, 3) := by decide +kernel
theorem dX12_place_92 : decode cX12_place 92 = .ok (.iastore, 1) := by decide +kernel
theorem dX12_place_93 : decode cX12_place 93 = .ok (.aload_n 0, 1) := by decide +kernel
theorem dX12_place_94 : decode cX12_place 94 = .ok (.getfield 124, 3) := by decide +kernel
theorem dX12_place_97 : decode cX12_place 97 = .ok (.ifCond .ge 22, 3) := by decide +kernel
theorem dX12_place_100 : decode cX12_place 100 = .ok (.aload_n 0, 1) := by decide +kernel
theorem dX12_place_101 : decode cX12_place 101 = .ok (.getfield 127, 3) := by decide +kernel
theorem dX12_place_104 : decode cX12_place 104 = .ok (.aload_n 0, 1) := by decide +kernel
theorem dX12_place_105 : decode cX12_place 105 = .ok (.getfield 114, 3) := by decide +kernel
theorem dX12_place_108 : decode cX12_place 108 = .ok (.if_icmp .ge 11, 3) := by decide +kernel
theorem dX12_place_111 : decode cX12_place 111 = .ok (.aload_n 0, 1) := by decide +kernel
theorem dX12_place_112 : decode cX12_place 112 = .ok (.aload_n 0, 1) := by decide +kernel
theorem dX12_place_113 : decode cX12_place 113 = .ok (.getfield 127, 3) := by decide +kernel
theorem dX12_place_116 : decode cX12_place 116 = .ok (.putfield 124, 3) := by decide +kernel
theorem dX12_place_119 : decode cX12_place 119 = .ok (.aload_n 0, 1) := by decide +kernel
theorem dX12_place_120 : decode cX12_place 120 = .ok (.iconst 0, 1) := by decide +kernel
theorem dX12_place_121 : decode cX12_place 121 = .ok (.putfield 114, 3) := by decide +kernel
theorem dX12_place_124 : decode cX12_place 124 = .ok (.aload_n 0, 1) := by decide +kernel
theorem dX12_place_125 : decode cX12_place 125 = .ok (.getfield 124, 3) := by decide +kernel
theorem dX12_place_128 : decode cX12_place 128 = .ok (.ifCond .lt 11, 3) := by decide +kernel
theorem dX12_place_131 : decode cX12_place 131 = .ok (.bipush (-100), 2) := by decide +kernel
theorem dX12_place_133 : decode cX12_place 133 = .ok (.aload_n 0, 1) := by decide +kernel
theorem dX12_place_134 : decode cX12_place 134 = .ok (.getfield 124, 3) := by decide +kernel
theorem dX12_place_137 : decode cX12_place 137 = .ok (.isub, 1) := by decide +kernel
theorem dX12_place_138 : decode cX12_place 138 = .ok (.ireturn, 1) := by decide +kernel
theorem dX12_place_139 : decode cX12_place 139 = .ok (.aload_n 0, 1) := by decide +kernel
theorem dX12_place_140 : decode cX12_place 140 = .ok (.dup, 1) := by decide +kernel
theorem dX12_place_141 : decode cX12_place 141 = .ok (.getfield 117, 3) := by decide +kernel
theorem dX12_place_144 : decode cX12_place 144 = .ok (.iconst 1, 1) := by decide +kernel
theorem dX12_place_145 : decode cX12_place 145 = .ok (.iadd, 1) := by decide +kernel
theorem dX12_place_146 : decode cX12_place 146 = .ok (.putfield 117, 3) := by decide +kernel
theorem dX12_place_149 : decode cX12_place 149 = .ok (.iload_n 1, 1) := by decide +kernel
theorem dX12_place_150 : decode cX12_place 150 = .ok (.ireturn, 1) := by decide +kernel
theorem dX12_valueAt_0 : decode cX12_valueAt 0 = .ok (.iload_n 1, 1) := by decide +kernel
theorem dX12_valueAt_1 : decode cX12_valueAt 1 = .ok (.ifCond .ne 12, 3) := by decide +kernel
theorem dX12_valueAt_4 : decode cX12_valueAt 4 = .ok (.aload_n 0, 1) := by decide +kernel
theorem dX12_valueAt_5 : decode cX12_valueAt 5 = .ok (.getfield 20, 3) := by decide +kernel
theorem dX12_valueAt_8 : decode cX12_valueAt 8 = .ok (.iload_n 2, 1) := by decide +kernel
theorem dX12_valueAt_9 : decode cX12_valueAt 9 = .ok (.iaload, 1) := by decide +kernel
theorem dX12_valueAt_10 : decode cX12_valueAt 10 = .ok (.goto 23, 3) := by decide +kernel
theorem dX12_valueAt_13 : decode cX12_valueAt 13 = .ok (.iload_n 1, 1) := by decide +kernel
theorem dX12_valueAt_14 : decode cX12_valueAt 14 = .ok (.iconst 1, 1) := by decide +kernel
theorem dX12_valueAt_15 : decode cX12_valueAt 15 = .ok (.if_icmp .ne 12, 3) := by decide +kernel
theorem dX12_valueAt_18 : decode cX12_valueAt 18 = .ok (.aload_n 0, 1) := by decide +kernel
theorem dX12_valueAt_19 : decode cX12_valueAt 19 = .ok (.getfield 67, 3) := by decide +kernel
theorem dX12_valueAt_22 : decode cX12_valueAt 22 = .ok (.iload_n 2, 1) := by decide +kernel
theorem dX12_valueAt_23 : decode cX12_valueAt 23 = .ok (.iaload, 1) := by decide +kernel
theorem dX12_valueAt_24 : decode cX12_valueAt 24 = .ok (.goto 9, 3) := by decide +kernel
theorem dX12_valueAt_27 : decode cX12_valueAt 27 = .ok (.aload_n 0, 1) := by decide +kernel
theorem dX12_valueAt_28 : decode cX12_valueAt 28 = .ok (.getfield 70, 3) := by decide +kernel
theorem dX12_valueAt_31 : decode cX12_valueAt 31 = .ok (.iload_n 2, 1) := by decide +kernel
theorem dX12_valueAt_32 : decode cX12_valueAt 32 = .ok (.iaload, 1) := by decide +kernel
theorem dX12_valueAt_33 : decode cX12_valueAt 33 = .ok (.ireturn, 1) := by decide +kernel
theorem dX12_lays_0 : decode cX12_lays 0 = .ok (.iload_n 1, 1) := by decide +kernel
theorem dX12_lays_1 : decode cX12_lays 1 = .ok (.ifCond .ne 13, 3) := by decide +kernel
theorem dX12_lays_4 : decode cX12_lays 4 = .ok (.aload_n 0, 1) := by decide +kernel
theorem dX12_lays_5 : decode cX12_lays 5 = .ok (.getfield 20, 3) := by decide +kernel
theorem dX12_lays_8 : decode cX12_lays 8 = .ok (.iload_n 2, 1) := by decide +kernel
theorem dX12_lays_9 : decode cX12_lays 9 = .ok (.iload_n 3, 1) := by decide +kernel
theorem dX12_lays_10 : decode cX12_lays 10 = .ok (.iastore, 1) := by decide +kernel
theorem dX12_lays_11 : decode cX12_lays 11 = .ok (.goto 25, 3) := by decide +kernel
theorem dX12_lays_14 : decode cX12_lays 14 = .ok (.iload_n 1, 1) := by decide +kernel
theorem dX12_lays_15 : decode cX12_lays 15 = .ok (.iconst 1, 1) := by decide +kernel
theorem dX12_lays_16 : decode cX12_lays 16 = .ok (.if_icmp .ne 13, 3) := by decide +kernel
theorem dX12_lays_19 : decode cX12_lays 19 = .ok (.aload_n 0, 1) := by decide +kernel
theorem dX12_lays_20 : decode cX12_lays 20 = .ok (.getfield 67, 3) := by decide +kernel
theorem dX12_lays_23 : decode cX12_lays 23 = .ok (.iload_n 2, 1) := by decide +kernel
theorem dX12_lays_24 : decode cX12_lays 24 = .ok (.iload_n 3, 1) := by decide +kernel
theorem dX12_lays_25 : decode cX12_lays 25 = .ok (.iastore, 1) := by decide +kernel
theorem dX12_lays_26 : decode cX12_lays 26 = .ok (.goto 10, 3) := by decide +kernel
theorem dX12_lays_29 : decode cX12_lays 29 = .ok (.aload_n 0, 1) := by decide +kernel
theorem dX12_lays_30 : decode cX12_lays 30 = .ok (.getfield 70, 3) := by decide +kernel
theorem dX12_lays_33 : decode cX12_lays 33 = .ok (.iload_n 2, 1) := by decide +kernel
theorem dX12_lays_34 : decode cX12_lays 34 = .ok (.iload_n 3, 1) := by decide +kernel
theorem dX12_lays_35 : decode cX12_lays 35 = .ok (.iastore, 1) := by decide +kernel
theorem dX12_lays_36 : decode cX12_lays 36 = .ok (.return_, 1) := by decide +kernel
theorem dX12_changes_0 : decode cX12_changes 0 = .ok (.aload_n 0, 1) := by decide +kernel
theorem dX12_changes_1 : decode cX12_changes 1 = .ok (.iload_n 1, 1) := by decide +kernel
theorem dX12_changes_2 : decode cX12_changes 2 = .ok (.iload_n 2, 1) := by decide +kernel
theorem dX12_changes_3 : decode cX12_changes 3 = .ok (.invokevirtual 147, 3) := by decide +kernel
theorem dX12_changes_6 : decode cX12_changes 6 = .ok (.istore 4, 2) := by decide +kernel
theorem dX12_changes_8 : decode cX12_changes 8 = .ok (.iload 4, 2) := by decide +kernel
theorem dX12_changes_10 : decode cX12_changes 10 = .ok (.iload_n 3, 1) := by decide +kernel
theorem dX12_changes_11 : decode cX12_changes 11 = .ok (.if_icmp .ne 6, 3) := by decide +kernel
theorem dX12_changes_14 : decode cX12_changes 14 = .ok (.iload 4, 2) := by decide +kernel
theorem dX12_changes_16 : decode cX12_changes 16 = .ok (.ireturn, 1) := by decide +kernel
theorem dX12_changes_17 : decode cX12_changes 17 = .ok (.aload_n 0, 1) := by decide +kernel
theorem dX12_changes_18 : decode cX12_changes 18 = .ok (.iconst 0, 1) := by decide +kernel
theorem dX12_changes_19 : decode cX12_changes 19 = .ok (.putfield 151, 3) := by decide +kernel
theorem dX12_changes_22 : decode cX12_changes 22 = .ok (.aload_n 0, 1) := by decide +kernel
theorem dX12_changes_23 : decode cX12_changes 23 = .ok (.getfield 154, 3) := by decide +kernel
theorem dX12_changes_26 : decode cX12_changes 26 = .ok (.bipush 40, 2) := by decide +kernel
theorem dX12_changes_28 : decode cX12_changes 28 = .ok (.if_icmp .ne 93, 3) := by decide +kernel
theorem dX12_changes_31 : decode cX12_changes 31 = .ok (.iconst 1, 1) := by decide +kernel
theorem dX12_changes_32 : decode cX12_changes 32 = .ok (.istore 5, 2) := by decide +kernel
theorem dX12_changes_34 : decode cX12_changes 34 = .ok (.iload 5, 2) := by decide +kernel
theorem dX12_changes_36 : decode cX12_changes 36 = .ok (.bipush 40, 2) := by decide +kernel
theorem dX12_changes_38 : decode cX12_changes 38 = .ok (.if_icmp .ge 73, 3) := by decide +kernel
theorem dX12_changes_41 : decode cX12_changes 41 = .ok (.aload_n 0, 1) := by decide +kernel
theorem dX12_changes_42 : decode cX12_changes 42 = .ok (.getfield 23, 3) := by decide +kernel
theorem dX12_changes_45 : decode cX12_changes 45 = .ok (.iload 5, 2) := by decide +kernel
theorem dX12_changes_47 : decode cX12_changes 47 = .ok (.iconst 1, 1) := by decide +kernel
theorem dX12_changes_48 : decode cX12_changes 48 = .ok (.isub, 1) := by decide +kernel
theorem dX12_changes_49 : decode cX12_changes 49 = .ok (.aload_n 0, 1) := by decide +kernel
theorem dX12_changes_50 : decode cX12_changes 50 = .ok (.getfield 23, 3) := by decide +kernel
theorem dX12_changes_53 : decode cX12_changes 53 = .ok (.iload 5, 2) := by decide +kernel
theorem dX12_changes_55 : decode cX12_changes 55 = .ok (.iaload, 1) := by decide +kernel
theorem dX12_changes_56 : decode cX12_changes 56 = .ok (.iastore, 1) := by decide +kernel
theorem dX12_changes_57 : decode cX12_changes 57 = .ok (.aload_n 0, 1) := by decide +kernel
theorem dX12_changes_58 : decode cX12_changes 58 = .ok (.getfield 26, 3) := by decide +kernel
theorem dX12_changes_61 : decode cX12_changes 61 = .ok (.iload 5, 2) := by decide +kernel
theorem dX12_changes_63 : decode cX12_changes 63 = .ok (.iconst 1, 1) := by decide +kernel
theorem dX12_changes_64 : decode cX12_changes 64 = .ok (.isub, 1) := by decide +kernel
theorem dX12_changes_65 : decode cX12_changes 65 = .ok (.aload_n 0, 1) := by decide +kernel
theorem dX12_changes_66 : decode cX12_changes 66 = .ok (.getfield 26, 3) := by decide +kernel
theorem dX12_changes_69 : decode cX12_changes 69 = .ok (.iload 5, 2) := by decide +kernel
theorem dX12_changes_71 : decode cX12_changes 71 = .ok (.iaload, 1) := by decide +kernel
theorem dX12_changes_72 : decode cX12_changes 72 = .ok (.iastore, 1) := by decide +kernel
theorem dX12_changes_73 : decode cX12_changes 73 = .ok (.aload_n 0, 1) := by decide +kernel
theorem dX12_changes_74 : decode cX12_changes 74 = .ok (.getfield 29, 3) := by decide +kernel
theorem dX12_changes_77 : decode cX12_changes 77 = .ok (.iload 5, 2) := by decide +kernel
theorem dX12_changes_79 : decode cX12_changes 79 = .ok (.iconst 1, 1) := by decide +kernel
theorem dX12_changes_80 : decode cX12_changes 80 = .ok (.isub, 1) := by decide +kernel
theorem dX12_changes_81 : decode cX12_changes 81 = .ok (.aload_n 0, 1) := by decide +kernel
theorem dX12_changes_82 : decode cX12_changes 82 = .ok (.getfield 29, 3) := by decide +kernel
theorem dX12_changes_85 : decode cX12_changes 85 = .ok (.iload 5, 2) := by decide +kernel
theorem dX12_changes_87 : decode cX12_changes 87 = .ok (.iaload, 1) := by decide +kernel
theorem dX12_changes_88 : decode cX12_changes 88 = .ok (.iastore, 1) := by decide +kernel
theorem dX12_changes_89 : decode cX12_changes 89 = .ok (.aload_n 0, 1) := by decide +kernel
theorem dX12_changes_90 : decode cX12_changes 90 = .ok (.getfield 32, 3) := by decide +kernel
theorem dX12_changes_93 : decode cX12_changes 93 = .ok (.iload 5, 2) := by decide +kernel
theorem dX12_changes_95 : decode cX12_changes 95 = .ok (.iconst 1, 1) := by decide +kernel
theorem dX12_changes_96 : decode cX12_changes 96 = .ok (.isub, 1) := by decide +kernel
theorem dX12_changes_97 : decode cX12_changes 97 = .ok (.aload_n 0, 1) := by decide +kernel
theorem dX12_changes_98 : decode cX12_changes 98 = .ok (.getfield 32, 3) := by decide +kernel
theorem dX12_changes_101 : decode cX12_changes 101 = .ok (.iload 5, 2) := by decide +kernel
theorem dX12_changes_103 : decode cX12_changes 103 = .ok (.iaload, 1) := by decide +kernel
theorem dX12_changes_104 : decode cX12_changes 104 = .ok (.iastore, 1) := by decide +kernel
theorem dX12_changes_105 : decode cX12_changes 105 = .ok (.iinc 5 1, 3) := by decide +kernel
theorem dX12_changes_108 : decode cX12_changes 108 = .ok (.goto (-74), 3) := by decide +kernel
theorem dX12_changes_111 : decode cX12_changes 111 = .ok (.aload_n 0, 1) := by decide +kernel
theorem dX12_changes_112 : decode cX12_changes 112 = .ok (.dup, 1) := by decide +kernel
theorem dX12_changes_113 : decode cX12_changes 113 = .ok (.getfield 154, 3) := by decide +kernel
theorem dX12_changes_116 : decode cX12_changes 116 = .ok (.iconst 1, 1) := by decide +kernel
theorem dX12_changes_117 : decode cX12_changes 117 = .ok (.isub, 1) := by decide +kernel
theorem dX12_changes_118 : decode cX12_changes 118 = .ok (.putfield 154, 3) := by decide +kernel
theorem dX12_changes_121 : decode cX12_changes 121 = .ok (.aload_n 0, 1) := by decide +kernel
theorem dX12_changes_122 : decode cX12_changes 122 = .ok (.getfield 23, 3) := by decide +kernel
theorem dX12_changes_125 : decode cX12_changes 125 = .ok (.aload_n 0, 1) := by decide +kernel
theorem dX12_changes_126 : decode cX12_changes 126 = .ok (.getfield 154, 3) := by decide +kernel
theorem dX12_changes_129 : decode cX12_changes 129 = .ok (.iload_n 1, 1) := by decide +kernel
theorem dX12_changes_130 : decode cX12_changes 130 = .ok (.iastore, 1) := by decide +kernel
theorem dX12_changes_131 : decode cX12_changes 131 = .ok (.aload_n 0, 1) := by decide +kernel
theorem dX12_changes_132 : decode cX12_changes 132 = .ok (.getfield 26, 3) := by decide +kernel
theorem dX12_changes_135 : decode cX12_changes 135 = .ok (.aload_n 0, 1) := by decide +kernel
theorem dX12_changes_136 : decode cX12_changes 136 = .ok (.getfield 154, 3) := by decide +kernel
theorem dX12_changes_139 : decode cX12_changes 139 = .ok (.iload_n 2, 1) := by decide +kernel
theorem dX12_changes_140 : decode cX12_changes 140 = .ok (.iastore, 1) := by decide +kernel
theorem dX12_changes_141 : decode cX12_changes 141 = .ok (.aload_n 0, 1) := by decide +kernel
theorem dX12_changes_142 : decode cX12_changes 142 = .ok (.getfield 29, 3) := by decide +kernel
theorem dX12_changes_145 : decode cX12_changes 145 = .ok (.aload_n 0, 1) := by decide +kernel
theorem dX12_changes_146 : decode cX12_changes 146 = .ok (.getfield 154, 3) := by decide +kernel
theorem dX12_changes_149 : decode cX12_changes 149 = .ok (.iload 4, 2) := by decide +kernel
theorem dX12_changes_151 : decode cX12_changes 151 = .ok (.iastore, 1) := by decide +kernel
theorem dX12_changes_152 : decode cX12_changes 152 = .ok (.aload_n 0, 1) := by decide +kernel
theorem dX12_changes_153 : decode cX12_changes 153 = .ok (.getfield 32, 3) := by decide +kernel
theorem dX12_changes_156 : decode cX12_changes 156 = .ok (.aload_n 0, 1) := by decide +kernel
theorem dX12_changes_157 : decode cX12_changes 157 = .ok (.getfield 154, 3) := by decide +kernel
theorem dX12_changes_160 : decode cX12_changes 160 = .ok (.iload_n 3, 1) := by decide +kernel
theorem dX12_changes_161 : decode cX12_changes 161 = .ok (.iastore, 1) := by decide +kernel
theorem dX12_changes_162 : decode cX12_changes 162 = .ok (.aload_n 0, 1) := by decide +kernel
theorem dX12_changes_163 : decode cX12_changes 163 = .ok (.dup, 1) := by decide +kernel
theorem dX12_changes_164 : decode cX12_changes 164 = .ok (.getfield 154, 3) := by decide +kernel
theorem dX12_changes_167 : decode cX12_changes 167 = .ok (.iconst 1, 1) := by decide +kernel
theorem dX12_changes_168 : decode cX12_changes 168 = .ok (.iadd, 1) := by decide +kernel
theorem dX12_changes_169 : decode cX12_changes 169 = .ok (.putfield 154, 3) := by decide +kernel
theorem dX12_changes_172 : decode cX12_changes 172 = .ok (.aload_n 0, 1) := by decide +kernel
theorem dX12_changes_173 : decode cX12_changes 173 = .ok (.iload_n 1, 1) := by decide +kernel
theorem dX12_changes_174 : decode cX12_changes 174 = .ok (.iload_n 2, 1) := by decide +kernel
theorem dX12_changes_175 : decode cX12_changes 175 = .ok (.iload_n 3, 1) := by decide +kernel
theorem dX12_changes_176 : decode cX12_changes 176 = .ok (.invokevirtual 157, 3) := by decide +kernel
theorem dX12_changes_179 : decode cX12_changes 179 = .ok (.iload 4, 2) := by decide +kernel
theorem dX12_changes_181 : decode cX12_changes 181 = .ok (.ireturn, 1) := by decide +kernel
theorem dX12_undo_0 : decode cX12_undo 0 = .ok (.aload_n 0, 1) := by decide +kernel
theorem dX12_undo_1 : decode cX12_undo 1 = .ok (.getfield 154, 3) := by decide +kernel
theorem dX12_undo_4 : decode cX12_undo 4 = .ok (.ifCond .ne 6, 3) := by decide +kernel
theorem dX12_undo_7 : decode cX12_undo 7 = .ok (.bipush (-5), 2) := by decide +kernel
theorem dX12_undo_9 : decode cX12_undo 9 = .ok (.ireturn, 1) := by decide +kernel
theorem dX12_undo_10 : decode cX12_undo 10 = .ok (.aload_n 0, 1) := by decide +kernel
theorem dX12_undo_11 : decode cX12_undo 11 = .ok (.dup, 1) := by decide +kernel
theorem dX12_undo_12 : decode cX12_undo 12 = .ok (.getfield 154, 3) := by decide +kernel
theorem dX12_undo_15 : decode cX12_undo 15 = .ok (.iconst 1, 1) := by decide +kernel
theorem dX12_undo_16 : decode cX12_undo 16 = .ok (.isub, 1) := by decide +kernel
theorem dX12_undo_17 : decode cX12_undo 17 = .ok (.putfield 154, 3) := by decide +kernel
theorem dX12_undo_20 : decode cX12_undo 20 = .ok (.aload_n 0, 1) := by decide +kernel
theorem dX12_undo_21 : decode cX12_undo 21 = .ok (.dup, 1) := by decide +kernel
theorem dX12_undo_22 : decode cX12_undo 22 = .ok (.getfield 151, 3) := by decide +kernel
theorem dX12_undo_25 : decode cX12_undo 25 = .ok (.iconst 1, 1) := by decide +kernel
theorem dX12_undo_26 : decode cX12_undo 26 = .ok (.iadd, 1) := by decide +kernel
theorem dX12_undo_27 : decode cX12_undo 27 = .ok (.putfield 151, 3) := by decide +kernel
theorem dX12_undo_30 : decode cX12_undo 30 = .ok (.aload_n 0, 1) := by decide +kernel
theorem dX12_undo_31 : decode cX12_undo 31 = .ok (.aload_n 0, 1) := by decide +kernel
theorem dX12_undo_32 : decode cX12_undo 32 = .ok (.getfield 23, 3) := by decide +kernel
theorem dX12_undo_35 : decode cX12_undo 35 = .ok (.aload_n 0, 1) := by decide +kernel
theorem dX12_undo_36 : decode cX12_undo 36 = .ok (.getfield 154, 3) := by decide +kernel
theorem dX12_undo_39 : decode cX12_undo 39 = .ok (.iaload, 1) := by decide +kernel
theorem dX12_undo_40 : decode cX12_undo 40 = .ok (.aload_n 0, 1) := by decide +kernel
theorem dX12_undo_41 : decode cX12_undo 41 = .ok (.getfield 26, 3) := by decide +kernel
theorem dX12_undo_44 : decode cX12_undo 44 = .ok (.aload_n 0, 1) := by decide +kernel
theorem dX12_undo_45 : decode cX12_undo 45 = .ok (.getfield 154, 3) := by decide +kernel
theorem dX12_undo_48 : decode cX12_undo 48 = .ok (.iaload, 1) := by decide +kernel
theorem dX12_undo_49 : decode cX12_undo 49 = .ok (.aload_n 0, 1) := by decide +kernel
theorem dX12_undo_50 : decode cX12_undo 50 = .ok (.getfield 29, 3) := by decide +kernel
theorem dX12_undo_53 : decode cX12_undo 53 = .ok (.aload_n 0, 1) := by decide +kernel
theorem dX12_undo_54 : decode cX12_undo 54 = .ok (.getfield 154, 3) := by decide +kernel
theorem dX12_undo_57 : decode cX12_undo 57 = .ok (.iaload, 1) := by decide +kernel
theorem dX12_undo_58 : decode cX12_undo 58 = .ok (.invokevirtual 157, 3) := by decide +kernel
theorem dX12_undo_61 : decode cX12_undo 61 = .ok (.aload_n 0, 1) := by decide +kernel
theorem dX12_undo_62 : decode cX12_undo 62 = .ok (.getfield 154, 3) := by decide +kernel
theorem dX12_undo_65 : decode cX12_undo 65 = .ok (.ireturn, 1) := by decide +kernel
theorem dX12_redo_0 : decode cX12_redo 0 = .ok (.aload_n 0, 1) := by decide +kernel
theorem dX12_redo_1 : decode cX12_redo 1 = .ok (.getfield 151, 3) := by decide +kernel
theorem dX12_redo_4 : decode cX12_redo 4 = .ok (.ifCond .ne 6, 3) := by decide +kernel
theorem dX12_redo_7 : decode cX12_redo 7 = .ok (.bipush (-5), 2) := by decide +kernel
theorem dX12_redo_9 : decode cX12_redo 9 = .ok (.ireturn, 1) := by decide +kernel
theorem dX12_redo_10 : decode cX12_redo 10 = .ok (.aload_n 0, 1) := by decide +kernel
theorem dX12_redo_11 : decode cX12_redo 11 = .ok (.aload_n 0, 1) := by decide +kernel
theorem dX12_redo_12 : decode cX12_redo 12 = .ok (.getfield 23, 3) := by decide +kernel
theorem dX12_redo_15 : decode cX12_redo 15 = .ok (.aload_n 0, 1) := by decide +kernel
theorem dX12_redo_16 : decode cX12_redo 16 = .ok (.getfield 154, 3) := by decide +kernel
theorem dX12_redo_19 : decode cX12_redo 19 = .ok (.iaload, 1) := by decide +kernel
theorem dX12_redo_20 : decode cX12_redo 20 = .ok (.aload_n 0, 1) := by decide +kernel
theorem dX12_redo_21 : decode cX12_redo 21 = .ok (.getfield 26, 3) := by decide +kernel
theorem dX12_redo_24 : decode cX12_redo 24 = .ok (.aload_n 0, 1) := by decide +kernel
theorem dX12_redo_25 : decode cX12_redo 25 = .ok (.getfield 154, 3) := by decide +kernel
theorem dX12_redo_28 : decode cX12_redo 28 = .ok (.iaload, 1) := by decide +kernel
theorem dX12_redo_29 : decode cX12_redo 29 = .ok (.aload_n 0, 1) := by decide +kernel
theorem dX12_redo_30 : decode cX12_redo 30 = .ok (.getfield 32, 3) := by decide +kernel
theorem dX12_redo_33 : decode cX12_redo 33 = .ok (.aload_n 0, 1) := by decide +kernel
theorem dX12_redo_34 : decode cX12_redo 34 = .ok (.getfield 154, 3) := by decide +kernel
theorem dX12_redo_37 : decode cX12_redo 37 = .ok (.iaload, 1) := by decide +kernel
theorem dX12_redo_38 : decode cX12_redo 38 = .ok (.invokevirtual 157, 3) := by decide +kernel
theorem dX12_redo_41 : decode cX12_redo 41 = .ok (.aload_n 0, 1) := by decide +kernel
theorem dX12_redo_42 : decode cX12_redo 42 = .ok (.dup, 1) := by decide +kernel
theorem dX12_redo_43 : decode cX12_redo 43 = .ok (.getfield 154, 3) := by decide +kernel
theorem dX12_redo_46 : decode cX12_redo 46 = .ok (.iconst 1, 1) := by decide +kernel
theorem dX12_redo_47 : decode cX12_redo 47 = .ok (.iadd, 1) := by decide +kernel
theorem dX12_redo_48 : decode cX12_redo 48 = .ok (.putfield 154, 3) := by decide +kernel
theorem dX12_redo_51 : decode cX12_redo 51 = .ok (.aload_n 0, 1) := by decide +kernel
theorem dX12_redo_52 : decode cX12_redo 52 = .ok (.dup, 1) := by decide +kernel
theorem dX12_redo_53 : decode cX12_redo 53 = .ok (.getfield 151, 3) := by decide +kernel
theorem dX12_redo_56 : decode cX12_redo 56 = .ok (.iconst 1, 1) := by decide +kernel
theorem dX12_redo_57 : decode cX12_redo 57 = .ok (.isub, 1) := by decide +kernel
theorem dX12_redo_58 : decode cX12_redo 58 = .ok (.putfield 151, 3) := by decide +kernel
theorem dX12_redo_61 : decode cX12_redo 61 = .ok (.aload_n 0, 1) := by decide +kernel
theorem dX12_redo_62 : decode cX12_redo 62 = .ok (.getfield 151, 3) := by decide +kernel
theorem dX12_redo_65 : decode cX12_redo 65 = .ok (.ireturn, 1) := by decide +kernel
theorem dX12_mend_0 : decode cX12_mend 0 = .ok (.aload_n 0, 1) := by decide +kernel
theorem dX12_mend_1 : decode cX12_mend 1 = .ok (.iload_n 1, 1) := by decide +kernel
theorem dX12_mend_2 : decode cX12_mend 2 = .ok (.iload_n 2, 1) := by decide +kernel
theorem dX12_mend_3 : decode cX12_mend 3 = .ok (.invokevirtual 161, 3) := by decide +kernel
theorem dX12_mend_6 : decode cX12_mend 6 = .ok (.ifCond .eq 53, 3) := by decide +kernel
theorem dX12_mend_9 : decode cX12_mend 9 = .ok (.iload_n 3, 1) := by decide +kernel
theorem dX12_mend_10 : decode cX12_mend 10 = .ok (.iconst 0, 1) := by decide +kernel
theorem dX12_mend_11 : decode cX12_mend 11 = .ok (.iconst 2, 1) := by decide +kernel
theorem dX12_mend_12 : decode cX12_mend 12 = .ok (.invokestatic 110, 3) := by decide +kernel
theorem dX12_mend_15 : decode cX12_mend 15 = .ok (.ifCond .eq 44, 3) := by decide +kernel
theorem dX12_mend_18 : decode cX12_mend 18 = .ok (.iload 4, 2) := by decide +kernel
theorem dX12_mend_20 : decode cX12_mend 20 = .ok (.iconst 0, 1) := by decide +kernel
theorem dX12_mend_21 : decode cX12_mend 21 = .ok (.iload_n 3, 1) := by decide +kernel
theorem dX12_mend_22 : decode cX12_mend 22 = .ok (.iconst 2, 1) := by decide +kernel
theorem dX12_mend_23 : decode cX12_mend 23 = .ok (.if_icmp .ne 8, 3) := by decide +kernel
theorem dX12_mend_26 : decode cX12_mend 26 = .ok (.bipush 9, 2) := by decide +kernel
theorem dX12_mend_28 : decode cX12_mend 28 = .ok (.goto 5, 3) := by decide +kernel
theorem dX12_mend_31 : decode cX12_mend 31 = .ok (.bipush 30, 2) := by decide +kernel
theorem dX12_mend_33 : decode cX12_mend 33 = .ok (.invokestatic 110, 3) := by decide +kernel
theorem dX12_mend_36 : decode cX12_mend 36 = .ok (.ifCond .eq 23, 3) := by decide +kernel
theorem dX12_mend_39 : decode cX12_mend 39 = .ok (.aload_n 0, 1) := by decide +kernel
theorem dX12_mend_40 : decode cX12_mend 40 = .ok (.iconst 0, 1) := by decide +kernel
theorem dX12_mend_41 : decode cX12_mend 41 = .ok (.bipush 36, 2) := by decide +kernel
theorem dX12_mend_43 : decode cX12_mend 43 = .ok (.iload_n 1, 1) := by decide +kernel
theorem dX12_mend_44 : decode cX12_mend 44 = .ok (.imul, 1) := by decide +kernel
theorem dX12_mend_45 : decode cX12_mend 45 = .ok (.iconst 3, 1) := by decide +kernel
theorem dX12_mend_46 : decode cX12_mend 46 = .ok (.iload_n 2, 1) := by decide +kernel
theorem dX12_mend_47 : decode cX12_mend 47 = .ok (.imul, 1) := by decide +kernel
theorem dX12_mend_48 : decode cX12_mend 48 = .ok (.iadd, 1) := by decide +kernel
theorem dX12_mend_49 : decode cX12_mend 49 = .ok (.iload_n 3, 1) := by decide +kernel
theorem dX12_mend_50 : decode cX12_mend 50 = .ok (.iadd, 1) := by decide +kernel
theorem dX12_mend_51 : decode cX12_mend 51 = .ok (.iload 4, 2) := by decide +kernel
theorem dX12_mend_53 : decode cX12_mend 53 = .ok (.invokevirtual 165, 3) := by decide +kernel
theorem dX12_mend_56 : decode cX12_mend 56 = .ok (.goto 4, 3) := by decide +kernel
theorem dX12_mend_59 : decode cX12_mend 59 = .ok (.iconst (-1), 1) := by decide +kernel
theorem dX12_mend_60 : decode cX12_mend 60 = .ok (.ireturn, 1) := by decide +kernel
theorem dX12_look_0 : decode cX12_look 0 = .ok (.aload_n 0, 1) := by decide +kernel
theorem dX12_look_1 : decode cX12_look 1 = .ok (.getfield 127, 3) := by decide +kernel
theorem dX12_look_4 : decode cX12_look 4 = .ok (.aload_n 0, 1) := by decide +kernel
theorem dX12_look_5 : decode cX12_look 5 = .ok (.getfield 114, 3) := by decide +kernel
theorem dX12_look_8 : decode cX12_look 8 = .ok (.if_icmp .ge 15, 3) := by decide +kernel
theorem dX12_look_11 : decode cX12_look 11 = .ok (.aload_n 0, 1) := by decide +kernel
theorem dX12_look_12 : decode cX12_look 12 = .ok (.getfield 7, 3) := by decide +kernel
theorem dX12_look_15 : decode cX12_look 15 = .ok (.aload_n 0, 1) := by decide +kernel
theorem dX12_look_16 : decode cX12_look 16 = .ok (.getfield 127, 3) := by decide +kernel
theorem dX12_look_19 : decode cX12_look 19 = .ok (.baload, 1) := by decide +kernel
theorem dX12_look_20 : decode cX12_look 20 = .ok (.goto 4, 3) := by decide +kernel
theorem dX12_look_23 : decode cX12_look 23 = .ok (.iconst (-1), 1) := by decide +kernel
theorem dX12_look_24 : decode cX12_look 24 = .ok (.ireturn, 1) := by decide +kernel
theorem dX12_wrong_0 : decode cX12_wrong 0 = .ok (.aload_n 0, 1) := by decide +kernel
theorem dX12_wrong_1 : decode cX12_wrong 1 = .ok (.getfield 124, 3) := by decide +kernel
theorem dX12_wrong_4 : decode cX12_wrong 4 = .ok (.ifCond .ge 11, 3) := by decide +kernel
theorem dX12_wrong_7 : decode cX12_wrong 7 = .ok (.aload_n 0, 1) := by decide +kernel
theorem dX12_wrong_8 : decode cX12_wrong 8 = .ok (.aload_n 0, 1) := by decide +kernel
theorem dX12_wrong_9 : decode cX12_wrong 9 = .ok (.getfield 127, 3) := by decide +kernel
theorem dX12_wrong_12 : decode cX12_wrong 12 = .ok (.putfield 124, 3) := by decide +kernel
theorem dX12_wrong_15 : decode cX12_wrong 15 = .ok (.return_, 1) := by decide +kernel
theorem dX12_addStep_0 : decode cX12_addStep 0 = .ok (.aload_n 0, 1) := by decide +kernel
theorem dX12_addStep_1 : decode cX12_addStep 1 = .ok (.getfield 35, 3) := by decide +kernel
theorem dX12_addStep_4 : decode cX12_addStep 4 = .ok (.sipush 520, 3) := by decide +kernel
theorem dX12_addStep_7 : decode cX12_addStep 7 = .ok (.aload_n 0, 1) := by decide +kernel
theorem dX12_addStep_8 : decode cX12_addStep 8 = .ok (.getfield 169, 3) := by decide +kernel
theorem dX12_addStep_11 : decode cX12_addStep 11 = .ok (.iadd, 1) := by decide +kernel
theorem dX12_addStep_12 : decode cX12_addStep 12 = .ok (.iload_n 1, 1) := by decide +kernel
theorem dX12_addStep_13 : decode cX12_addStep 13 = .ok (.i2b, 1) := by decide +kernel
theorem dX12_addStep_14 : decode cX12_addStep 14 = .ok (.bastore, 1) := by decide +kernel
theorem dX12_addStep_15 : decode cX12_addStep 15 = .ok (.aload_n 0, 1) := by decide +kernel
theorem dX12_addStep_16 : decode cX12_addStep 16 = .ok (.getfield 38, 3) := by decide +kernel
theorem dX12_addStep_19 : decode cX12_addStep 19 = .ok (.sipush 520, 3) := by decide +kernel
theorem dX12_addStep_22 : decode cX12_addStep 22 = .ok (.aload_n 0, 1) := by decide +kernel
theorem dX12_addStep_23 : decode cX12_addStep 23 = .ok (.getfield 169, 3) := by decide +kernel
theorem dX12_addStep_26 : decode cX12_addStep 26 = .ok (.iadd, 1) := by decide +kernel
theorem dX12_addStep_27 : decode cX12_addStep 27 = .ok (.iload_n 2, 1) := by decide +kernel
theorem dX12_addStep_28 : decode cX12_addStep 28 = .ok (.iastore, 1) := by decide +kernel
theorem dX12_addStep_29 : decode cX12_addStep 29 = .ok (.aload_n 0, 1) := by decide +kernel
theorem dX12_addStep_30 : decode cX12_addStep 30 = .ok (.dup, 1) := by decide +kernel
theorem dX12_addStep_31 : decode cX12_addStep 31 = .ok (.getfield 169, 3) := by decide +kernel
theorem dX12_addStep_34 : decode cX12_addStep 34 = .ok (.iconst 1, 1) := by decide +kernel
theorem dX12_addStep_35 : decode cX12_addStep 35 = .ok (.iadd, 1) := by decide +kernel
theorem dX12_addStep_36 : decode cX12_addStep 36 = .ok (.putfield 169, 3) := by decide +kernel
theorem dX12_addStep_39 : decode cX12_addStep 39 = .ok (.return_, 1) := by decide +kernel
theorem dX12_nameOf_0 : decode cX12_nameOf 0 = .ok (.iload_n 0, 1) := by decide +kernel
theorem dX12_nameOf_1 : decode cX12_nameOf 1 = .ok (.lookupswitch 51 #[(99, 45), (104, 43), (105, 49), (114, 47)], 43) := by decide +kernel
theorem dX12_nameOf_44 : decode cX12_nameOf 44 = .ok (.iconst 0, 1) := by decide +kernel
theorem dX12_nameOf_45 : decode cX12_nameOf 45 = .ok (.ireturn, 1) := by decide +kernel
theorem dX12_nameOf_46 : decode cX12_nameOf 46 = .ok (.iconst 1, 1) := by decide +kernel
theorem dX12_nameOf_47 : decode cX12_nameOf 47 = .ok (.ireturn, 1) := by decide +kernel
theorem dX12_nameOf_48 : decode cX12_nameOf 48 = .ok (.iconst 2, 1) := by decide +kernel
theorem dX12_nameOf_49 : decode cX12_nameOf 49 = .ok (.ireturn, 1) := by decide +kernel
theorem dX12_nameOf_50 : decode cX12_nameOf 50 = .ok (.iconst 3, 1) := by decide +kernel
theorem dX12_nameOf_51 : decode cX12_nameOf 51 = .ok (.ireturn, 1) := by decide +kernel
theorem dX12_nameOf_52 : decode cX12_nameOf 52 = .ok (.iconst (-1), 1) := by decide +kernel
theorem dX12_nameOf_53 : decode cX12_nameOf 53 = .ok (.ireturn, 1) := by decide +kernel
theorem dX12_opens_0 : decode cX12_opens 0 = .ok (.aload_n 0, 1) := by decide +kernel
theorem dX12_opens_1 : decode cX12_opens 1 = .ok (.getfield 172, 3) := by decide +kernel
theorem dX12_opens_4 : decode cX12_opens 4 = .ok (.bipush 6, 2) := by decide +kernel
theorem dX12_opens_6 : decode cX12_opens 6 = .ok (.if_icmp .ne 9, 3) := by decide +kernel
theorem dX12_opens_9 : decode cX12_opens 9 = .ok (.aload_n 0, 1) := by decide +kernel
theorem dX12_opens_10 : decode cX12_opens 10 = .ok (.invokevirtual 175, 3) := by decide +kernel
theorem dX12_opens_13 : decode cX12_opens 13 = .ok (.iconst 0, 1) := by decide +kernel
theorem dX12_opens_14 : decode cX12_opens 14 = .ok (.ireturn, 1) := by decide +kernel
theorem dX12_opens_15 : decode cX12_opens 15 = .ok (.aload_n 0, 1) := by decide +kernel
theorem dX12_opens_16 : decode cX12_opens 16 = .ok (.dup, 1) := by decide +kernel
theorem dX12_opens_17 : decode cX12_opens 17 = .ok (.getfield 172, 3) := by decide +kernel
theorem dX12_opens_20 : decode cX12_opens 20 = .ok (.iconst 1, 1) := by decide +kernel
theorem dX12_opens_21 : decode cX12_opens 21 = .ok (.iadd, 1) := by decide +kernel
theorem dX12_opens_22 : decode cX12_opens 22 = .ok (.putfield 172, 3) := by decide +kernel
theorem dX12_opens_25 : decode cX12_opens 25 = .ok (.aload_n 0, 1) := by decide +kernel
theorem dX12_opens_26 : decode cX12_opens 26 = .ok (.dup, 1) := by decide +kernel
theorem dX12_opens_27 : decode cX12_opens 27 = .ok (.getfield 127, 3) := by decide +kernel
theorem dX12_opens_30 : decode cX12_opens 30 = .ok (.iconst 1, 1) := by decide +kernel
theorem dX12_opens_31 : decode cX12_opens 31 = .ok (.iadd, 1) := by decide +kernel
theorem dX12_opens_32 : decode cX12_opens 32 = .ok (.putfield 127, 3) := by decide +kernel
theorem dX12_opens_35 : decode cX12_opens 35 = .ok (.iconst 1, 1) := by decide +kernel
theorem dX12_opens_36 : decode cX12_opens 36 = .ok (.ireturn, 1) := by decide +kernel
theorem dX12_figure_0 : decode cX12_figure 0 = .ok (.iconst 0, 1) := by decide +kernel
theorem dX12_figure_1 : decode cX12_figure 1 = .ok (.istore_n 1, 1) := by decide +kernel
theorem dX12_figure_2 : decode cX12_figure 2 = .ok (.iconst 0, 1) := by decide +kernel
theorem dX12_figure_3 : decode cX12_figure 3 = .ok (.istore_n 2, 1) := by decide +kernel
theorem dX12_figure_4 : decode cX12_figure 4 = .ok (.iload_n 2, 1) := by decide +kernel
theorem dX12_figure_5 : decode cX12_figure 5 = .ok (.iconst 4, 1) := by decide +kernel
theorem dX12_figure_6 : decode cX12_figure 6 = .ok (.if_icmp .ge 46, 3) := by decide +kernel
theorem dX12_figure_9 : decode cX12_figure 9 = .ok (.aload_n 0, 1) := by decide +kernel
theorem dX12_figure_10 : decode cX12_figure 10 = .ok (.invokevirtual 178, 3) := by decide +kernel
theorem dX12_figure_13 : decode cX12_figure 13 = .ok (.bipush 48, 2) := by decide +kernel
theorem dX12_figure_15 : decode cX12_figure 15 = .ok (.bipush 57, 2) := by decide +kernel
theorem dX12_figure_17 : decode cX12_figure 17 = .ok (.invokestatic 110, 3) := by decide +kernel
theorem dX12_figure_20 : decode cX12_figure 20 = .ok (.ifCond .eq 32, 3) := by decide +kernel
theorem dX12_figure_23 : decode cX12_figure 23 = .ok (.bipush 10, 2) := by decide +kernel
theorem dX12_figure_25 : decode cX12_figure 25 = .ok (.iload_n 1, 1) := by decide +kernel
theorem dX12_figure_26 : decode cX12_figure 26 = .ok (.imul, 1) := by decide +kernel
theorem dX12_figure_27 : decode cX12_figure 27 = .ok (.aload_n 0, 1) := by decide +kernel
theorem dX12_figure_28 : decode cX12_figure 28 = .ok (.invokevirtual 178, 3) := by decide +kernel
theorem dX12_figure_31 : decode cX12_figure 31 = .ok (.iadd, 1) := by decide +kernel
theorem dX12_figure_32 : decode cX12_figure 32 = .ok (.bipush 48, 2) := by decide +kernel
theorem dX12_figure_34 : decode cX12_figure 34 = .ok (.isub, 1) := by decide +kernel
theorem dX12_figure_35 : decode cX12_figure 35 = .ok (.istore_n 1, 1) := by decide +kernel
theorem dX12_figure_36 : decode cX12_figure 36 = .ok (.iinc 2 1, 3) := by decide +kernel
theorem dX12_figure_39 : decode cX12_figure 39 = .ok (.aload_n 0, 1) := by decide +kernel
theorem dX12_figure_40 : decode cX12_figure 40 = .ok (.dup, 1) := by decide +kernel
theorem dX12_figure_41 : decode cX12_figure 41 = .ok (.getfield 127, 3) := by decide +kernel
theorem dX12_figure_44 : decode cX12_figure 44 = .ok (.iconst 1, 1) := by decide +kernel
theorem dX12_figure_45 : decode cX12_figure 45 = .ok (.iadd, 1) := by decide +kernel
theorem dX12_figure_46 : decode cX12_figure 46 = .ok (.putfield 127, 3) := by decide +kernel
theorem dX12_figure_49 : decode cX12_figure 49 = .ok (.goto (-45), 3) := by decide +kernel
theorem dX12_figure_52 : decode cX12_figure 52 = .ok (.iload_n 2, 1) := by decide +kernel
theorem dX12_figure_53 : decode cX12_figure 53 = .ok (.ifCond .eq 17, 3) := by decide +kernel
theorem dX12_figure_56 : decode cX12_figure 56 = .ok (.aload_n 0, 1) := by decide +kernel
theorem dX12_figure_57 : decode cX12_figure 57 = .ok (.invokevirtual 178, 3) := by decide +kernel
theorem dX12_figure_60 : decode cX12_figure 60 = .ok (.bipush 48, 2) := by decide +kernel
theorem dX12_figure_62 : decode cX12_figure 62 = .ok (.bipush 57, 2) := by decide +kernel
theorem dX12_figure_64 : decode cX12_figure 64 = .ok (.invokestatic 110, 3) := by decide +kernel
theorem dX12_figure_67 : decode cX12_figure 67 = .ok (.ifCond .eq 7, 3) := by decide +kernel
theorem dX12_figure_70 : decode cX12_figure 70 = .ok (.aload_n 0, 1) := by decide +kernel
theorem dX12_figure_71 : decode cX12_figure 71 = .ok (.invokevirtual 175, 3) := by decide +kernel
theorem dX12_figure_74 : decode cX12_figure 74 = .ok (.aload_n 0, 1) := by decide +kernel
theorem dX12_figure_75 : decode cX12_figure 75 = .ok (.iconst 1, 1) := by decide +kernel
theorem dX12_figure_76 : decode cX12_figure 76 = .ok (.iload_n 1, 1) := by decide +kernel
theorem dX12_figure_77 : decode cX12_figure 77 = .ok (.invokevirtual 181, 3) := by decide +kernel
theorem dX12_figure_80 : decode cX12_figure 80 = .ok (.return_, 1) := by decide +kernel
theorem dX12_operand_0 : decode cX12_operand 0 = .ok (.aload_n 0, 1) := by decide +kernel
theorem dX12_operand_1 : decode cX12_operand 1 = .ok (.invokevirtual 178, 3) := by decide +kernel
theorem dX12_operand_4 : decode cX12_operand 4 = .ok (.istore_n 1, 1) := by decide +kernel
theorem dX12_operand_5 : decode cX12_operand 5 = .ok (.iload_n 1, 1) := by decide +kernel
theorem dX12_operand_6 : decode cX12_operand 6 = .ok (.invokestatic 185, 3) := by decide +kernel
theorem dX12_operand_9 : decode cX12_operand 9 = .ok (.ifCond .lt 25, 3) := by decide +kernel
theorem dX12_operand_12 : decode cX12_operand 12 = .ok (.aload_n 0, 1) := by decide +kernel
theorem dX12_operand_13 : decode cX12_operand 13 = .ok (.iconst 2, 1) := by decide +kernel
theorem dX12_operand_14 : decode cX12_operand 14 = .ok (.iload_n 1, 1) := by decide +kernel
theorem dX12_operand_15 : decode cX12_operand 15 = .ok (.invokestatic 185, 3) := by decide +kernel
theorem dX12_operand_18 : decode cX12_operand 18 = .ok (.invokevirtual 181, 3) := by decide +kernel
theorem dX12_operand_21 : decode cX12_operand 21 = .ok (.aload_n 0, 1) := by decide +kernel
theorem dX12_operand_22 : decode cX12_operand 22 = .ok (.dup, 1) := by decide +kernel
theorem dX12_operand_23 : decode cX12_operand 23 = .ok (.getfield 127, 3) := by decide +kernel
theorem dX12_operand_26 : decode cX12_operand 26 = .ok (.iconst 1, 1) := by decide +kernel
theorem dX12_operand_27 : decode cX12_operand 27 = .ok (.iadd, 1) := by decide +kernel
theorem dX12_operand_28 : decode cX12_operand 28 = .ok (.putfield 127, 3) := by decide +kernel
theorem dX12_operand_31 : decode cX12_operand 31 = .ok (.goto 123, 3) := by decide +kernel
theorem dX12_operand_34 : decode cX12_operand 34 = .ok (.iload_n 1, 1) := by decide +kernel
theorem dX12_operand_35 : decode cX12_operand 35 = .ok (.bipush 33, 2) := by decide +kernel
theorem dX12_operand_37 : decode cX12_operand 37 = .ok (.if_icmp .eq 9, 3) := by decide +kernel
theorem dX12_operand_40 : decode cX12_operand 40 = .ok (.iload_n 1, 1) := by decide +kernel
theorem dX12_operand_41 : decode cX12_operand 41 = .ok (.bipush 45, 2) := by decide +kernel
theorem dX12_operand_43 : decode cX12_operand 43 = .ok (.if_icmp .ne 44, 3) := by decide +kernel
theorem dX12_operand_46 : decode cX12_operand 46 = .ok (.aload_n 0, 1) := by decide +kernel
theorem dX12_operand_47 : decode cX12_operand 47 = .ok (.invokevirtual 189, 3) := by decide +kernel
theorem dX12_operand_50 : decode cX12_operand 50 = .ok (.ifCond .ne 4, 3) := by decide +kernel
theorem dX12_operand_53 : decode cX12_operand 53 = .ok (.return_, 1) := by decide +kernel
theorem dX12_operand_54 : decode cX12_operand 54 = .ok (.aload_n 0, 1) := by decide +kernel
theorem dX12_operand_55 : decode cX12_operand 55 = .ok (.invokevirtual 193, 3) := by decide +kernel
theorem dX12_operand_58 : decode cX12_operand 58 = .ok (.aload_n 0, 1) := by decide +kernel
theorem dX12_operand_59 : decode cX12_operand 59 = .ok (.dup, 1) := by decide +kernel
theorem dX12_operand_60 : decode cX12_operand 60 = .ok (.getfield 172, 3) := by decide +kernel
theorem dX12_operand_63 : decode cX12_operand 63 = .ok (.iconst 1, 1) := by decide +kernel
theorem dX12_operand_64 : decode cX12_operand 64 = .ok (.isub, 1) := by decide +kernel
theorem dX12_operand_65 : decode cX12_operand 65 = .ok (.putfield 172, 3) := by decide +kernel
theorem dX12_operand_68 : decode cX12_operand 68 = .ok (.aload_n 0, 1) := by decide +kernel
theorem dX12_operand_69 : decode cX12_operand 69 = .ok (.iload_n 1, 1) := by decide +kernel
theorem dX12_operand_70 : decode cX12_operand 70 = .ok (.bipush 33, 2) := by decide +kernel
theorem dX12_operand_72 : decode cX12_operand 72 = .ok (.if_icmp .ne 7, 3) := by decide +kernel
theorem dX12_operand_75 : decode cX12_operand 75 = .ok (.iconst 3, 1) := by decide +kernel
theorem dX12_operand_76 : decode cX12_operand 76 = .ok (.goto 4, 3) := by decide +kernel
theorem dX12_operand_79 : decode cX12_operand 79 = .ok (.iconst 4, 1) := by decide +kernel
theorem dX12_operand_80 : decode cX12_operand 80 = .ok (.iconst 0, 1) := by decide +kernel
theorem dX12_operand_81 : decode cX12_operand 81 = .ok (.invokevirtual 181, 3) := by decide +kernel
theorem dX12_operand_84 : decode cX12_operand 84 = .ok (.goto 70, 3) := by decide +kernel
theorem dX12_operand_87 : decode cX12_operand 87 = .ok (.iload_n 1, 1) := by decide +kernel
theorem dX12_operand_88 : decode cX12_operand 88 = .ok (.bipush 40, 2) := by decide +kernel
theorem dX12_operand_90 : decode cX12_operand 90 = .ok (.if_icmp .ne 60, 3) := by decide +kernel
theorem dX12_operand_93 : decode cX12_operand 93 = .ok (.aload_n 0, 1) := by decide +kernel
theorem dX12_operand_94 : decode cX12_operand 94 = .ok (.invokevirtual 189, 3) := by decide +kernel
theorem dX12_operand_97 : decode cX12_operand 97 = .ok (.ifCond .ne 4, 3) := by decide +kernel
theorem dX12_operand_100 : decode cX12_operand 100 = .ok (.return_, 1) := by decide +kernel
theorem dX12_operand_101 : decode cX12_operand 101 = .ok (.aload_n 0, 1) := by decide +kernel
theorem dX12_operand_102 : decode cX12_operand 102 = .ok (.invokevirtual 196, 3) := by decide +kernel
theorem dX12_operand_105 : decode cX12_operand 105 = .ok (.aload_n 0, 1) := by decide +kernel
theorem dX12_operand_106 : decode cX12_operand 106 = .ok (.getfield 124, 3) := by decide +kernel
theorem dX12_operand_109 : decode cX12_operand 109 = .ok (.ifCond .lt 4, 3) := by decide +kernel
theorem dX12_operand_112 : decode cX12_operand 112 = .ok (.return_, 1) := by decide +kernel
theorem dX12_operand_113 : decode cX12_operand 113 = .ok (.aload_n 0, 1) := by decide +kernel
theorem dX12_operand_114 : decode cX12_operand 114 = .ok (.invokevirtual 178, 3) := by decide +kernel
theorem dX12_operand_117 : decode cX12_operand 117 = .ok (.bipush 41, 2) := by decide +kernel
theorem dX12_operand_119 : decode cX12_operand 119 = .ok (.if_icmp .eq 8, 3) := by decide +kernel
theorem dX12_operand_122 : decode cX12_operand 122 = .ok (.aload_n 0, 1) := by decide +kernel
theorem dX12_operand_123 : decode cX12_operand 123 = .ok (.invokevirtual 175, 3) := by decide +kernel
theorem dX12_operand_126 : decode cX12_operand 126 = .ok (.return_, 1) := by decide +kernel
theorem dX12_operand_127 : decode cX12_operand 127 = .ok (.aload_n 0, 1) := by decide +kernel
theorem dX12_operand_128 : decode cX12_operand 128 = .ok (.dup, 1) := by decide +kernel
theorem dX12_operand_129 : decode cX12_operand 129 = .ok (.getfield 127, 3) := by decide +kernel
theorem dX12_operand_132 : decode cX12_operand 132 = .ok (.iconst 1, 1) := by decide +kernel
theorem dX12_operand_133 : decode cX12_operand 133 = .ok (.iadd, 1) := by decide +kernel
theorem dX12_operand_134 : decode cX12_operand 134 = .ok (.putfield 127, 3) := by decide +kernel
theorem dX12_operand_137 : decode cX12_operand 137 = .ok (.aload_n 0, 1) := by decide +kernel
theorem dX12_operand_138 : decode cX12_operand 138 = .ok (.dup, 1) := by decide +kernel
theorem dX12_operand_139 : decode cX12_operand 139 = .ok (.getfield 172, 3) := by decide +kernel
theorem dX12_operand_142 : decode cX12_operand 142 = .ok (.iconst 1, 1) := by decide +kernel
theorem dX12_operand_143 : decode cX12_operand 143 = .ok (.isub, 1) := by decide +kernel
theorem dX12_operand_144 : decode cX12_operand 144 = .ok (.putfield 172, 3) := by decide +kernel
theorem dX12_operand_147 : decode cX12_operand 147 = .ok (.goto 7, 3) := by decide +kernel
theorem dX12_operand_150 : decode cX12_operand 150 = .ok (.aload_n 0, 1) := by decide +kernel
theorem dX12_operand_151 : decode cX12_operand 151 = .ok (.invokevirtual 199, 3) := by decide +kernel
theorem dX12_operand_154 : decode cX12_operand 154 = .ok (.return_, 1) := by decide +kernel
theorem dX12_product_0 : decode cX12_product 0 = .ok (.aload_n 0, 1) := by decide +kernel
theorem dX12_product_1 : decode cX12_product 1 = .ok (.invokevirtual 193, 3) := by decide +kernel
theorem dX12_product_4 : decode cX12_product 4 = .ok (.aload_n 0, 1) := by decide +kernel
theorem dX12_product_5 : decode cX12_product 5 = .ok (.getfield 124, 3) := by decide +kernel
theorem dX12_product_8 : decode cX12_product 8 = .ok (.ifCond .ge 58, 3) := by decide +kernel
theorem dX12_product_11 : decode cX12_product 11 = .ok (.aload_n 0, 1) := by decide +kernel
theorem dX12_product_12 : decode cX12_product 12 = .ok (.invokevirtual 178, 3) := by decide +kernel
theorem dX12_product_15 : decode cX12_product 15 = .ok (.bipush 42, 2) := by decide +kernel
theorem dX12_product_17 : decode cX12_product 17 = .ok (.if_icmp .eq 21, 3) := by decide +kernel
theorem dX12_product_20 : decode cX12_product 20 = .ok (.aload_n 0, 1) := by decide +kernel
theorem dX12_product_21 : decode cX12_product 21 = .ok (.invokevirtual 178, 3) := by decide +kernel
theorem dX12_product_24 : decode cX12_product 24 = .ok (.bipush 47, 2) := by decide +kernel
theorem dX12_product_26 : decode cX12_product 26 = .ok (.if_icmp .eq 12, 3) := by decide +kernel
theorem dX12_product_29 : decode cX12_product 29 = .ok (.aload_n 0, 1) := by decide +kernel
theorem dX12_product_30 : decode cX12_product 30 = .ok (.invokevirtual 178, 3) := by decide +kernel
theorem dX12_product_33 : decode cX12_product 33 = .ok (.bipush 37, 2) := by decide +kernel
theorem dX12_product_35 : decode cX12_product 35 = .ok (.if_icmp .ne 31, 3) := by decide +kernel
theorem dX12_product_38 : decode cX12_product 38 = .ok (.aload_n 0, 1) := by decide +kernel
theorem dX12_product_39 : decode cX12_product 39 = .ok (.invokevirtual 178, 3) := by decide +kernel
theorem dX12_product_42 : decode cX12_product 42 = .ok (.istore_n 1, 1) := by decide +kernel
theorem dX12_product_43 : decode cX12_product 43 = .ok (.aload_n 0, 1) := by decide +kernel
theorem dX12_product_44 : decode cX12_product 44 = .ok (.dup, 1) := by decide +kernel
theorem dX12_product_45 : decode cX12_product 45 = .ok (.getfield 127, 3) := by decide +kernel
theorem dX12_product_48 : decode cX12_product 48 = .ok (.iconst 1, 1) := by decide +kernel
theorem dX12_product_49 : decode cX12_product 49 = .ok (.iadd, 1) := by decide +kernel
theorem dX12_product_50 : decode cX12_product 50 = .ok (.putfield 127, 3) := by decide +kernel
theorem dX12_product_53 : decode cX12_product 53 = .ok (.aload_n 0, 1) := by decide +kernel
theorem dX12_product_54 : decode cX12_product 54 = .ok (.invokevirtual 193, 3) := by decide +kernel
theorem dX12_product_57 : decode cX12_product 57 = .ok (.aload_n 0, 1) := by decide +kernel
theorem dX12_product_58 : decode cX12_product 58 = .ok (.iload_n 1, 1) := by decide +kernel
theorem dX12_product_59 : decode cX12_product 59 = .ok (.iconst 0, 1) := by decide +kernel
theorem dX12_product_60 : decode cX12_product 60 = .ok (.invokevirtual 181, 3) := by decide +kernel
theorem dX12_product_63 : decode cX12_product 63 = .ok (.goto (-59), 3) := by decide +kernel
theorem dX12_product_66 : decode cX12_product 66 = .ok (.return_, 1) := by decide +kernel
theorem dX12_sum_0 : decode cX12_sum 0 = .ok (.aload_n 0, 1) := by decide +kernel
theorem dX12_sum_1 : decode cX12_sum 1 = .ok (.invokevirtual 202, 3) := by decide +kernel
theorem dX12_sum_4 : decode cX12_sum 4 = .ok (.aload_n 0, 1) := by decide +kernel
theorem dX12_sum_5 : decode cX12_sum 5 = .ok (.getfield 124, 3) := by decide +kernel
theorem dX12_sum_8 : decode cX12_sum 8 = .ok (.ifCond .ge 49, 3) := by decide +kernel
theorem dX12_sum_11 : decode cX12_sum 11 = .ok (.aload_n 0, 1) := by decide +kernel
theorem dX12_sum_12 : decode cX12_sum 12 = .ok (.invokevirtual 178, 3) := by decide +kernel
theorem dX12_sum_15 : decode cX12_sum 15 = .ok (.bipush 43, 2) := by decide +kernel
theorem dX12_sum_17 : decode cX12_sum 17 = .ok (.if_icmp .eq 12, 3) := by decide +kernel
theorem dX12_sum_20 : decode cX12_sum 20 = .ok (.aload_n 0, 1) := by decide +kernel
theorem dX12_sum_21 : decode cX12_sum 21 = .ok (.invokevirtual 178, 3) := by decide +kernel
theorem dX12_sum_24 : decode cX12_sum 24 = .ok (.bipush 45, 2) := by decide +kernel
theorem dX12_sum_26 : decode cX12_sum 26 = .ok (.if_icmp .ne 31, 3) := by decide +kernel
theorem dX12_sum_29 : decode cX12_sum 29 = .ok (.aload_n 0, 1) := by decide +kernel
theorem dX12_sum_30 : decode cX12_sum 30 = .ok (.invokevirtual 178, 3) := by decide +kernel
theorem dX12_sum_33 : decode cX12_sum 33 = .ok (.istore_n 1, 1) := by decide +kernel
theorem dX12_sum_34 : decode cX12_sum 34 = .ok (.aload_n 0, 1) := by decide +kernel
theorem dX12_sum_35 : decode cX12_sum 35 = .ok (.dup, 1) := by decide +kernel
theorem dX12_sum_36 : decode cX12_sum 36 = .ok (.getfield 127, 3) := by decide +kernel
theorem dX12_sum_39 : decode cX12_sum 39 = .ok (.iconst 1, 1) := by decide +kernel
theorem dX12_sum_40 : decode cX12_sum 40 = .ok (.iadd, 1) := by decide +kernel
theorem dX12_sum_41 : decode cX12_sum 41 = .ok (.putfield 127, 3) := by decide +kernel
theorem dX12_sum_44 : decode cX12_sum 44 = .ok (.aload_n 0, 1) := by decide +kernel
theorem dX12_sum_45 : decode cX12_sum 45 = .ok (.invokevirtual 202, 3) := by decide +kernel
theorem dX12_sum_48 : decode cX12_sum 48 = .ok (.aload_n 0, 1) := by decide +kernel
theorem dX12_sum_49 : decode cX12_sum 49 = .ok (.iload_n 1, 1) := by decide +kernel
theorem dX12_sum_50 : decode cX12_sum 50 = .ok (.iconst 0, 1) := by decide +kernel
theorem dX12_sum_51 : decode cX12_sum 51 = .ok (.invokevirtual 181, 3) := by decide +kernel
theorem dX12_sum_54 : decode cX12_sum 54 = .ok (.goto (-50), 3) := by decide +kernel
theorem dX12_sum_57 : decode cX12_sum 57 = .ok (.return_, 1) := by decide +kernel
theorem dX12_compared_0 : decode cX12_compared 0 = .ok (.aload_n 0, 1) := by decide +kernel
theorem dX12_compared_1 : decode cX12_compared 1 = .ok (.invokevirtual 205, 3) := by decide +kernel
theorem dX12_compared_4 : decode cX12_compared 4 = .ok (.aload_n 0, 1) := by decide +kernel
theorem dX12_compared_5 : decode cX12_compared 5 = .ok (.invokevirtual 178, 3) := by decide +kernel
theorem dX12_compared_8 : decode cX12_compared 8 = .ok (.istore_n 1, 1) := by decide +kernel
theorem dX12_compared_9 : decode cX12_compared 9 = .ok (.aload_n 0, 1) := by decide +kernel
theorem dX12_compared_10 : decode cX12_compared 10 = .ok (.getfield 124, 3) := by decide +kernel
theorem dX12_compared_13 : decode cX12_compared 13 = .ok (.ifCond .ge 21, 3) := by decide +kernel
theorem dX12_compared_16 : decode cX12_compared 16 = .ok (.iload_n 1, 1) := by decide +kernel
theorem dX12_compared_17 : decode cX12_compared 17 = .ok (.bipush 60, 2) := by decide +kernel
theorem dX12_compared_19 : decode cX12_compared 19 = .ok (.if_icmp .eq 16, 3) := by decide +kernel
theorem dX12_compared_22 : decode cX12_compared 22 = .ok (.iload_n 1, 1) := by decide +kernel
theorem dX12_compared_23 : decode cX12_compared 23 = .ok (.bipush 61, 2) := by decide +kernel
theorem dX12_compared_25 : decode cX12_compared 25 = .ok (.if_icmp .eq 10, 3) := by decide +kernel
theorem dX12_compared_28 : decode cX12_compared 28 = .ok (.iload_n 1, 1) := by decide +kernel
theorem dX12_compared_29 : decode cX12_compared 29 = .ok (.bipush 62, 2) := by decide +kernel
theorem dX12_compared_31 : decode cX12_compared 31 = .ok (.if_icmp .eq 4, 3) := by decide +kernel
theorem dX12_compared_34 : decode cX12_compared 34 = .ok (.return_, 1) := by decide +kernel
theorem dX12_compared_35 : decode cX12_compared 35 = .ok (.aload_n 0, 1) := by decide +kernel
theorem dX12_compared_36 : decode cX12_compared 36 = .ok (.dup, 1) := by decide +kernel
theorem dX12_compared_37 : decode cX12_compared 37 = .ok (.getfield 127, 3) := by decide +kernel
theorem dX12_compared_40 : decode cX12_compared 40 = .ok (.iconst 1, 1) := by decide +kernel
theorem dX12_compared_41 : decode cX12_compared 41 = .ok (.iadd, 1) := by decide +kernel
theorem dX12_compared_42 : decode cX12_compared 42 = .ok (.putfield 127, 3) := by decide +kernel
theorem dX12_compared_45 : decode cX12_compared 45 = .ok (.aload_n 0, 1) := by decide +kernel
theorem dX12_compared_46 : decode cX12_compared 46 = .ok (.invokevirtual 205, 3) := by decide +kernel
theorem dX12_compared_49 : decode cX12_compared 49 = .ok (.aload_n 0, 1) := by decide +kernel
theorem dX12_compared_50 : decode cX12_compared 50 = .ok (.iload_n 1, 1) := by decide +kernel
theorem dX12_compared_51 : decode cX12_compared 51 = .ok (.iconst 0, 1) := by decide +kernel
theorem dX12_compared_52 : decode cX12_compared 52 = .ok (.invokevirtual 181, 3) := by decide +kernel
theorem dX12_compared_55 : decode cX12_compared 55 = .ok (.return_, 1) := by decide +kernel
theorem dX12_both_0 : decode cX12_both 0 = .ok (.aload_n 0, 1) := by decide +kernel
theorem dX12_both_1 : decode cX12_both 1 = .ok (.invokevirtual 208, 3) := by decide +kernel
theorem dX12_both_4 : decode cX12_both 4 = .ok (.aload_n 0, 1) := by decide +kernel
theorem dX12_both_5 : decode cX12_both 5 = .ok (.getfield 124, 3) := by decide +kernel
theorem dX12_both_8 : decode cX12_both 8 = .ok (.ifCond .ge 36, 3) := by decide +kernel
theorem dX12_both_11 : decode cX12_both 11 = .ok (.aload_n 0, 1) := by decide +kernel
theorem dX12_both_12 : decode cX12_both 12 = .ok (.invokevirtual 178, 3) := by decide +kernel
theorem dX12_both_15 : decode cX12_both 15 = .ok (.bipush 38, 2) := by decide +kernel
theorem dX12_both_17 : decode cX12_both 17 = .ok (.if_icmp .ne 27, 3) := by decide +kernel
theorem dX12_both_20 : decode cX12_both 20 = .ok (.aload_n 0, 1) := by decide +kernel
theorem dX12_both_21 : decode cX12_both 21 = .ok (.dup, 1) := by decide +kernel
theorem dX12_both_22 : decode cX12_both 22 = .ok (.getfield 127, 3) := by decide +kernel
theorem dX12_both_25 : decode cX12_both 25 = .ok (.iconst 1, 1) := by decide +kernel
theorem dX12_both_26 : decode cX12_both 26 = .ok (.iadd, 1) := by decide +kernel
theorem dX12_both_27 : decode cX12_both 27 = .ok (.putfield 127, 3) := by decide +kernel
theorem dX12_both_30 : decode cX12_both 30 = .ok (.aload_n 0, 1) := by decide +kernel
theorem dX12_both_31 : decode cX12_both 31 = .ok (.invokevirtual 208, 3) := by decide +kernel
theorem dX12_both_34 : decode cX12_both 34 = .ok (.aload_n 0, 1) := by decide +kernel
theorem dX12_both_35 : decode cX12_both 35 = .ok (.bipush 38, 2) := by decide +kernel
theorem dX12_both_37 : decode cX12_both 37 = .ok (.iconst 0, 1) := by decide +kernel
theorem dX12_both_38 : decode cX12_both 38 = .ok (.invokevirtual 181, 3) := by decide +kernel
theorem dX12_both_41 : decode cX12_both 41 = .ok (.goto (-37), 3) := by decide +kernel
theorem dX12_both_44 : decode cX12_both 44 = .ok (.return_, 1) := by decide +kernel
theorem dX12_either_0 : decode cX12_either 0 = .ok (.aload_n 0, 1) := by decide +kernel
theorem dX12_either_1 : decode cX12_either 1 = .ok (.invokevirtual 211, 3) := by decide +kernel
theorem dX12_either_4 : decode cX12_either 4 = .ok (.aload_n 0, 1) := by decide +kernel
theorem dX12_either_5 : decode cX12_either 5 = .ok (.getfield 124, 3) := by decide +kernel
theorem dX12_either_8 : decode cX12_either 8 = .ok (.ifCond .ge 36, 3) := by decide +kernel
theorem dX12_either_11 : decode cX12_either 11 = .ok (.aload_n 0, 1) := by decide +kernel
theorem dX12_either_12 : decode cX12_either 12 = .ok (.invokevirtual 178, 3) := by decide +kernel
theorem dX12_either_15 : decode cX12_either 15 = .ok (.bipush 124, 2) := by decide +kernel
theorem dX12_either_17 : decode cX12_either 17 = .ok (.if_icmp .ne 27, 3) := by decide +kernel
theorem dX12_either_20 : decode cX12_either 20 = .ok (.aload_n 0, 1) := by decide +kernel
theorem dX12_either_21 : decode cX12_either 21 = .ok (.dup, 1) := by decide +kernel
theorem dX12_either_22 : decode cX12_either 22 = .ok (.getfield 127, 3) := by decide +kernel
theorem dX12_either_25 : decode cX12_either 25 = .ok (.iconst 1, 1) := by decide +kernel
theorem dX12_either_26 : decode cX12_either 26 = .ok (.iadd, 1) := by decide +kernel
theorem dX12_either_27 : decode cX12_either 27 = .ok (.putfield 127, 3) := by decide +kernel
theorem dX12_either_30 : decode cX12_either 30 = .ok (.aload_n 0, 1) := by decide +kernel
theorem dX12_either_31 : decode cX12_either 31 = .ok (.invokevirtual 211, 3) := by decide +kernel
theorem dX12_either_34 : decode cX12_either 34 = .ok (.aload_n 0, 1) := by decide +kernel
theorem dX12_either_35 : decode cX12_either 35 = .ok (.bipush 124, 2) := by decide +kernel
theorem dX12_either_37 : decode cX12_either 37 = .ok (.iconst 0, 1) := by decide +kernel
theorem dX12_either_38 : decode cX12_either 38 = .ok (.invokevirtual 181, 3) := by decide +kernel
theorem dX12_either_41 : decode cX12_either 41 = .ok (.goto (-37), 3) := by decide +kernel
theorem dX12_either_44 : decode cX12_either 44 = .ok (.return_, 1) := by decide +kernel
theorem dX12_readLine_0 : decode cX12_readLine 0 = .ok (.sipush 244, 3) := by decide +kernel
theorem dX12_readLine_3 : decode cX12_readLine 3 = .ok (.aload_n 0, 1) := by decide +kernel
theorem dX12_readLine_4 : decode cX12_readLine 4 = .ok (.getfield 41, 3) := by decide +kernel
theorem dX12_readLine_7 : decode cX12_readLine 7 = .ok (.iconst 4, 1) := by decide +kernel
theorem dX12_readLine_8 : decode cX12_readLine 8 = .ok (.iaload, 1) := by decide +kernel
theorem dX12_readLine_9 : decode cX12_readLine 9 = .ok (.iadd, 1) := by decide +kernel
theorem dX12_readLine_10 : decode cX12_readLine 10 = .ok (.istore_n 1, 1) := by decide +kernel
theorem dX12_readLine_11 : decode cX12_readLine 11 = .ok (.aload_n 0, 1) := by decide +kernel
theorem dX12_readLine_12 : decode cX12_readLine 12 = .ok (.getfield 44, 3) := by decide +kernel
theorem dX12_readLine_15 : decode cX12_readLine 15 = .ok (.iload_n 1, 1) := by decide +kernel
theorem dX12_readLine_16 : decode cX12_readLine 16 = .ok (.aload_n 0, 1) := by decide +kernel
theorem dX12_readLine_17 : decode cX12_readLine 17 = .ok (.getfield 169, 3) := by decide +kernel
theorem dX12_readLine_20 : decode cX12_readLine 20 = .ok (.i2s, 1) := by decide +kernel
theorem dX12_readLine_21 : decode cX12_readLine 21 = .ok (.sastore, 1) := by decide +kernel
theorem dX12_readLine_22 : decode cX12_readLine 22 = .ok (.aload_n 0, 1) := by decide +kernel
theorem dX12_readLine_23 : decode cX12_readLine 23 = .ok (.invokevirtual 196, 3) := by decide +kernel
theorem dX12_readLine_26 : decode cX12_readLine 26 = .ok (.aload_n 0, 1) := by decide +kernel
theorem dX12_readLine_27 : decode cX12_readLine 27 = .ok (.getfield 124, 3) := by decide +kernel
theorem dX12_readLine_30 : decode cX12_readLine 30 = .ok (.ifCond .ge 37, 3) := by decide +kernel
theorem dX12_readLine_33 : decode cX12_readLine 33 = .ok (.aload_n 0, 1) := by decide +kernel
theorem dX12_readLine_34 : decode cX12_readLine 34 = .ok (.invokevirtual 178, 3) := by decide +kernel
theorem dX12_readLine_37 : decode cX12_readLine 37 = .ok (.bipush 63, 2) := by decide +kernel
theorem dX12_readLine_39 : decode cX12_readLine 39 = .ok (.if_icmp .ne 28, 3) := by decide +kernel
theorem dX12_readLine_42 : decode cX12_readLine 42 = .ok (.aload_n 0, 1) := by decide +kernel
theorem dX12_readLine_43 : decode cX12_readLine 43 = .ok (.dup, 1) := by decide +kernel
theorem dX12_readLine_44 : decode cX12_readLine 44 = .ok (.getfield 127, 3) := by decide +kernel
theorem dX12_readLine_47 : decode cX12_readLine 47 = .ok (.iconst 1, 1) := by decide +kernel
theorem dX12_readLine_48 : decode cX12_readLine 48 = .ok (.iadd, 1) := by decide +kernel
theorem dX12_readLine_49 : decode cX12_readLine 49 = .ok (.putfield 127, 3) := by decide +kernel
theorem dX12_readLine_52 : decode cX12_readLine 52 = .ok (.aload_n 0, 1) := by decide +kernel
theorem dX12_readLine_53 : decode cX12_readLine 53 = .ok (.getfield 44, 3) := by decide +kernel
theorem dX12_readLine_56 : decode cX12_readLine 56 = .ok (.iload_n 1, 1) := by decide +kernel
theorem dX12_readLine_57 : decode cX12_readLine 57 = .ok (.aload_n 0, 1) := by decide +kernel
theorem dX12_readLine_58 : decode cX12_readLine 58 = .ok (.getfield 169, 3) := by decide +kernel
theorem dX12_readLine_61 : decode cX12_readLine 61 = .ok (.i2s, 1) := by decide +kernel
theorem dX12_readLine_62 : decode cX12_readLine 62 = .ok (.sastore, 1) := by decide +kernel
theorem dX12_readLine_63 : decode cX12_readLine 63 = .ok (.aload_n 0, 1) := by decide +kernel
theorem dX12_readLine_64 : decode cX12_readLine 64 = .ok (.invokevirtual 196, 3) := by decide +kernel
theorem dX12_readLine_67 : decode cX12_readLine 67 = .ok (.aload_n 0, 1) := by decide +kernel
theorem dX12_readLine_68 : decode cX12_readLine 68 = .ok (.getfield 48, 3) := by decide +kernel
theorem dX12_readLine_71 : decode cX12_readLine 71 = .ok (.iload_n 1, 1) := by decide +kernel
theorem dX12_readLine_72 : decode cX12_readLine 72 = .ok (.aload_n 0, 1) := by decide +kernel
theorem dX12_readLine_73 : decode cX12_readLine 73 = .ok (.getfield 169, 3) := by decide +kernel
theorem dX12_readLine_76 : decode cX12_readLine 76 = .ok (.i2s, 1) := by decide +kernel
theorem dX12_readLine_77 : decode cX12_readLine 77 = .ok (.sastore, 1) := by decide +kernel
theorem dX12_readLine_78 : decode cX12_readLine 78 = .ok (.aload_n 0, 1) := by decide +kernel
theorem dX12_readLine_79 : decode cX12_readLine 79 = .ok (.getfield 41, 3) := by decide +kernel
theorem dX12_readLine_82 : decode cX12_readLine 82 = .ok (.iconst 4, 1) := by decide +kernel
theorem dX12_readLine_83 : decode cX12_readLine 83 = .ok (.dup2, 1) := by decide +kernel
theorem dX12_readLine_84 : decode cX12_readLine 84 = .ok (.iaload, 1) := by decide +kernel
theorem dX12_readLine_85 : decode cX12_readLine 85 = .ok (.iconst 1, 1) := by decide +kernel
theorem dX12_readLine_86 : decode cX12_readLine 86 = .ok (.iadd, 1) := by decide +kernel
theorem dX12_readLine_87 : decode cX12_readLine 87 = .ok (.iastore, 1) := by decide +kernel
theorem dX12_readLine_88 : decode cX12_readLine 88 = .ok (.return_, 1) := by decide +kernel
theorem dX12_readText_0 : decode cX12_readText 0 = .ok (.aload_n 0, 1) := by decide +kernel
theorem dX12_readText_1 : decode cX12_readText 1 = .ok (.iconst 0, 1) := by decide +kernel
theorem dX12_readText_2 : decode cX12_readText 2 = .ok (.putfield 127, 3) := by decide +kernel
theorem dX12_readText_5 : decode cX12_readText 5 = .ok (.aload_n 0, 1) := by decide +kernel
theorem dX12_readText_6 : decode cX12_readText 6 = .ok (.iconst (-1), 1) := by decide +kernel
theorem dX12_readText_7 : decode cX12_readText 7 = .ok (.putfield 124, 3) := by decide +kernel
theorem dX12_readText_10 : decode cX12_readText 10 = .ok (.aload_n 0, 1) := by decide +kernel
theorem dX12_readText_11 : decode cX12_readText 11 = .ok (.iconst 0, 1) := by decide +kernel
theorem dX12_readText_12 : decode cX12_readText 12 = .ok (.putfield 172, 3) := by decide +kernel
theorem dX12_readText_15 : decode cX12_readText 15 = .ok (.aload_n 0, 1) := by decide +kernel
theorem dX12_readText_16 : decode cX12_readText 16 = .ok (.iconst 0, 1) := by decide +kernel
theorem dX12_readText_17 : decode cX12_readText 17 = .ok (.putfield 169, 3) := by decide +kernel
theorem dX12_readText_20 : decode cX12_readText 20 = .ok (.aload_n 0, 1) := by decide +kernel
theorem dX12_readText_21 : decode cX12_readText 21 = .ok (.getfield 41, 3) := by decide +kernel
theorem dX12_readText_24 : decode cX12_readText 24 = .ok (.iconst 4, 1) := by decide +kernel
theorem dX12_readText_25 : decode cX12_readText 25 = .ok (.iconst 0, 1) := by decide +kernel
theorem dX12_readText_26 : decode cX12_readText 26 = .ok (.iastore, 1) := by decide +kernel
theorem dX12_readText_27 : decode cX12_readText 27 = .ok (.aload_n 0, 1) := by decide +kernel
theorem dX12_readText_28 : decode cX12_readText 28 = .ok (.invokevirtual 214, 3) := by decide +kernel
theorem dX12_readText_31 : decode cX12_readText 31 = .ok (.aload_n 0, 1) := by decide +kernel
theorem dX12_readText_32 : decode cX12_readText 32 = .ok (.getfield 124, 3) := by decide +kernel
theorem dX12_readText_35 : decode cX12_readText 35 = .ok (.ifCond .ge 29, 3) := by decide +kernel
theorem dX12_readText_38 : decode cX12_readText 38 = .ok (.aload_n 0, 1) := by decide +kernel
theorem dX12_readText_39 : decode cX12_readText 39 = .ok (.invokevirtual 178, 3) := by decide +kernel
theorem dX12_readText_42 : decode cX12_readText 42 = .ok (.bipush 59, 2) := by decide +kernel
theorem dX12_readText_44 : decode cX12_readText 44 = .ok (.if_icmp .ne 20, 3) := by decide +kernel
theorem dX12_readText_47 : decode cX12_readText 47 = .ok (.aload_n 0, 1) := by decide +kernel
theorem dX12_readText_48 : decode cX12_readText 48 = .ok (.dup, 1) := by decide +kernel
theorem dX12_readText_49 : decode cX12_readText 49 = .ok (.getfield 127, 3) := by decide +kernel
theorem dX12_readText_52 : decode cX12_readText 52 = .ok (.iconst 1, 1) := by decide +kernel
theorem dX12_readText_53 : decode cX12_readText 53 = .ok (.iadd, 1) := by decide +kernel
theorem dX12_readText_54 : decode cX12_readText 54 = .ok (.putfield 127, 3) := by decide +kernel
theorem dX12_readText_57 : decode cX12_readText 57 = .ok (.aload_n 0, 1) := by decide +kernel
theorem dX12_readText_58 : decode cX12_readText 58 = .ok (.invokevirtual 214, 3) := by decide +kernel
theorem dX12_readText_61 : decode cX12_readText 61 = .ok (.goto (-30), 3) := by decide +kernel
theorem dX12_readText_64 : decode cX12_readText 64 = .ok (.aload_n 0, 1) := by decide +kernel
theorem dX12_readText_65 : decode cX12_readText 65 = .ok (.getfield 124, 3) := by decide +kernel
theorem dX12_readText_68 : decode cX12_readText 68 = .ok (.ifCond .ge 18, 3) := by decide +kernel
theorem dX12_readText_71 : decode cX12_readText 71 = .ok (.aload_n 0, 1) := by decide +kernel
theorem dX12_readText_72 : decode cX12_readText 72 = .ok (.getfield 127, 3) := by decide +kernel
theorem dX12_readText_75 : decode cX12_readText 75 = .ok (.aload_n 0, 1) := by decide +kernel
theorem dX12_readText_76 : decode cX12_readText 76 = .ok (.getfield 114, 3) := by decide +kernel
theorem dX12_readText_79 : decode cX12_readText 79 = .ok (.if_icmp .ge 7, 3) := by decide +kernel
theorem dX12_readText_82 : decode cX12_readText 82 = .ok (.aload_n 0, 1) := by decide +kernel
theorem dX12_readText_83 : decode cX12_readText 83 = .ok (.invokevirtual 175, 3) := by decide +kernel
theorem dX12_readText_86 : decode cX12_readText 86 = .ok (.aload_n 0, 1) := by decide +kernel
theorem dX12_readText_87 : decode cX12_readText 87 = .ok (.iconst 0, 1) := by decide +kernel
theorem dX12_readText_88 : decode cX12_readText 88 = .ok (.putfield 114, 3) := by decide +kernel
theorem dX12_readText_91 : decode cX12_readText 91 = .ok (.aload_n 0, 1) := by decide +kernel
theorem dX12_readText_92 : decode cX12_readText 92 = .ok (.getfield 124, 3) := by decide +kernel
theorem dX12_readText_95 : decode cX12_readText 95 = .ok (.ifCond .lt 8, 3) := by decide +kernel
theorem dX12_readText_98 : decode cX12_readText 98 = .ok (.aload_n 0, 1) := by decide +kernel
theorem dX12_readText_99 : decode cX12_readText 99 = .ok (.getfield 124, 3) := by decide +kernel
theorem dX12_readText_102 : decode cX12_readText 102 = .ok (.ireturn, 1) := by decide +kernel
theorem dX12_readText_103 : decode cX12_readText 103 = .ok (.iconst 0, 1) := by decide +kernel
theorem dX12_readText_104 : decode cX12_readText 104 = .ok (.istore_n 2, 1) := by decide +kernel
theorem dX12_readText_105 : decode cX12_readText 105 = .ok (.iload_n 2, 1) := by decide +kernel
theorem dX12_readText_106 : decode cX12_readText 106 = .ok (.aload_n 0, 1) := by decide +kernel
theorem dX12_readText_107 : decode cX12_readText 107 = .ok (.getfield 169, 3) := by decide +kernel
theorem dX12_readText_110 : decode cX12_readText 110 = .ok (.if_icmp .ge 53, 3) := by decide +kernel
theorem dX12_readText_113 : decode cX12_readText 113 = .ok (.aload_n 0, 1) := by decide +kernel
theorem dX12_readText_114 : decode cX12_readText 114 = .ok (.getfield 35, 3) := by decide +kernel
theorem dX12_readText_117 : decode cX12_readText 117 = .ok (.sipush 130, 3) := by decide +kernel
theorem dX12_readText_120 : decode cX12_readText 120 = .ok (.iload_n 1, 1) := by decide +kernel
theorem dX12_readText_121 : decode cX12_readText 121 = .ok (.imul, 1) := by decide +kernel
theorem dX12_readText_122 : decode cX12_readText 122 = .ok (.iload_n 2, 1) := by decide +kernel
theorem dX12_readText_123 : decode cX12_readText 123 = .ok (.iadd, 1) := by decide +kernel
theorem dX12_readText_124 : decode cX12_readText 124 = .ok (.aload_n 0, 1) := by decide +kernel
theorem dX12_readText_125 : decode cX12_readText 125 = .ok (.getfield 35, 3) := by decide +kernel
theorem dX12_readText_128 : decode cX12_readText 128 = .ok (.sipush 520, 3) := by decide +kernel
theorem dX12_readText_131 : decode cX12_readText 131 = .ok (.iload_n 2, 1) := by decide +kernel
theorem dX12_readText_132 : decode cX12_readText 132 = .ok (.iadd, 1) := by decide +kernel
theorem dX12_readText_133 : decode cX12_readText 133 = .ok (.baload, 1) := by decide +kernel
theorem dX12_readText_134 : decode cX12_readText 134 = .ok (.bastore, 1) := by decide +kernel
theorem dX12_readText_135 : decode cX12_readText 135 = .ok (.aload_n 0, 1) := by decide +kernel
theorem dX12_readText_136 : decode cX12_readText 136 = .ok (.getfield 38, 3) := by decide +kernel
theorem dX12_readText_139 : decode cX12_readText 139 = .ok (.sipush 130, 3) := by decide +kernel
theorem dX12_readText_142 : decode cX12_readText 142 = .ok (.iload_n 1, 1) := by decide +kernel
theorem dX12_readText_143 : decode cX12_readText 143 = .ok (.imul, 1) := by decide +kernel
theorem dX12_readText_144 : decode cX12_readText 144 = .ok (.iload_n 2, 1) := by decide +kernel
theorem dX12_readText_145 : decode cX12_readText 145 = .ok (.iadd, 1) := by decide +kernel
theorem dX12_readText_146 : decode cX12_readText 146 = .ok (.aload_n 0, 1) := by decide +kernel
theorem dX12_readText_147 : decode cX12_readText 147 = .ok (.getfield 38, 3) := by decide +kernel
theorem dX12_readText_150 : decode cX12_readText 150 = .ok (.sipush 520, 3) := by decide +kernel
theorem dX12_readText_153 : decode cX12_readText 153 = .ok (.iload_n 2, 1) := by decide +kernel
theorem dX12_readText_154 : decode cX12_readText 154 = .ok (.iadd, 1) := by decide +kernel
theorem dX12_readText_155 : decode cX12_readText 155 = .ok (.iaload, 1) := by decide +kernel
theorem dX12_readText_156 : decode cX12_readText 156 = .ok (.iastore, 1) := by decide +kernel
theorem dX12_readText_157 : decode cX12_readText 157 = .ok (.iinc 2 1, 3) := by decide +kernel
theorem dX12_readText_160 : decode cX12_readText 160 = .ok (.goto (-55), 3) := by decide +kernel
theorem dX12_readText_163 : decode cX12_readText 163 = .ok (.aload_n 0, 1) := by decide +kernel
theorem dX12_readText_164 : decode cX12_readText 164 = .ok (.getfield 41, 3) := by decide +kernel
theorem dX12_readText_167 : decode cX12_readText 167 = .ok (.iload_n 1, 1) := by decide +kernel
theorem dX12_readText_168 : decode cX12_readText 168 = .ok (.aload_n 0, 1) := by decide +kernel
theorem dX12_readText_169 : decode cX12_readText 169 = .ok (.getfield 41, 3) := by decide +kernel
theorem dX12_readText_172 : decode cX12_readText 172 = .ok (.iconst 4, 1) := by decide +kernel
theorem dX12_readText_173 : decode cX12_readText 173 = .ok (.iaload, 1) := by decide +kernel
theorem dX12_readText_174 : decode cX12_readText 174 = .ok (.iastore, 1) := by decide +kernel
theorem dX12_readText_175 : decode cX12_readText 175 = .ok (.iconst 0, 1) := by decide +kernel
theorem dX12_readText_176 : decode cX12_readText 176 = .ok (.istore_n 2, 1) := by decide +kernel
theorem dX12_readText_177 : decode cX12_readText 177 = .ok (.iload_n 2, 1) := by decide +kernel
theorem dX12_readText_178 : decode cX12_readText 178 = .ok (.aload_n 0, 1) := by decide +kernel
theorem dX12_readText_179 : decode cX12_readText 179 = .ok (.getfield 41, 3) := by decide +kernel
theorem dX12_readText_182 : decode cX12_readText 182 = .ok (.iload_n 1, 1) := by decide +kernel
theorem dX12_readText_183 : decode cX12_readText 183 = .ok (.iaload, 1) := by decide +kernel
theorem dX12_readText_184 : decode cX12_readText 184 = .ok (.if_icmp .ge 51, 3) := by decide +kernel
theorem dX12_readText_187 : decode cX12_readText 187 = .ok (.aload_n 0, 1) := by decide +kernel
theorem dX12_readText_188 : decode cX12_readText 188 = .ok (.getfield 44, 3) := by decide +kernel
theorem dX12_readText_191 : decode cX12_readText 191 = .ok (.bipush 61, 2) := by decide +kernel
theorem dX12_readText_193 : decode cX12_readText 193 = .ok (.iload_n 1, 1) := by decide +kernel
theorem dX12_readText_194 : decode cX12_readText 194 = .ok (.imul, 1) := by decide +kernel
theorem dX12_readText_195 : decode cX12_readText 195 = .ok (.iload_n 2, 1) := by decide +kernel
theorem dX12_readText_196 : decode cX12_readText 196 = .ok (.iadd, 1) := by decide +kernel
theorem dX12_readText_197 : decode cX12_readText 197 = .ok (.aload_n 0, 1) := by decide +kernel
theorem dX12_readText_198 : decode cX12_readText 198 = .ok (.getfield 44, 3) := by decide +kernel
theorem dX12_readText_201 : decode cX12_readText 201 = .ok (.sipush 244, 3) := by decide +kernel
theorem dX12_readText_204 : decode cX12_readText 204 = .ok (.iload_n 2, 1) := by decide +kernel
theorem dX12_readText_205 : decode cX12_readText 205 = .ok (.iadd, 1) := by decide +kernel
theorem dX12_readText_206 : decode cX12_readText 206 = .ok (.saload, 1) := by decide +kernel
theorem dX12_readText_207 : decode cX12_readText 207 = .ok (.sastore, 1) := by decide +kernel
theorem dX12_readText_208 : decode cX12_readText 208 = .ok (.aload_n 0, 1) := by decide +kernel
theorem dX12_readText_209 : decode cX12_readText 209 = .ok (.getfield 48, 3) := by decide +kernel
theorem dX12_readText_212 : decode cX12_readText 212 = .ok (.bipush 61, 2) := by decide +kernel
theorem dX12_readText_214 : decode cX12_readText 214 = .ok (.iload_n 1, 1) := by decide +kernel
theorem dX12_readText_215 : decode cX12_readText 215 = .ok (.imul, 1) := by decide +kernel
theorem dX12_readText_216 : decode cX12_readText 216 = .ok (.iload_n 2, 1) := by decide +kernel
theorem dX12_readText_217 : decode cX12_readText 217 = .ok (.iadd, 1) := by decide +kernel
theorem dX12_readText_218 : decode cX12_readText 218 = .ok (.aload_n 0, 1) := by decide +kernel
theorem dX12_readText_219 : decode cX12_readText 219 = .ok (.getfield 48, 3) := by decide +kernel
theorem dX12_readText_222 : decode cX12_readText 222 = .ok (.sipush 244, 3) := by decide +kernel
theorem dX12_readText_225 : decode cX12_readText 225 = .ok (.iload_n 2, 1) := by decide +kernel
theorem dX12_readText_226 : decode cX12_readText 226 = .ok (.iadd, 1) := by decide +kernel
theorem dX12_readText_227 : decode cX12_readText 227 = .ok (.saload, 1) := by decide +kernel
theorem dX12_readText_228 : decode cX12_readText 228 = .ok (.sastore, 1) := by decide +kernel
theorem dX12_readText_229 : decode cX12_readText 229 = .ok (.iinc 2 1, 3) := by decide +kernel
theorem dX12_readText_232 : decode cX12_readText 232 = .ok (.goto (-55), 3) := by decide +kernel
theorem dX12_readText_235 : decode cX12_readText 235 = .ok (.iconst (-1), 1) := by decide +kernel
theorem dX12_readText_236 : decode cX12_readText 236 = .ok (.ireturn, 1) := by decide +kernel
theorem dX12_twoOf_0 : decode cX12_twoOf 0 = .ok (.iload_n 0, 1) := by decide +kernel
theorem dX12_twoOf_1 : decode cX12_twoOf 1 = .ok (.tableswitch 217 37 62 #[153, 203, 217, 217, 217, 127, 119, 217, 123, 217, 131, 217, 217, 217, 217, 217, 217, 217, 217, 217, 217, 217, 217, 170, 181, 192], 119) := by decide +kernel
theorem dX12_twoOf_120 : decode cX12_twoOf 120 = .ok (.iload_n 1, 1) := by decide +kernel
theorem dX12_twoOf_121 : decode cX12_twoOf 121 = .ok (.iload_n 2, 1) := by decide +kernel
theorem dX12_twoOf_122 : decode cX12_twoOf 122 = .ok (.iadd, 1) := by decide +kernel
theorem dX12_twoOf_123 : decode cX12_twoOf 123 = .ok (.ireturn, 1) := by decide +kernel
theorem dX12_twoOf_124 : decode cX12_twoOf 124 = .ok (.iload_n 1, 1) := by decide +kernel
theorem dX12_twoOf_125 : decode cX12_twoOf 125 = .ok (.iload_n 2, 1) := by decide +kernel
theorem dX12_twoOf_126 : decode cX12_twoOf 126 = .ok (.isub, 1) := by decide +kernel
theorem dX12_twoOf_127 : decode cX12_twoOf 127 = .ok (.ireturn, 1) := by decide +kernel
theorem dX12_twoOf_128 : decode cX12_twoOf 128 = .ok (.iload_n 1, 1) := by decide +kernel
theorem dX12_twoOf_129 : decode cX12_twoOf 129 = .ok (.iload_n 2, 1) := by decide +kernel
theorem dX12_twoOf_130 : decode cX12_twoOf 130 = .ok (.imul, 1) := by decide +kernel
theorem dX12_twoOf_131 : decode cX12_twoOf 131 = .ok (.ireturn, 1) := by decide +kernel
theorem dX12_twoOf_132 : decode cX12_twoOf 132 = .ok (.iload_n 2, 1) := by decide +kernel
theorem dX12_twoOf_133 : decode cX12_twoOf 133 = .ok (.ifCond .ne 7, 3) := by decide +kernel
theorem dX12_twoOf_136 : decode cX12_twoOf 136 = .ok (.iconst 0, 1) := by decide +kernel
theorem dX12_twoOf_137 : decode cX12_twoOf 137 = .ok (.goto 16, 3) := by decide +kernel
theorem dX12_twoOf_140 : decode cX12_twoOf 140 = .ok (.iload_n 2, 1) := by decide +kernel
theorem dX12_twoOf_141 : decode cX12_twoOf 141 = .ok (.iconst (-1), 1) := by decide +kernel
theorem dX12_twoOf_142 : decode cX12_twoOf 142 = .ok (.if_icmp .ne 8, 3) := by decide +kernel
theorem dX12_twoOf_145 : decode cX12_twoOf 145 = .ok (.iload_n 1, 1) := by decide +kernel
theorem dX12_twoOf_146 : decode cX12_twoOf 146 = .ok (.ineg, 1) := by decide +kernel
theorem dX12_twoOf_147 : decode cX12_twoOf 147 = .ok (.goto 6, 3) := by decide +kernel
theorem dX12_twoOf_150 : decode cX12_twoOf 150 = .ok (.iload_n 1, 1) := by decide +kernel
theorem dX12_twoOf_151 : decode cX12_twoOf 151 = .ok (.iload_n 2, 1) := by decide +kernel
theorem dX12_twoOf_152 : decode cX12_twoOf 152 = .ok (.idiv, 1) := by decide +kernel
theorem dX12_twoOf_153 : decode cX12_twoOf 153 = .ok (.ireturn, 1) := by decide +kernel
theorem dX12_twoOf_154 : decode cX12_twoOf 154 = .ok (.iload_n 2, 1) := by decide +kernel
theorem dX12_twoOf_155 : decode cX12_twoOf 155 = .ok (.ifCond .eq 8, 3) := by decide +kernel
theorem dX12_twoOf_158 : decode cX12_twoOf 158 = .ok (.iload_n 2, 1) := by decide +kernel
theorem dX12_twoOf_159 : decode cX12_twoOf 159 = .ok (.iconst (-1), 1) := by decide +kernel
theorem dX12_twoOf_160 : decode cX12_twoOf 160 = .ok (.if_icmp .ne 7, 3) := by decide +kernel
theorem dX12_twoOf_163 : decode cX12_twoOf 163 = .ok (.iconst 0, 1) := by decide +kernel
theorem dX12_twoOf_164 : decode cX12_twoOf 164 = .ok (.goto 6, 3) := by decide +kernel
theorem dX12_twoOf_167 : decode cX12_twoOf 167 = .ok (.iload_n 1, 1) := by decide +kernel
theorem dX12_twoOf_168 : decode cX12_twoOf 168 = .ok (.iload_n 2, 1) := by decide +kernel
theorem dX12_twoOf_169 : decode cX12_twoOf 169 = .ok (.irem, 1) := by decide +kernel
theorem dX12_twoOf_170 : decode cX12_twoOf 170 = .ok (.ireturn, 1) := by decide +kernel
theorem dX12_twoOf_171 : decode cX12_twoOf 171 = .ok (.iload_n 1, 1) := by decide +kernel
theorem dX12_twoOf_172 : decode cX12_twoOf 172 = .ok (.iload_n 2, 1) := by decide +kernel
theorem dX12_twoOf_173 : decode cX12_twoOf 173 = .ok (.if_icmp .ge 7, 3) := by decide +kernel
theorem dX12_twoOf_176 : decode cX12_twoOf 176 = .ok (.iconst 1, 1) := by decide +kernel
theorem dX12_twoOf_177 : decode cX12_twoOf 177 = .ok (.goto 4, 3) := by decide +kernel
theorem dX12_twoOf_180 : decode cX12_twoOf 180 = .ok (.iconst 0, 1) := by decide +kernel
theorem dX12_twoOf_181 : decode cX12_twoOf 181 = .ok (.ireturn, 1) := by decide +kernel
theorem dX12_twoOf_182 : decode cX12_twoOf 182 = .ok (.iload_n 1, 1) := by decide +kernel
theorem dX12_twoOf_183 : decode cX12_twoOf 183 = .ok (.iload_n 2, 1) := by decide +kernel
theorem dX12_twoOf_184 : decode cX12_twoOf 184 = .ok (.if_icmp .ne 7, 3) := by decide +kernel
theorem dX12_twoOf_187 : decode cX12_twoOf 187 = .ok (.iconst 1, 1) := by decide +kernel
theorem dX12_twoOf_188 : decode cX12_twoOf 188 = .ok (.goto 4, 3) := by decide +kernel
theorem dX12_twoOf_191 : decode cX12_twoOf 191 = .ok (.iconst 0, 1) := by decide +kernel
theorem dX12_twoOf_192 : decode cX12_twoOf 192 = .ok (.ireturn, 1) := by decide +kernel
theorem dX12_twoOf_193 : decode cX12_twoOf 193 = .ok (.iload_n 1, 1) := by decide +kernel
theorem dX12_twoOf_194 : decode cX12_twoOf 194 = .ok (.iload_n 2, 1) := by decide +kernel
theorem dX12_twoOf_195 : decode cX12_twoOf 195 = .ok (.if_icmp .le 7, 3) := by decide +kernel
theorem dX12_twoOf_198 : decode cX12_twoOf 198 = .ok (.iconst 1, 1) := by decide +kernel
theorem dX12_twoOf_199 : decode cX12_twoOf 199 = .ok (.goto 4, 3) := by decide +kernel
theorem dX12_twoOf_202 : decode cX12_twoOf 202 = .ok (.iconst 0, 1) := by decide +kernel
theorem dX12_twoOf_203 : decode cX12_twoOf 203 = .ok (.ireturn, 1) := by decide +kernel
theorem dX12_twoOf_204 : decode cX12_twoOf 204 = .ok (.iload_n 1, 1) := by decide +kernel
theorem dX12_twoOf_205 : decode cX12_twoOf 205 = .ok (.ifCond .eq 11, 3) := by decide +kernel
theorem dX12_twoOf_208 : decode cX12_twoOf 208 = .ok (.iload_n 2, 1) := by decide +kernel
theorem dX12_twoOf_209 : decode cX12_twoOf 209 = .ok (.ifCond .eq 7, 3) := by decide +kernel
theorem dX12_twoOf_212 : decode cX12_twoOf 212 = .ok (.iconst 1, 1) := by decide +kernel
theorem dX12_twoOf_213 : decode cX12_twoOf 213 = .ok (.goto 4, 3) := by decide +kernel
theorem dX12_twoOf_216 : decode cX12_twoOf 216 = .ok (.iconst 0, 1) := by decide +kernel
theorem dX12_twoOf_217 : decode cX12_twoOf 217 = .ok (.ireturn, 1) := by decide +kernel
theorem dX12_twoOf_218 : decode cX12_twoOf 218 = .ok (.iload_n 1, 1) := by decide +kernel
theorem dX12_twoOf_219 : decode cX12_twoOf 219 = .ok (.ifCond .ne 7, 3) := by decide +kernel
theorem dX12_twoOf_222 : decode cX12_twoOf 222 = .ok (.iload_n 2, 1) := by decide +kernel
theorem dX12_twoOf_223 : decode cX12_twoOf 223 = .ok (.ifCond .eq 7, 3) := by decide +kernel
theorem dX12_twoOf_226 : decode cX12_twoOf 226 = .ok (.iconst 1, 1) := by decide +kernel
theorem dX12_twoOf_227 : decode cX12_twoOf 227 = .ok (.goto 4, 3) := by decide +kernel
theorem dX12_twoOf_230 : decode cX12_twoOf 230 = .ok (.iconst 0, 1) := by decide +kernel
theorem dX12_twoOf_231 : decode cX12_twoOf 231 = .ok (.ireturn, 1) := by decide +kernel
theorem dX12_worked_0 : decode cX12_worked 0 = .ok (.iconst 0, 1) := by decide +kernel
theorem dX12_worked_1 : decode cX12_worked 1 = .ok (.istore 4, 2) := by decide +kernel
theorem dX12_worked_3 : decode cX12_worked 3 = .ok (.sipush 130, 3) := by decide +kernel
theorem dX12_worked_6 : decode cX12_worked 6 = .ok (.iload_n 1, 1) := by decide +kernel
theorem dX12_worked_7 : decode cX12_worked 7 = .ok (.imul, 1) := by decide +kernel
theorem dX12_worked_8 : decode cX12_worked 8 = .ok (.iload_n 2, 1) := by decide +kernel
theorem dX12_worked_9 : decode cX12_worked 9 = .ok (.iadd, 1) := by decide +kernel
theorem dX12_worked_10 : decode cX12_worked 10 = .ok (.istore 5, 2) := by decide +kernel
theorem dX12_worked_12 : decode cX12_worked 12 = .ok (.iload 5, 2) := by decide +kernel
theorem dX12_worked_14 : decode cX12_worked 14 = .ok (.sipush 130, 3) := by decide +kernel
theorem dX12_worked_17 : decode cX12_worked 17 = .ok (.iload_n 1, 1) := by decide +kernel
theorem dX12_worked_18 : decode cX12_worked 18 = .ok (.imul, 1) := by decide +kernel
theorem dX12_worked_19 : decode cX12_worked 19 = .ok (.iload_n 3, 1) := by decide +kernel
theorem dX12_worked_20 : decode cX12_worked 20 = .ok (.iadd, 1) := by decide +kernel
theorem dX12_worked_21 : decode cX12_worked 21 = .ok (.if_icmp .ge 167, 3) := by decide +kernel
theorem dX12_worked_24 : decode cX12_worked 24 = .ok (.aload_n 0, 1) := by decide +kernel
theorem dX12_worked_25 : decode cX12_worked 25 = .ok (.getfield 35, 3) := by decide +kernel
theorem dX12_worked_28 : decode cX12_worked 28 = .ok (.iload 5, 2) := by decide +kernel
theorem dX12_worked_30 : decode cX12_worked 30 = .ok (.baload, 1) := by decide +kernel
theorem dX12_worked_31 : decode cX12_worked 31 = .ok (.istore 6, 2) := by decide +kernel
theorem dX12_worked_33 : decode cX12_worked 33 = .ok (.iload 6, 2) := by decide +kernel
theorem dX12_worked_35 : decode cX12_worked 35 = .ok (.iconst 1, 1) := by decide +kernel
theorem dX12_worked_36 : decode cX12_worked 36 = .ok (.if_icmp .eq 9, 3) := by decide +kernel
theorem dX12_worked_39 : decode cX12_worked 39 = .ok (.iload 6, 2) := by decide +kernel
theorem dX12_worked_41 : decode cX12_worked 41 = .ok (.iconst 2, 1) := by decide +kernel
theorem dX12_worked_42 : decode cX12_worked 42 = .ok (.if_icmp .ne 44, 3) := by decide +kernel
theorem dX12_worked_45 : decode cX12_worked 45 = .ok (.aload_n 0, 1) := by decide +kernel
theorem dX12_worked_46 : decode cX12_worked 46 = .ok (.getfield 54, 3) := by decide +kernel
theorem dX12_worked_49 : decode cX12_worked 49 = .ok (.iload 4, 2) := by decide +kernel
theorem dX12_worked_51 : decode cX12_worked 51 = .ok (.iload 6, 2) := by decide +kernel
theorem dX12_worked_53 : decode cX12_worked 53 = .ok (.iconst 1, 1) := by decide +kernel
theorem dX12_worked_54 : decode cX12_worked 54 = .ok (.if_icmp .ne 13, 3) := by decide +kernel
theorem dX12_worked_57 : decode cX12_worked 57 = .ok (.aload_n 0, 1) := by decide +kernel
theorem dX12_worked_58 : decode cX12_worked 58 = .ok (.getfield 38, 3) := by decide +kernel
theorem dX12_worked_61 : decode cX12_worked 61 = .ok (.iload 5, 2) := by decide +kernel
theorem dX12_worked_63 : decode cX12_worked 63 = .ok (.iaload, 1) := by decide +kernel
theorem dX12_worked_64 : decode cX12_worked 64 = .ok (.goto 15, 3) := by decide +kernel
theorem dX12_worked_67 : decode cX12_worked 67 = .ok (.aload_n 0, 1) := by decide +kernel
theorem dX12_worked_68 : decode cX12_worked 68 = .ok (.getfield 51, 3) := by decide +kernel
theorem dX12_worked_71 : decode cX12_worked 71 = .ok (.aload_n 0, 1) := by decide +kernel
theorem dX12_worked_72 : decode cX12_worked 72 = .ok (.getfield 38, 3) := by decide +kernel
theorem dX12_worked_75 : decode cX12_worked 75 = .ok (.iload 5, 2) := by decide +kernel
theorem dX12_worked_77 : decode cX12_worked 77 = .ok (.iaload, 1) := by decide +kernel
theorem dX12_worked_78 : decode cX12_worked 78 = .ok (.iaload, 1) := by decide +kernel
theorem dX12_worked_79 : decode cX12_worked 79 = .ok (.iastore, 1) := by decide +kernel
theorem dX12_worked_80 : decode cX12_worked 80 = .ok (.iinc 4 1, 3) := by decide +kernel
theorem dX12_worked_83 : decode cX12_worked 83 = .ok (.goto 99, 3) := by decide +kernel
theorem dX12_worked_86 : decode cX12_worked 86 = .ok (.iload 6, 2) := by decide +kernel
theorem dX12_worked_88 : decode cX12_worked 88 = .ok (.iconst 3, 1) := by decide +kernel
theorem dX12_worked_89 : decode cX12_worked 89 = .ok (.if_icmp .ne 32, 3) := by decide +kernel
theorem dX12_worked_92 : decode cX12_worked 92 = .ok (.aload_n 0, 1) := by decide +kernel
theorem dX12_worked_93 : decode cX12_worked 93 = .ok (.getfield 54, 3) := by decide +kernel
theorem dX12_worked_96 : decode cX12_worked 96 = .ok (.iload 4, 2) := by decide +kernel
theorem dX12_worked_98 : decode cX12_worked 98 = .ok (.iconst 1, 1) := by decide +kernel
theorem dX12_worked_99 : decode cX12_worked 99 = .ok (.isub, 1) := by decide +kernel
theorem dX12_worked_100 : decode cX12_worked 100 = .ok (.aload_n 0, 1) := by decide +kernel
theorem dX12_worked_101 : decode cX12_worked 101 = .ok (.getfield 54, 3) := by decide +kernel
theorem dX12_worked_104 : decode cX12_worked 104 = .ok (.iload 4, 2) := by decide +kernel
theorem dX12_worked_106 : decode cX12_worked 106 = .ok (.iconst 1, 1) := by decide +kernel
theorem dX12_worked_107 : decode cX12_worked 107 = .ok (.isub, 1) := by decide +kernel
theorem dX12_worked_108 : decode cX12_worked 108 = .ok (.iaload, 1) := by decide +kernel
theorem dX12_worked_109 : decode cX12_worked 109 = .ok (.ifCond .ne 7, 3) := by decide +kernel
theorem dX12_worked_112 : decode cX12_worked 112 = .ok (.iconst 1, 1) := by decide +kernel
theorem dX12_worked_113 : decode cX12_worked 113 = .ok (.goto 4, 3) := by decide +kernel
theorem dX12_worked_116 : decode cX12_worked 116 = .ok (.iconst 0, 1) := by decide +kernel
theorem dX12_worked_117 : decode cX12_worked 117 = .ok (.iastore, 1) := by decide +kernel
theorem dX12_worked_118 : decode cX12_worked 118 = .ok (.goto 64, 3) := by decide +kernel
theorem dX12_worked_121 : decode cX12_worked 121 = .ok (.iload 6, 2) := by decide +kernel
theorem dX12_worked_123 : decode cX12_worked 123 = .ok (.iconst 4, 1) := by decide +kernel
theorem dX12_worked_124 : decode cX12_worked 124 = .ok (.if_icmp .ne 25, 3) := by decide +kernel
theorem dX12_worked_127 : decode cX12_worked 127 = .ok (.aload_n 0, 1) := by decide +kernel
theorem dX12_worked_128 : decode cX12_worked 128 = .ok (.getfield 54, 3) := by decide +kernel
theorem dX12_worked_131 : decode cX12_worked 131 = .ok (.iload 4, 2) := by decide +kernel
theorem dX12_worked_133 : decode cX12_worked 133 = .ok (.iconst 1, 1) := by decide +kernel
theorem dX12_worked_134 : decode cX12_worked 134 = .ok (.isub, 1) := by decide +kernel
theorem dX12_worked_135 : decode cX12_worked 135 = .ok (.aload_n 0, 1) := by decide +kernel
theorem dX12_worked_136 : decode cX12_worked 136 = .ok (.getfield 54, 3) := by decide +kernel
theorem dX12_worked_139 : decode cX12_worked 139 = .ok (.iload 4, 2) := by decide +kernel
theorem dX12_worked_141 : decode cX12_worked 141 = .ok (.iconst 1, 1) := by decide +kernel
theorem dX12_worked_142 : decode cX12_worked 142 = .ok (.isub, 1) := by decide +kernel
theorem dX12_worked_143 : decode cX12_worked 143 = .ok (.iaload, 1) := by decide +kernel
theorem dX12_worked_144 : decode cX12_worked 144 = .ok (.ineg, 1) := by decide +kernel
theorem dX12_worked_145 : decode cX12_worked 145 = .ok (.iastore, 1) := by decide +kernel
theorem dX12_worked_146 : decode cX12_worked 146 = .ok (.goto 36, 3) := by decide +kernel
theorem dX12_worked_149 : decode cX12_worked 149 = .ok (.iinc 4 (-1), 3) := by decide +kernel
theorem dX12_worked_152 : decode cX12_worked 152 = .ok (.aload_n 0, 1) := by decide +kernel
theorem dX12_worked_153 : decode cX12_worked 153 = .ok (.getfield 54, 3) := by decide +kernel
theorem dX12_worked_156 : decode cX12_worked 156 = .ok (.iload 4, 2) := by decide +kernel
theorem dX12_worked_158 : decode cX12_worked 158 = .ok (.iconst 1, 1) := by decide +kernel
theorem dX12_worked_159 : decode cX12_worked 159 = .ok (.isub, 1) := by decide +kernel
theorem dX12_worked_160 : decode cX12_worked 160 = .ok (.iload 6, 2) := by decide +kernel
theorem dX12_worked_162 : decode cX12_worked 162 = .ok (.aload_n 0, 1) := by decide +kernel
theorem dX12_worked_163 : decode cX12_worked 163 = .ok (.getfield 54, 3) := by decide +kernel
theorem dX12_worked_166 : decode cX12_worked 166 = .ok (.iload 4, 2) := by decide +kernel
theorem dX12_worked_168 : decode cX12_worked 168 = .ok (.iconst 1, 1) := by decide +kernel
theorem dX12_worked_169 : decode cX12_worked 169 = .ok (.isub, 1) := by decide +kernel
theorem dX12_worked_170 : decode cX12_worked 170 = .ok (.iaload, 1) := by decide +kernel
theorem dX12_worked_171 : decode cX12_worked 171 = .ok (.aload_n 0, 1) := by decide +kernel
theorem dX12_worked_172 : decode cX12_worked 172 = .ok (.getfield 54, 3) := by decide +kernel
theorem dX12_worked_175 : decode cX12_worked 175 = .ok (.iload 4, 2) := by decide +kernel
theorem dX12_worked_177 : decode cX12_worked 177 = .ok (.iaload, 1) := by decide +kernel
theorem dX12_worked_178 : decode cX12_worked 178 = .ok (.invokestatic 217, 3) := by decide +kernel
theorem dX12_worked_181 : decode cX12_worked 181 = .ok (.iastore, 1) := by decide +kernel
theorem dX12_worked_182 : decode cX12_worked 182 = .ok (.iinc 5 1, 3) := by decide +kernel
theorem dX12_worked_185 : decode cX12_worked 185 = .ok (.goto (-173), 3) := by decide +kernel
theorem dX12_worked_188 : decode cX12_worked 188 = .ok (.aload_n 0, 1) := by decide +kernel
theorem dX12_worked_189 : decode cX12_worked 189 = .ok (.getfield 54, 3) := by decide +kernel
theorem dX12_worked_192 : decode cX12_worked 192 = .ok (.iconst 0, 1) := by decide +kernel
theorem dX12_worked_193 : decode cX12_worked 193 = .ok (.iaload, 1) := by decide +kernel
theorem dX12_worked_194 : decode cX12_worked 194 = .ok (.ireturn, 1) := by decide +kernel
theorem dX12_gives_0 : decode cX12_gives 0 = .ok (.iconst 0, 1) := by decide +kernel
theorem dX12_gives_1 : decode cX12_gives 1 = .ok (.istore_n 2, 1) := by decide +kernel
theorem dX12_gives_2 : decode cX12_gives 2 = .ok (.bipush 61, 2) := by decide +kernel
theorem dX12_gives_4 : decode cX12_gives 4 = .ok (.iload_n 1, 1) := by decide +kernel
theorem dX12_gives_5 : decode cX12_gives 5 = .ok (.imul, 1) := by decide +kernel
theorem dX12_gives_6 : decode cX12_gives 6 = .ok (.istore_n 3, 1) := by decide +kernel
theorem dX12_gives_7 : decode cX12_gives 7 = .ok (.iload_n 3, 1) := by decide +kernel
theorem dX12_gives_8 : decode cX12_gives 8 = .ok (.bipush 61, 2) := by decide +kernel
theorem dX12_gives_10 : decode cX12_gives 10 = .ok (.iload_n 1, 1) := by decide +kernel
theorem dX12_gives_11 : decode cX12_gives 11 = .ok (.imul, 1) := by decide +kernel
theorem dX12_gives_12 : decode cX12_gives 12 = .ok (.aload_n 0, 1) := by decide +kernel
theorem dX12_gives_13 : decode cX12_gives 13 = .ok (.getfield 41, 3) := by decide +kernel
theorem dX12_gives_16 : decode cX12_gives 16 = .ok (.iload_n 1, 1) := by decide +kernel
theorem dX12_gives_17 : decode cX12_gives 17 = .ok (.iaload, 1) := by decide +kernel
theorem dX12_gives_18 : decode cX12_gives 18 = .ok (.iadd, 1) := by decide +kernel
theorem dX12_gives_19 : decode cX12_gives 19 = .ok (.if_icmp .ge 59, 3) := by decide +kernel
theorem dX12_gives_22 : decode cX12_gives 22 = .ok (.aload_n 0, 1) := by decide +kernel
theorem dX12_gives_23 : decode cX12_gives 23 = .ok (.getfield 44, 3) := by decide +kernel
theorem dX12_gives_26 : decode cX12_gives 26 = .ok (.iload_n 3, 1) := by decide +kernel
theorem dX12_gives_27 : decode cX12_gives 27 = .ok (.saload, 1) := by decide +kernel
theorem dX12_gives_28 : decode cX12_gives 28 = .ok (.iload_n 2, 1) := by decide +kernel
theorem dX12_gives_29 : decode cX12_gives 29 = .ok (.if_icmp .eq 18, 3) := by decide +kernel
theorem dX12_gives_32 : decode cX12_gives 32 = .ok (.aload_n 0, 1) := by decide +kernel
theorem dX12_gives_33 : decode cX12_gives 33 = .ok (.iload_n 1, 1) := by decide +kernel
theorem dX12_gives_34 : decode cX12_gives 34 = .ok (.iload_n 2, 1) := by decide +kernel
theorem dX12_gives_35 : decode cX12_gives 35 = .ok (.aload_n 0, 1) := by decide +kernel
theorem dX12_gives_36 : decode cX12_gives 36 = .ok (.getfield 44, 3) := by decide +kernel
theorem dX12_gives_39 : decode cX12_gives 39 = .ok (.iload_n 3, 1) := by decide +kernel
theorem dX12_gives_40 : decode cX12_gives 40 = .ok (.saload, 1) := by decide +kernel
theorem dX12_gives_41 : decode cX12_gives 41 = .ok (.invokevirtual 220, 3) := by decide +kernel
theorem dX12_gives_44 : decode cX12_gives 44 = .ok (.ifCond .eq 21, 3) := by decide +kernel
theorem dX12_gives_47 : decode cX12_gives 47 = .ok (.aload_n 0, 1) := by decide +kernel
theorem dX12_gives_48 : decode cX12_gives 48 = .ok (.iload_n 1, 1) := by decide +kernel
theorem dX12_gives_49 : decode cX12_gives 49 = .ok (.aload_n 0, 1) := by decide +kernel
theorem dX12_gives_50 : decode cX12_gives 50 = .ok (.getfield 44, 3) := by decide +kernel
theorem dX12_gives_53 : decode cX12_gives 53 = .ok (.iload_n 3, 1) := by decide +kernel
theorem dX12_gives_54 : decode cX12_gives 54 = .ok (.saload, 1) := by decide +kernel
theorem dX12_gives_55 : decode cX12_gives 55 = .ok (.aload_n 0, 1) := by decide +kernel
theorem dX12_gives_56 : decode cX12_gives 56 = .ok (.getfield 48, 3) := by decide +kernel
theorem dX12_gives_59 : decode cX12_gives 59 = .ok (.iload_n 3, 1) := by decide +kernel
theorem dX12_gives_60 : decode cX12_gives 60 = .ok (.saload, 1) := by decide +kernel
theorem dX12_gives_61 : decode cX12_gives 61 = .ok (.invokevirtual 220, 3) := by decide +kernel
theorem dX12_gives_64 : decode cX12_gives 64 = .ok (.ireturn, 1) := by decide +kernel
theorem dX12_gives_65 : decode cX12_gives 65 = .ok (.aload_n 0, 1) := by decide +kernel
theorem dX12_gives_66 : decode cX12_gives 66 = .ok (.getfield 48, 3) := by decide +kernel
theorem dX12_gives_69 : decode cX12_gives 69 = .ok (.iload_n 3, 1) := by decide +kernel
theorem dX12_gives_70 : decode cX12_gives 70 = .ok (.saload, 1) := by decide +kernel
theorem dX12_gives_71 : decode cX12_gives 71 = .ok (.istore_n 2, 1) := by decide +kernel
theorem dX12_gives_72 : decode cX12_gives 72 = .ok (.iinc 3 1, 3) := by decide +kernel
theorem dX12_gives_75 : decode cX12_gives 75 = .ok (.goto (-68), 3) := by decide +kernel
theorem dX12_gives_78 : decode cX12_gives 78 = .ok (.iconst 0, 1) := by decide +kernel
theorem dX12_gives_79 : decode cX12_gives 79 = .ok (.ireturn, 1) := by decide +kernel
theorem dX12_isLaw_0 : decode cX12_isLaw 0 = .ok (.iload_n 1, 1) := by decide +kernel
theorem dX12_isLaw_1 : decode cX12_isLaw 1 = .ok (.iconst 0, 1) := by decide +kernel
theorem dX12_isLaw_2 : decode cX12_isLaw 2 = .ok (.aload_n 0, 1) := by decide +kernel
theorem dX12_isLaw_3 : decode cX12_isLaw 3 = .ok (.getfield 223, 3) := by decide +kernel
theorem dX12_isLaw_6 : decode cX12_isLaw 6 = .ok (.iconst 1, 1) := by decide +kernel
theorem dX12_isLaw_7 : decode cX12_isLaw 7 = .ok (.isub, 1) := by decide +kernel
theorem dX12_isLaw_8 : decode cX12_isLaw 8 = .ok (.invokestatic 110, 3) := by decide +kernel
theorem dX12_isLaw_11 : decode cX12_isLaw 11 = .ok (.ireturn, 1) := by decide +kernel
theorem dX12_isHour_0 : decode cX12_isHour 0 = .ok (.iload_n 0, 1) := by decide +kernel
theorem dX12_isHour_1 : decode cX12_isHour 1 = .ok (.iconst 0, 1) := by decide +kernel
theorem dX12_isHour_2 : decode cX12_isHour 2 = .ok (.bipush 47, 2) := by decide +kernel
theorem dX12_isHour_4 : decode cX12_isHour 4 = .ok (.invokestatic 110, 3) := by decide +kernel
theorem dX12_isHour_7 : decode cX12_isHour 7 = .ok (.ireturn, 1) := by decide +kernel
theorem dX12_law_0 : decode cX12_law 0 = .ok (.aload_n 0, 1) := by decide +kernel
theorem dX12_law_1 : decode cX12_law 1 = .ok (.getfield 223, 3) := by decide +kernel
theorem dX12_law_4 : decode cX12_law 4 = .ok (.iconst 4, 1) := by decide +kernel
theorem dX12_law_5 : decode cX12_law 5 = .ok (.if_icmp .ne 6, 3) := by decide +kernel
theorem dX12_law_8 : decode cX12_law 8 = .ok (.bipush (-3), 2) := by decide +kernel
theorem dX12_law_10 : decode cX12_law 10 = .ok (.ireturn, 1) := by decide +kernel
theorem dX12_law_11 : decode cX12_law 11 = .ok (.aload_n 0, 1) := by decide +kernel
theorem dX12_law_12 : decode cX12_law 12 = .ok (.aload_n 0, 1) := by decide +kernel
theorem dX12_law_13 : decode cX12_law 13 = .ok (.getfield 223, 3) := by decide +kernel
theorem dX12_law_16 : decode cX12_law 16 = .ok (.invokevirtual 226, 3) := by decide +kernel
theorem dX12_law_19 : decode cX12_law 19 = .ok (.istore_n 1, 1) := by decide +kernel
theorem dX12_law_20 : decode cX12_law 20 = .ok (.iload_n 1, 1) := by decide +kernel
theorem dX12_law_21 : decode cX12_law 21 = .ok (.ifCond .lt 8, 3) := by decide +kernel
theorem dX12_law_24 : decode cX12_law 24 = .ok (.bipush (-100), 2) := by decide +kernel
theorem dX12_law_26 : decode cX12_law 26 = .ok (.iload_n 1, 1) := by decide +kernel
theorem dX12_law_27 : decode cX12_law 27 = .ok (.isub, 1) := by decide +kernel
theorem dX12_law_28 : decode cX12_law 28 = .ok (.ireturn, 1) := by decide +kernel
theorem dX12_law_29 : decode cX12_law 29 = .ok (.aload_n 0, 1) := by decide +kernel
theorem dX12_law_30 : decode cX12_law 30 = .ok (.dup, 1) := by decide +kernel
theorem dX12_law_31 : decode cX12_law 31 = .ok (.getfield 223, 3) := by decide +kernel
theorem dX12_law_34 : decode cX12_law 34 = .ok (.iconst 1, 1) := by decide +kernel
theorem dX12_law_35 : decode cX12_law 35 = .ok (.iadd, 1) := by decide +kernel
theorem dX12_law_36 : decode cX12_law 36 = .ok (.putfield 223, 3) := by decide +kernel
theorem dX12_law_39 : decode cX12_law 39 = .ok (.aload_n 0, 1) := by decide +kernel
theorem dX12_law_40 : decode cX12_law 40 = .ok (.getfield 223, 3) := by decide +kernel
theorem dX12_law_43 : decode cX12_law 43 = .ok (.iconst 1, 1) := by decide +kernel
theorem dX12_law_44 : decode cX12_law 44 = .ok (.isub, 1) := by decide +kernel
theorem dX12_law_45 : decode cX12_law 45 = .ok (.ireturn, 1) := by decide +kernel
theorem dX12_force_0 : decode cX12_force 0 = .ok (.iload_n 1, 1) := by decide +kernel
theorem dX12_force_1 : decode cX12_force 1 = .ok (.iconst (-1), 1) := by decide +kernel
theorem dX12_force_2 : decode cX12_force 2 = .ok (.if_icmp .eq 14, 3) := by decide +kernel
theorem dX12_force_5 : decode cX12_force 5 = .ok (.aload_n 0, 1) := by decide +kernel
theorem dX12_force_6 : decode cX12_force 6 = .ok (.iload_n 1, 1) := by decide +kernel
theorem dX12_force_7 : decode cX12_force 7 = .ok (.invokevirtual 229, 3) := by decide +kernel
theorem dX12_force_10 : decode cX12_force 10 = .ok (.ifCond .ne 6, 3) := by decide +kernel
theorem dX12_force_13 : decode cX12_force 13 = .ok (.bipush (-2), 2) := by decide +kernel
theorem dX12_force_15 : decode cX12_force 15 = .ok (.ireturn, 1) := by decide +kernel
theorem dX12_force_16 : decode cX12_force 16 = .ok (.aload_n 0, 1) := by decide +kernel
theorem dX12_force_17 : decode cX12_force 17 = .ok (.getfield 57, 3) := by decide +kernel
theorem dX12_force_20 : decode cX12_force 20 = .ok (.istore_n 2, 1) := by decide +kernel
theorem dX12_force_21 : decode cX12_force 21 = .ok (.aload_n 0, 1) := by decide +kernel
theorem dX12_force_22 : decode cX12_force 22 = .ok (.iload_n 1, 1) := by decide +kernel
theorem dX12_force_23 : decode cX12_force 23 = .ok (.putfield 57, 3) := by decide +kernel
theorem dX12_force_26 : decode cX12_force 26 = .ok (.iload_n 2, 1) := by decide +kernel
theorem dX12_force_27 : decode cX12_force 27 = .ok (.ireturn, 1) := by decide +kernel
theorem dX12_sky_0 : decode cX12_sky 0 = .ok (.iload_n 1, 1) := by decide +kernel
theorem dX12_sky_1 : decode cX12_sky 1 = .ok (.iconst 0, 1) := by decide +kernel
theorem dX12_sky_2 : decode cX12_sky 2 = .ok (.iconst 1, 1) := by decide +kernel
theorem dX12_sky_3 : decode cX12_sky 3 = .ok (.invokestatic 110, 3) := by decide +kernel
theorem dX12_sky_6 : decode cX12_sky 6 = .ok (.ifCond .eq 13, 3) := by decide +kernel
theorem dX12_sky_9 : decode cX12_sky 9 = .ok (.iload_n 2, 1) := by decide +kernel
theorem dX12_sky_10 : decode cX12_sky 10 = .ok (.iconst 0, 1) := by decide +kernel
theorem dX12_sky_11 : decode cX12_sky 11 = .ok (.bipush 99, 2) := by decide +kernel
theorem dX12_sky_13 : decode cX12_sky 13 = .ok (.invokestatic 110, 3) := by decide +kernel
theorem dX12_sky_16 : decode cX12_sky 16 = .ok (.ifCond .ne 5, 3) := by decide +kernel
theorem dX12_sky_19 : decode cX12_sky 19 = .ok (.iconst (-1), 1) := by decide +kernel
theorem dX12_sky_20 : decode cX12_sky 20 = .ok (.ireturn, 1) := by decide +kernel
theorem dX12_sky_21 : decode cX12_sky 21 = .ok (.iload_n 1, 1) := by decide +kernel
theorem dX12_sky_22 : decode cX12_sky 22 = .ok (.ifCond .ne 10, 3) := by decide +kernel
theorem dX12_sky_25 : decode cX12_sky 25 = .ok (.aload_n 0, 1) := by decide +kernel
theorem dX12_sky_26 : decode cX12_sky 26 = .ok (.getfield 232, 3) := by decide +kernel
theorem dX12_sky_29 : decode cX12_sky 29 = .ok (.goto 7, 3) := by decide +kernel
theorem dX12_sky_32 : decode cX12_sky 32 = .ok (.aload_n 0, 1) := by decide +kernel
theorem dX12_sky_33 : decode cX12_sky 33 = .ok (.getfield 235, 3) := by decide +kernel
theorem dX12_sky_36 : decode cX12_sky 36 = .ok (.istore_n 3, 1) := by decide +kernel
theorem dX12_sky_37 : decode cX12_sky 37 = .ok (.iload_n 1, 1) := by decide +kernel
theorem dX12_sky_38 : decode cX12_sky 38 = .ok (.ifCond .ne 11, 3) := by decide +kernel
theorem dX12_sky_41 : decode cX12_sky 41 = .ok (.aload_n 0, 1) := by decide +kernel
theorem dX12_sky_42 : decode cX12_sky 42 = .ok (.iload_n 2, 1) := by decide +kernel
theorem dX12_sky_43 : decode cX12_sky 43 = .ok (.putfield 232, 3) := by decide +kernel
theorem dX12_sky_46 : decode cX12_sky 46 = .ok (.goto 8, 3) := by decide +kernel
theorem dX12_sky_49 : decode cX12_sky 49 = .ok (.aload_n 0, 1) := by decide +kernel
theorem dX12_sky_50 : decode cX12_sky 50 = .ok (.iload_n 2, 1) := by decide +kernel
theorem dX12_sky_51 : decode cX12_sky 51 = .ok (.putfield 235, 3) := by decide +kernel
theorem dX12_sky_54 : decode cX12_sky 54 = .ok (.iload_n 3, 1) := by decide +kernel
theorem dX12_sky_55 : decode cX12_sky 55 = .ok (.ireturn, 1) := by decide +kernel
theorem dX12_riseBy_0 : decode cX12_riseBy 0 = .ok (.iload_n 1, 1) := by decide +kernel
theorem dX12_riseBy_1 : decode cX12_riseBy 1 = .ok (.ifCond .ge 5, 3) := by decide +kernel
theorem dX12_riseBy_4 : decode cX12_riseBy 4 = .ok (.iconst 0, 1) := by decide +kernel
theorem dX12_riseBy_5 : decode cX12_riseBy 5 = .ok (.ireturn, 1) := by decide +kernel
theorem dX12_riseBy_6 : decode cX12_riseBy 6 = .ok (.aload_n 0, 1) := by decide +kernel
theorem dX12_riseBy_7 : decode cX12_riseBy 7 = .ok (.getfield 51, 3) := by decide +kernel
theorem dX12_riseBy_10 : decode cX12_riseBy 10 = .ok (.iconst 0, 1) := by decide +kernel
theorem dX12_riseBy_11 : decode cX12_riseBy 11 = .ok (.iload_n 2, 1) := by decide +kernel
theorem dX12_riseBy_12 : decode cX12_riseBy 12 = .ok (.iastore, 1) := by decide +kernel
theorem dX12_riseBy_13 : decode cX12_riseBy 13 = .ok (.aload_n 0, 1) := by decide +kernel
theorem dX12_riseBy_14 : decode cX12_riseBy 14 = .ok (.getfield 51, 3) := by decide +kernel
theorem dX12_riseBy_17 : decode cX12_riseBy 17 = .ok (.iconst 1, 1) := by decide +kernel
theorem dX12_riseBy_18 : decode cX12_riseBy 18 = .ok (.iload_n 2, 1) := by decide +kernel
theorem dX12_riseBy_19 : decode cX12_riseBy 19 = .ok (.bipush 24, 2) := by decide +kernel
theorem dX12_riseBy_21 : decode cX12_riseBy 21 = .ok (.irem, 1) := by decide +kernel
theorem dX12_riseBy_22 : decode cX12_riseBy 22 = .ok (.iastore, 1) := by decide +kernel
theorem dX12_riseBy_23 : decode cX12_riseBy 23 = .ok (.aload_n 0, 1) := by decide +kernel
theorem dX12_riseBy_24 : decode cX12_riseBy 24 = .ok (.getfield 51, 3) := by decide +kernel
theorem dX12_riseBy_27 : decode cX12_riseBy 27 = .ok (.iconst 2, 1) := by decide +kernel
theorem dX12_riseBy_28 : decode cX12_riseBy 28 = .ok (.aload_n 0, 1) := by decide +kernel
theorem dX12_riseBy_29 : decode cX12_riseBy 29 = .ok (.getfield 232, 3) := by decide +kernel
theorem dX12_riseBy_32 : decode cX12_riseBy 32 = .ok (.iastore, 1) := by decide +kernel
theorem dX12_riseBy_33 : decode cX12_riseBy 33 = .ok (.aload_n 0, 1) := by decide +kernel
theorem dX12_riseBy_34 : decode cX12_riseBy 34 = .ok (.getfield 51, 3) := by decide +kernel
theorem dX12_riseBy_37 : decode cX12_riseBy 37 = .ok (.iconst 3, 1) := by decide +kernel
theorem dX12_riseBy_38 : decode cX12_riseBy 38 = .ok (.aload_n 0, 1) := by decide +kernel
theorem dX12_riseBy_39 : decode cX12_riseBy 39 = .ok (.getfield 235, 3) := by decide +kernel
theorem dX12_riseBy_42 : decode cX12_riseBy 42 = .ok (.iastore, 1) := by decide +kernel
theorem dX12_riseBy_43 : decode cX12_riseBy 43 = .ok (.aload_n 0, 1) := by decide +kernel
theorem dX12_riseBy_44 : decode cX12_riseBy 44 = .ok (.iload_n 1, 1) := by decide +kernel
theorem dX12_riseBy_45 : decode cX12_riseBy 45 = .ok (.invokevirtual 238, 3) := by decide +kernel
theorem dX12_riseBy_48 : decode cX12_riseBy 48 = .ok (.bipush (-20), 2) := by decide +kernel
theorem dX12_riseBy_50 : decode cX12_riseBy 50 = .ok (.bipush 60, 2) := by decide +kernel
theorem dX12_riseBy_52 : decode cX12_riseBy 52 = .ok (.invokestatic 241, 3) := by decide +kernel
theorem dX12_riseBy_55 : decode cX12_riseBy 55 = .ok (.ireturn, 1) := by decide +kernel
theorem dX12_rise_0 : decode cX12_rise 0 = .ok (.aload_n 0, 1) := by decide +kernel
theorem dX12_rise_1 : decode cX12_rise 1 = .ok (.iload_n 1, 1) := by decide +kernel
theorem dX12_rise_2 : decode cX12_rise 2 = .ok (.invokevirtual 229, 3) := by decide +kernel
theorem dX12_rise_5 : decode cX12_rise 5 = .ok (.ifCond .eq 19, 3) := by decide +kernel
theorem dX12_rise_8 : decode cX12_rise 8 = .ok (.iload_n 2, 1) := by decide +kernel
theorem dX12_rise_9 : decode cX12_rise 9 = .ok (.invokestatic 244, 3) := by decide +kernel
theorem dX12_rise_12 : decode cX12_rise 12 = .ok (.ifCond .eq 12, 3) := by decide +kernel
theorem dX12_rise_15 : decode cX12_rise 15 = .ok (.aload_n 0, 1) := by decide +kernel
theorem dX12_rise_16 : decode cX12_rise 16 = .ok (.iload_n 1, 1) := by decide +kernel
theorem dX12_rise_17 : decode cX12_rise 17 = .ok (.iload_n 2, 1) := by decide +kernel
theorem dX12_rise_18 : decode cX12_rise 18 = .ok (.invokevirtual 247, 3) := by decide +kernel
theorem dX12_rise_21 : decode cX12_rise 21 = .ok (.goto 5, 3) := by decide +kernel
theorem dX12_rise_24 : decode cX12_rise 24 = .ok (.ldc 250, 2) := by decide +kernel
theorem dX12_rise_26 : decode cX12_rise 26 = .ok (.ireturn, 1) := by decide +kernel
theorem dX12_depthAt_0 : decode cX12_depthAt 0 = .ok (.aload_n 0, 1) := by decide +kernel
theorem dX12_depthAt_1 : decode cX12_depthAt 1 = .ok (.getfield 20, 3) := by decide +kernel
theorem dX12_depthAt_4 : decode cX12_depthAt 4 = .ok (.bipush 36, 2) := by decide +kernel
theorem dX12_depthAt_6 : decode cX12_depthAt 6 = .ok (.iload_n 1, 1) := by decide +kernel
theorem dX12_depthAt_7 : decode cX12_depthAt 7 = .ok (.imul, 1) := by decide +kernel
theorem dX12_depthAt_8 : decode cX12_depthAt 8 = .ok (.iconst 3, 1) := by decide +kernel
theorem dX12_depthAt_9 : decode cX12_depthAt 9 = .ok (.iload_n 2, 1) := by decide +kernel
theorem dX12_depthAt_10 : decode cX12_depthAt 10 = .ok (.imul, 1) := by decide +kernel
theorem dX12_depthAt_11 : decode cX12_depthAt 11 = .ok (.iadd, 1) := by decide +kernel
theorem dX12_depthAt_12 : decode cX12_depthAt 12 = .ok (.iaload, 1) := by decide +kernel
theorem dX12_depthAt_13 : decode cX12_depthAt 13 = .ok (.iload_n 3, 1) := by decide +kernel
theorem dX12_depthAt_14 : decode cX12_depthAt 14 = .ok (.iadd, 1) := by decide +kernel
theorem dX12_depthAt_15 : decode cX12_depthAt 15 = .ok (.istore 4, 2) := by decide +kernel
theorem dX12_depthAt_17 : decode cX12_depthAt 17 = .ok (.iload 4, 2) := by decide +kernel
theorem dX12_depthAt_19 : decode cX12_depthAt 19 = .ok (.ifCond .ge 7, 3) := by decide +kernel
theorem dX12_depthAt_22 : decode cX12_depthAt 22 = .ok (.iconst 0, 1) := by decide +kernel
theorem dX12_depthAt_23 : decode cX12_depthAt 23 = .ok (.goto 5, 3) := by decide +kernel
theorem dX12_depthAt_26 : decode cX12_depthAt 26 = .ok (.iload 4, 2) := by decide +kernel
theorem dX12_depthAt_28 : decode cX12_depthAt 28 = .ok (.ireturn, 1) := by decide +kernel
theorem dX12_paceAt_0 : decode cX12_paceAt 0 = .ok (.aload_n 0, 1) := by decide +kernel
theorem dX12_paceAt_1 : decode cX12_paceAt 1 = .ok (.getfield 20, 3) := by decide +kernel
theorem dX12_paceAt_4 : decode cX12_paceAt 4 = .ok (.bipush 36, 2) := by decide +kernel
theorem dX12_paceAt_6 : decode cX12_paceAt 6 = .ok (.iload_n 1, 1) := by decide +kernel
theorem dX12_paceAt_7 : decode cX12_paceAt 7 = .ok (.imul, 1) := by decide +kernel
theorem dX12_paceAt_8 : decode cX12_paceAt 8 = .ok (.iconst 3, 1) := by decide +kernel
theorem dX12_paceAt_9 : decode cX12_paceAt 9 = .ok (.iload_n 2, 1) := by decide +kernel
theorem dX12_paceAt_10 : decode cX12_paceAt 10 = .ok (.imul, 1) := by decide +kernel
theorem dX12_paceAt_11 : decode cX12_paceAt 11 = .ok (.iadd, 1) := by decide +kernel
theorem dX12_paceAt_12 : decode cX12_paceAt 12 = .ok (.iconst 1, 1) := by decide +kernel
theorem dX12_paceAt_13 : decode cX12_paceAt 13 = .ok (.iadd, 1) := by decide +kernel
theorem dX12_paceAt_14 : decode cX12_paceAt 14 = .ok (.iaload, 1) := by decide +kernel
theorem dX12_paceAt_15 : decode cX12_paceAt 15 = .ok (.bipush 20, 2) := by decide +kernel
theorem dX12_paceAt_17 : decode cX12_paceAt 17 = .ok (.iload_n 3, 1) := by decide +kernel
theorem dX12_paceAt_18 : decode cX12_paceAt 18 = .ok (.iadd, 1) := by decide +kernel
theorem dX12_paceAt_19 : decode cX12_paceAt 19 = .ok (.imul, 1) := by decide +kernel
theorem dX12_paceAt_20 : decode cX12_paceAt 20 = .ok (.bipush 20, 2) := by decide +kernel
theorem dX12_paceAt_22 : decode cX12_paceAt 22 = .ok (.idiv, 1) := by decide +kernel
theorem dX12_paceAt_23 : decode cX12_paceAt 23 = .ok (.ireturn, 1) := by decide +kernel
theorem dX12_cell_0 : decode cX12_cell 0 = .ok (.iload_n 2, 1) := by decide +kernel
theorem dX12_cell_1 : decode cX12_cell 1 = .ok (.iconst (-1), 1) := by decide +kernel
theorem dX12_cell_2 : decode cX12_cell 2 = .ok (.if_icmp .ne 44, 3) := by decide +kernel
theorem dX12_cell_5 : decode cX12_cell 5 = .ok (.aload_n 0, 1) := by decide +kernel
theorem dX12_cell_6 : decode cX12_cell 6 = .ok (.iload_n 1, 1) := by decide +kernel
theorem dX12_cell_7 : decode cX12_cell 7 = .ok (.invokevirtual 120, 3) := by decide +kernel
theorem dX12_cell_10 : decode cX12_cell 10 = .ok (.ifCond .ne 7, 3) := by decide +kernel
theorem dX12_cell_13 : decode cX12_cell 13 = .ok (.iconst (-1), 1) := by decide +kernel
theorem dX12_cell_14 : decode cX12_cell 14 = .ok (.goto 31, 3) := by decide +kernel
theorem dX12_cell_17 : decode cX12_cell 17 = .ok (.iload_n 3, 1) := by decide +kernel
theorem dX12_cell_18 : decode cX12_cell 18 = .ok (.ifCond .ne 12, 3) := by decide +kernel
theorem dX12_cell_21 : decode cX12_cell 21 = .ok (.aload_n 0, 1) := by decide +kernel
theorem dX12_cell_22 : decode cX12_cell 22 = .ok (.getfield 13, 3) := by decide +kernel
theorem dX12_cell_25 : decode cX12_cell 25 = .ok (.iload_n 1, 1) := by decide +kernel
theorem dX12_cell_26 : decode cX12_cell 26 = .ok (.iaload, 1) := by decide +kernel
theorem dX12_cell_27 : decode cX12_cell 27 = .ok (.goto 18, 3) := by decide +kernel
theorem dX12_cell_30 : decode cX12_cell 30 = .ok (.iload_n 3, 1) := by decide +kernel
theorem dX12_cell_31 : decode cX12_cell 31 = .ok (.iconst 1, 1) := by decide +kernel
theorem dX12_cell_32 : decode cX12_cell 32 = .ok (.if_icmp .ne 12, 3) := by decide +kernel
theorem dX12_cell_35 : decode cX12_cell 35 = .ok (.aload_n 0, 1) := by decide +kernel
theorem dX12_cell_36 : decode cX12_cell 36 = .ok (.getfield 17, 3) := by decide +kernel
theorem dX12_cell_39 : decode cX12_cell 39 = .ok (.iload_n 1, 1) := by decide +kernel
theorem dX12_cell_40 : decode cX12_cell 40 = .ok (.iaload, 1) := by decide +kernel
theorem dX12_cell_41 : decode cX12_cell 41 = .ok (.goto 4, 3) := by decide +kernel
theorem dX12_cell_44 : decode cX12_cell 44 = .ok (.iconst (-1), 1) := by decide +kernel
theorem dX12_cell_45 : decode cX12_cell 45 = .ok (.ireturn, 1) := by decide +kernel
theorem dX12_cell_46 : decode cX12_cell 46 = .ok (.aload_n 0, 1) := by decide +kernel
theorem dX12_cell_47 : decode cX12_cell 47 = .ok (.iload_n 1, 1) := by decide +kernel
theorem dX12_cell_48 : decode cX12_cell 48 = .ok (.iload_n 2, 1) := by decide +kernel
theorem dX12_cell_49 : decode cX12_cell 49 = .ok (.invokevirtual 161, 3) := by decide +kernel
theorem dX12_cell_52 : decode cX12_cell 52 = .ok (.ifCond .eq 25, 3) := by decide +kernel
theorem dX12_cell_55 : decode cX12_cell 55 = .ok (.iload_n 3, 1) := by decide +kernel
theorem dX12_cell_56 : decode cX12_cell 56 = .ok (.iconst 0, 1) := by decide +kernel
theorem dX12_cell_57 : decode cX12_cell 57 = .ok (.iconst 4, 1) := by decide +kernel
theorem dX12_cell_58 : decode cX12_cell 58 = .ok (.invokestatic 110, 3) := by decide +kernel
theorem dX12_cell_61 : decode cX12_cell 61 = .ok (.ifCond .eq 16, 3) := by decide +kernel
theorem dX12_cell_64 : decode cX12_cell 64 = .ok (.iload_n 3, 1) := by decide +kernel
theorem dX12_cell_65 : decode cX12_cell 65 = .ok (.iconst 2, 1) := by decide +kernel
theorem dX12_cell_66 : decode cX12_cell 66 = .ok (.if_icmp .le 13, 3) := by decide +kernel
theorem dX12_cell_69 : decode cX12_cell 69 = .ok (.iload 4, 2) := by decide +kernel
theorem dX12_cell_71 : decode cX12_cell 71 = .ok (.invokestatic 244, 3) := by decide +kernel
theorem dX12_cell_74 : decode cX12_cell 74 = .ok (.ifCond .ne 5, 3) := by decide +kernel
theorem dX12_cell_77 : decode cX12_cell 77 = .ok (.iconst (-1), 1) := by decide +kernel
theorem dX12_cell_78 : decode cX12_cell 78 = .ok (.ireturn, 1) := by decide +kernel
theorem dX12_cell_79 : decode cX12_cell 79 = .ok (.iload_n 3, 1) := by decide +kernel
theorem dX12_cell_80 : decode cX12_cell 80 = .ok (.iconst 3, 1) := by decide +kernel
theorem dX12_cell_81 : decode cX12_cell 81 = .ok (.if_icmp .ge 19, 3) := by decide +kernel
theorem dX12_cell_84 : decode cX12_cell 84 = .ok (.aload_n 0, 1) := by decide +kernel
theorem dX12_cell_85 : decode cX12_cell 85 = .ok (.getfield 20, 3) := by decide +kernel
theorem dX12_cell_88 : decode cX12_cell 88 = .ok (.bipush 36, 2) := by decide +kernel
theorem dX12_cell_90 : decode cX12_cell 90 = .ok (.iload_n 1, 1) := by decide +kernel
theorem dX12_cell_91 : decode cX12_cell 91 = .ok (.imul, 1) := by decide +kernel
theorem dX12_cell_92 : decode cX12_cell 92 = .ok (.iconst 3, 1) := by decide +kernel
theorem dX12_cell_93 : decode cX12_cell 93 = .ok (.iload_n 2, 1) := by decide +kernel
theorem dX12_cell_94 : decode cX12_cell 94 = .ok (.imul, 1) := by decide +kernel
theorem dX12_cell_95 : decode cX12_cell 95 = .ok (.iadd, 1) := by decide +kernel
theorem dX12_cell_96 : decode cX12_cell 96 = .ok (.iload_n 3, 1) := by decide +kernel
theorem dX12_cell_97 : decode cX12_cell 97 = .ok (.iadd, 1) := by decide +kernel
theorem dX12_cell_98 : decode cX12_cell 98 = .ok (.iaload, 1) := by decide +kernel
theorem dX12_cell_99 : decode cX12_cell 99 = .ok (.ireturn, 1) := by decide +kernel
theorem dX12_cell_100 : decode cX12_cell 100 = .ok (.aload_n 0, 1) := by decide +kernel
theorem dX12_cell_101 : decode cX12_cell 101 = .ok (.aload_n 0, 1) := by decide +kernel
theorem dX12_cell_102 : decode cX12_cell 102 = .ok (.getfield 57, 3) := by decide +kernel
theorem dX12_cell_105 : decode cX12_cell 105 = .ok (.iload 4, 2) := by decide +kernel
theorem dX12_cell_107 : decode cX12_cell 107 = .ok (.invokevirtual 247, 3) := by decide +kernel
theorem dX12_cell_110 : decode cX12_cell 110 = .ok (.istore 5, 2) := by decide +kernel
theorem dX12_cell_112 : decode cX12_cell 112 = .ok (.iload_n 3, 1) := by decide +kernel
theorem dX12_cell_113 : decode cX12_cell 113 = .ok (.iconst 3, 1) := by decide +kernel
theorem dX12_cell_114 : decode cX12_cell 114 = .ok (.if_icmp .ne 14, 3) := by decide +kernel
theorem dX12_cell_117 : decode cX12_cell 117 = .ok (.aload_n 0, 1) := by decide +kernel
theorem dX12_cell_118 : decode cX12_cell 118 = .ok (.iload_n 1, 1) := by decide +kernel
theorem dX12_cell_119 : decode cX12_cell 119 = .ok (.iload_n 2, 1) := by decide +kernel
theorem dX12_cell_120 : decode cX12_cell 120 = .ok (.iload 5, 2) := by decide +kernel
theorem dX12_cell_122 : decode cX12_cell 122 = .ok (.invokevirtual 251, 3) := by decide +kernel
theorem dX12_cell_125 : decode cX12_cell 125 = .ok (.goto 11, 3) := by decide +kernel
theorem dX12_cell_128 : decode cX12_cell 128 = .ok (.aload_n 0, 1) := by decide +kernel
theorem dX12_cell_129 : decode cX12_cell 129 = .ok (.iload_n 1, 1) := by decide +kernel
theorem dX12_cell_130 : decode cX12_cell 130 = .ok (.iload_n 2, 1) := by decide +kernel
theorem dX12_cell_131 : decode cX12_cell 131 = .ok (.iload 5, 2) := by decide +kernel
theorem dX12_cell_133 : decode cX12_cell 133 = .ok (.invokevirtual 254, 3) := by decide +kernel
theorem dX12_cell_136 : decode cX12_cell 136 = .ok (.ireturn, 1) := by decide +kernel
theorem dX12_isPerson_0 : decode cX12_isPerson 0 = .ok (.iload_n 1, 1) := by decide +kernel
theorem dX12_isPerson_1 : decode cX12_isPerson 1 = .ok (.iconst 0, 1) := by decide +kernel
theorem dX12_isPerson_2 : decode cX12_isPerson 2 = .ok (.aload_n 0, 1) := by decide +kernel
theorem dX12_isPerson_3 : decode cX12_isPerson 3 = .ok (.getfield 257, 3) := by decide +kernel
theorem dX12_isPerson_6 : decode cX12_isPerson 6 = .ok (.iconst 1, 1) := by decide +kernel
theorem dX12_isPerson_7 : decode cX12_isPerson 7 = .ok (.isub, 1) := by decide +kernel
theorem dX12_isPerson_8 : decode cX12_isPerson 8 = .ok (.invokestatic 110, 3) := by decide +kernel
theorem dX12_isPerson_11 : decode cX12_isPerson 11 = .ok (.ireturn, 1) := by decide +kernel
theorem dX12_person_0 : decode cX12_person 0 = .ok (.iload_n 1, 1) := by decide +kernel
theorem dX12_person_1 : decode cX12_person 1 = .ok (.ifCond .lt 53, 3) := by decide +kernel
theorem dX12_person_4 : decode cX12_person 4 = .ok (.iload_n 2, 1) := by decide +kernel
theorem dX12_person_5 : decode cX12_person 5 = .ok (.ifCond .lt 49, 3) := by decide +kernel
theorem dX12_person_8 : decode cX12_person 8 = .ok (.iload_n 1, 1) := by decide +kernel
theorem dX12_person_9 : decode cX12_person 9 = .ok (.bipush 100, 2) := by decide +kernel
theorem dX12_person_11 : decode cX12_person 11 = .ok (.idiv, 1) := by decide +kernel
theorem dX12_person_12 : decode cX12_person 12 = .ok (.bipush 30, 2) := by decide +kernel
theorem dX12_person_14 : decode cX12_person 14 = .ok (.bipush 120, 2) := by decide +kernel
theorem dX12_person_16 : decode cX12_person 16 = .ok (.invokestatic 110, 3) := by decide +kernel
theorem dX12_person_19 : decode cX12_person 19 = .ok (.ifCond .eq 35, 3) := by decide +kernel
theorem dX12_person_22 : decode cX12_person 22 = .ok (.iload_n 1, 1) := by decide +kernel
theorem dX12_person_23 : decode cX12_person 23 = .ok (.bipush 100, 2) := by decide +kernel
theorem dX12_person_25 : decode cX12_person 25 = .ok (.irem, 1) := by decide +kernel
theorem dX12_person_26 : decode cX12_person 26 = .ok (.bipush 10, 2) := by decide +kernel
theorem dX12_person_28 : decode cX12_person 28 = .ok (.bipush 22, 2) := by decide +kernel
theorem dX12_person_30 : decode cX12_person 30 = .ok (.invokestatic 110, 3) := by decide +kernel
theorem dX12_person_33 : decode cX12_person 33 = .ok (.ifCond .eq 21, 3) := by decide +kernel
theorem dX12_person_36 : decode cX12_person 36 = .ok (.iload_n 2, 1) := by decide +kernel
theorem dX12_person_37 : decode cX12_person 37 = .ok (.bipush 100, 2) := by decide +kernel
theorem dX12_person_39 : decode cX12_person 39 = .ok (.idiv, 1) := by decide +kernel
theorem dX12_person_40 : decode cX12_person 40 = .ok (.bipush 9, 2) := by decide +kernel
theorem dX12_person_42 : decode cX12_person 42 = .ok (.if_icmp .gt 12, 3) := by decide +kernel
theorem dX12_person_45 : decode cX12_person 45 = .ok (.iload_n 2, 1) := by decide +kernel
theorem dX12_person_46 : decode cX12_person 46 = .ok (.bipush 100, 2) := by decide +kernel
theorem dX12_person_48 : decode cX12_person 48 = .ok (.irem, 1) := by decide +kernel
theorem dX12_person_49 : decode cX12_person 49 = .ok (.bipush 40, 2) := by decide +kernel
theorem dX12_person_51 : decode cX12_person 51 = .ok (.if_icmp .le 5, 3) := by decide +kernel
theorem dX12_person_54 : decode cX12_person 54 = .ok (.iconst (-1), 1) := by decide +kernel
theorem dX12_person_55 : decode cX12_person 55 = .ok (.ireturn, 1) := by decide +kernel
theorem dX12_person_56 : decode cX12_person 56 = .ok (.aload_n 0, 1) := by decide +kernel
theorem dX12_person_57 : decode cX12_person 57 = .ok (.getfield 257, 3) := by decide +kernel
theorem dX12_person_60 : decode cX12_person 60 = .ok (.bipush 8, 2) := by decide +kernel
theorem dX12_person_62 : decode cX12_person 62 = .ok (.if_icmp .ne 6, 3) := by decide +kernel
theorem dX12_person_65 : decode cX12_person 65 = .ok (.bipush (-3), 2) := by decide +kernel
theorem dX12_person_67 : decode cX12_person 67 = .ok (.ireturn, 1) := by decide +kernel
theorem dX12_person_68 : decode cX12_person 68 = .ok (.aload_n 0, 1) := by decide +kernel
theorem dX12_person_69 : decode cX12_person 69 = .ok (.getfield 61, 3) := by decide +kernel
theorem dX12_person_72 : decode cX12_person 72 = .ok (.aload_n 0, 1) := by decide +kernel
theorem dX12_person_73 : decode cX12_person 73 = .ok (.getfield 257, 3) := by decide +kernel
theorem dX12_person_76 : decode cX12_person 76 = .ok (.iload_n 1, 1) := by decide +kernel
theorem dX12_person_77 : decode cX12_person 77 = .ok (.bipush 100, 2) := by decide +kernel
theorem dX12_person_79 : decode cX12_person 79 = .ok (.idiv, 1) := by decide +kernel
theorem dX12_person_80 : decode cX12_person 80 = .ok (.iastore, 1) := by decide +kernel
theorem dX12_person_81 : decode cX12_person 81 = .ok (.aload_n 0, 1) := by decide +kernel
theorem dX12_person_82 : decode cX12_person 82 = .ok (.getfield 64, 3) := by decide +kernel
theorem dX12_person_85 : decode cX12_person 85 = .ok (.aload_n 0, 1) := by decide +kernel
theorem dX12_person_86 : decode cX12_person 86 = .ok (.getfield 257, 3) := by decide +kernel
theorem dX12_person_89 : decode cX12_person 89 = .ok (.iload_n 1, 1) := by decide +kernel
theorem dX12_person_90 : decode cX12_person 90 = .ok (.bipush 100, 2) := by decide +kernel
theorem dX12_person_92 : decode cX12_person 92 = .ok (.irem, 1) := by decide +kernel
theorem dX12_person_93 : decode cX12_person 93 = .ok (.iastore, 1) := by decide +kernel
theorem dX12_person_94 : decode cX12_person 94 = .ok (.aload_n 0, 1) := by decide +kernel
theorem dX12_person_95 : decode cX12_person 95 = .ok (.getfield 67, 3) := by decide +kernel
theorem dX12_person_98 : decode cX12_person 98 = .ok (.aload_n 0, 1) := by decide +kernel
theorem dX12_person_99 : decode cX12_person 99 = .ok (.getfield 257, 3) := by decide +kernel
theorem dX12_person_102 : decode cX12_person 102 = .ok (.iload_n 2, 1) := by decide +kernel
theorem dX12_person_103 : decode cX12_person 103 = .ok (.bipush 100, 2) := by decide +kernel
theorem dX12_person_105 : decode cX12_person 105 = .ok (.idiv, 1) := by decide +kernel
theorem dX12_person_106 : decode cX12_person 106 = .ok (.iastore, 1) := by decide +kernel
theorem dX12_person_107 : decode cX12_person 107 = .ok (.aload_n 0, 1) := by decide +kernel
theorem dX12_person_108 : decode cX12_person 108 = .ok (.getfield 70, 3) := by decide +kernel
theorem dX12_person_111 : decode cX12_person 111 = .ok (.aload_n 0, 1) := by decide +kernel
theorem dX12_person_112 : decode cX12_person 112 = .ok (.getfield 257, 3) := by decide +kernel
theorem dX12_person_115 : decode cX12_person 115 = .ok (.iload_n 2, 1) := by decide +kernel
theorem dX12_person_116 : decode cX12_person 116 = .ok (.bipush 100, 2) := by decide +kernel
theorem dX12_person_118 : decode cX12_person 118 = .ok (.irem, 1) := by decide +kernel
theorem dX12_person_119 : decode cX12_person 119 = .ok (.iastore, 1) := by decide +kernel
theorem dX12_person_120 : decode cX12_person 120 = .ok (.aload_n 0, 1) := by decide +kernel
theorem dX12_person_121 : decode cX12_person 121 = .ok (.dup, 1) := by decide +kernel
theorem dX12_person_122 : decode cX12_person 122 = .ok (.getfield 257, 3) := by decide +kernel
theorem dX12_person_125 : decode cX12_person 125 = .ok (.iconst 1, 1) := by decide +kernel
theorem dX12_person_126 : decode cX12_person 126 = .ok (.iadd, 1) := by decide +kernel
theorem dX12_person_127 : decode cX12_person 127 = .ok (.putfield 257, 3) := by decide +kernel
theorem dX12_person_130 : decode cX12_person 130 = .ok (.aload_n 0, 1) := by decide +kernel
theorem dX12_person_131 : decode cX12_person 131 = .ok (.getfield 257, 3) := by decide +kernel
theorem dX12_person_134 : decode cX12_person 134 = .ok (.iconst 1, 1) := by decide +kernel
theorem dX12_person_135 : decode cX12_person 135 = .ok (.isub, 1) := by decide +kernel
theorem dX12_person_136 : decode cX12_person 136 = .ok (.ireturn, 1) := by decide +kernel
theorem dX12_set_0 : decode cX12_set 0 = .ok (.aload_n 0, 1) := by decide +kernel
theorem dX12_set_1 : decode cX12_set 1 = .ok (.iload_n 1, 1) := by decide +kernel
theorem dX12_set_2 : decode cX12_set 2 = .ok (.invokevirtual 260, 3) := by decide +kernel
theorem dX12_set_5 : decode cX12_set 5 = .ok (.ifCond .ne 5, 3) := by decide +kernel
theorem dX12_set_8 : decode cX12_set 8 = .ok (.iconst (-1), 1) := by decide +kernel
theorem dX12_set_9 : decode cX12_set 9 = .ok (.ireturn, 1) := by decide +kernel
theorem dX12_set_10 : decode cX12_set 10 = .ok (.iload_n 2, 1) := by decide +kernel
theorem dX12_set_11 : decode cX12_set 11 = .ok (.ifCond .ne 25, 3) := by decide +kernel
theorem dX12_set_14 : decode cX12_set 14 = .ok (.iload_n 3, 1) := by decide +kernel
theorem dX12_set_15 : decode cX12_set 15 = .ok (.iconst 0, 1) := by decide +kernel
theorem dX12_set_16 : decode cX12_set 16 = .ok (.bipush 9, 2) := by decide +kernel
theorem dX12_set_18 : decode cX12_set 18 = .ok (.invokestatic 110, 3) := by decide +kernel
theorem dX12_set_21 : decode cX12_set 21 = .ok (.ifCond .eq 13, 3) := by decide +kernel
theorem dX12_set_24 : decode cX12_set 24 = .ok (.aload_n 0, 1) := by decide +kernel
theorem dX12_set_25 : decode cX12_set 25 = .ok (.iconst 1, 1) := by decide +kernel
theorem dX12_set_26 : decode cX12_set 26 = .ok (.iload_n 1, 1) := by decide +kernel
theorem dX12_set_27 : decode cX12_set 27 = .ok (.iload_n 3, 1) := by decide +kernel
theorem dX12_set_28 : decode cX12_set 28 = .ok (.invokevirtual 165, 3) := by decide +kernel
theorem dX12_set_31 : decode cX12_set 31 = .ok (.goto 4, 3) := by decide +kernel
theorem dX12_set_34 : decode cX12_set 34 = .ok (.iconst (-1), 1) := by decide +kernel
theorem dX12_set_35 : decode cX12_set 35 = .ok (.ireturn, 1) := by decide +kernel
theorem dX12_set_36 : decode cX12_set 36 = .ok (.iload_n 2, 1) := by decide +kernel
theorem dX12_set_37 : decode cX12_set 37 = .ok (.iconst 1, 1) := by decide +kernel
theorem dX12_set_38 : decode cX12_set 38 = .ok (.if_icmp .ne 23, 3) := by decide +kernel
theorem dX12_set_41 : decode cX12_set 41 = .ok (.iload_n 3, 1) := by decide +kernel
theorem dX12_set_42 : decode cX12_set 42 = .ok (.iconst 0, 1) := by decide +kernel
theorem dX12_set_43 : decode cX12_set 43 = .ok (.bipush 40, 2) := by decide +kernel
theorem dX12_set_45 : decode cX12_set 45 = .ok (.invokestatic 110, 3) := by decide +kernel
theorem dX12_set_48 : decode cX12_set 48 = .ok (.ifCond .eq 13, 3) := by decide +kernel
theorem dX12_set_51 : decode cX12_set 51 = .ok (.aload_n 0, 1) := by decide +kernel
theorem dX12_set_52 : decode cX12_set 52 = .ok (.iconst 2, 1) := by decide +kernel
theorem dX12_set_53 : decode cX12_set 53 = .ok (.iload_n 1, 1) := by decide +kernel
theorem dX12_set_54 : decode cX12_set 54 = .ok (.iload_n 3, 1) := by decide +kernel
theorem dX12_set_55 : decode cX12_set 55 = .ok (.invokevirtual 165, 3) := by decide +kernel
theorem dX12_set_58 : decode cX12_set 58 = .ok (.goto 4, 3) := by decide +kernel
theorem dX12_set_61 : decode cX12_set 61 = .ok (.iconst (-1), 1) := by decide +kernel
theorem dX12_set_62 : decode cX12_set 62 = .ok (.ireturn, 1) := by decide +kernel
theorem dX12_of_0 : decode cX12_of 0 = .ok (.aload_n 0, 1) := by decide +kernel
theorem dX12_of_1 : decode cX12_of 1 = .ok (.iload_n 1, 1) := by decide +kernel
theorem dX12_of_2 : decode cX12_of 2 = .ok (.invokevirtual 260, 3) := by decide +kernel
theorem dX12_of_5 : decode cX12_of 5 = .ok (.ifCond .ne 5, 3) := by decide +kernel
theorem dX12_of_8 : decode cX12_of 8 = .ok (.iconst (-1), 1) := by decide +kernel
theorem dX12_of_9 : decode cX12_of 9 = .ok (.ireturn, 1) := by decide +kernel
theorem dX12_of_10 : decode cX12_of 10 = .ok (.iload_n 2, 1) := by decide +kernel
theorem dX12_of_11 : decode cX12_of 11 = .ok (.tableswitch 57 0 3 #[29, 36, 43, 50], 29) := by decide +kernel
theorem dX12_of_40 : decode cX12_of 40 = .ok (.aload_n 0, 1) := by decide +kernel
theorem dX12_of_41 : decode cX12_of 41 = .ok (.getfield 61, 3) := by decide +kernel
theorem dX12_of_44 : decode cX12_of 44 = .ok (.iload_n 1, 1) := by decide +kernel
theorem dX12_of_45 : decode cX12_of 45 = .ok (.iaload, 1) := by decide +kernel
theorem dX12_of_46 : decode cX12_of 46 = .ok (.ireturn, 1) := by decide +kernel
theorem dX12_of_47 : decode cX12_of 47 = .ok (.aload_n 0, 1) := by decide +kernel
theorem dX12_of_48 : decode cX12_of 48 = .ok (.getfield 64, 3) := by decide +kernel
theorem dX12_of_51 : decode cX12_of 51 = .ok (.iload_n 1, 1) := by decide +kernel
theorem dX12_of_52 : decode cX12_of 52 = .ok (.iaload, 1) := by decide +kernel
theorem dX12_of_53 : decode cX12_of 53 = .ok (.ireturn, 1) := by decide +kernel
theorem dX12_of_54 : decode cX12_of 54 = .ok (.aload_n 0, 1) := by decide +kernel
theorem dX12_of_55 : decode cX12_of 55 = .ok (.getfield 67, 3) := by decide +kernel
theorem dX12_of_58 : decode cX12_of 58 = .ok (.iload_n 1, 1) := by decide +kernel
theorem dX12_of_59 : decode cX12_of 59 = .ok (.iaload, 1) := by decide +kernel
theorem dX12_of_60 : decode cX12_of 60 = .ok (.ireturn, 1) := by decide +kernel
theorem dX12_of_61 : decode cX12_of 61 = .ok (.aload_n 0, 1) := by decide +kernel
theorem dX12_of_62 : decode cX12_of 62 = .ok (.getfield 70, 3) := by decide +kernel
theorem dX12_of_65 : decode cX12_of 65 = .ok (.iload_n 1, 1) := by decide +kernel
theorem dX12_of_66 : decode cX12_of 66 = .ok (.iaload, 1) := by decide +kernel
theorem dX12_of_67 : decode cX12_of 67 = .ok (.ireturn, 1) := by decide +kernel
theorem dX12_of_68 : decode cX12_of 68 = .ok (.iconst (-1), 1) := by decide +kernel
theorem dX12_of_69 : decode cX12_of 69 = .ok (.ireturn, 1) := by decide +kernel
theorem dX12_isGroup_0 : decode cX12_isGroup 0 = .ok (.iload_n 1, 1) := by decide +kernel
theorem dX12_isGroup_1 : decode cX12_isGroup 1 = .ok (.ifCond .gt 5, 3) := by decide +kernel
theorem dX12_isGroup_4 : decode cX12_isGroup 4 = .ok (.iconst 0, 1) := by decide +kernel
theorem dX12_isGroup_5 : decode cX12_isGroup 5 = .ok (.ireturn, 1) := by decide +kernel
theorem dX12_isGroup_6 : decode cX12_isGroup 6 = .ok (.iconst 0, 1) := by decide +kernel
theorem dX12_isGroup_7 : decode cX12_isGroup 7 = .ok (.istore_n 2, 1) := by decide +kernel
theorem dX12_isGroup_8 : decode cX12_isGroup 8 = .ok (.iload_n 1, 1) := by decide +kernel
theorem dX12_isGroup_9 : decode cX12_isGroup 9 = .ok (.istore_n 3, 1) := by decide +kernel
theorem dX12_isGroup_10 : decode cX12_isGroup 10 = .ok (.iload_n 3, 1) := by decide +kernel
theorem dX12_isGroup_11 : decode cX12_isGroup 11 = .ok (.ifCond .le 14, 3) := by decide +kernel
theorem dX12_isGroup_14 : decode cX12_isGroup 14 = .ok (.iinc 2 1, 3) := by decide +kernel
theorem dX12_isGroup_17 : decode cX12_isGroup 17 = .ok (.iload_n 3, 1) := by decide +kernel
theorem dX12_isGroup_18 : decode cX12_isGroup 18 = .ok (.bipush 10, 2) := by decide +kernel
theorem dX12_isGroup_20 : decode cX12_isGroup 20 = .ok (.idiv, 1) := by decide +kernel
theorem dX12_isGroup_21 : decode cX12_isGroup 21 = .ok (.istore_n 3, 1) := by decide +kernel
theorem dX12_isGroup_22 : decode cX12_isGroup 22 = .ok (.goto (-12), 3) := by decide +kernel
theorem dX12_isGroup_25 : decode cX12_isGroup 25 = .ok (.iload_n 2, 1) := by decide +kernel
theorem dX12_isGroup_26 : decode cX12_isGroup 26 = .ok (.iconst 5, 1) := by decide +kernel
theorem dX12_isGroup_27 : decode cX12_isGroup 27 = .ok (.if_icmp .le 5, 3) := by decide +kernel
theorem dX12_isGroup_30 : decode cX12_isGroup 30 = .ok (.iconst 0, 1) := by decide +kernel
theorem dX12_isGroup_31 : decode cX12_isGroup 31 = .ok (.ireturn, 1) := by decide +kernel
theorem dX12_isGroup_32 : decode cX12_isGroup 32 = .ok (.aload_n 0, 1) := by decide +kernel
theorem dX12_isGroup_33 : decode cX12_isGroup 33 = .ok (.iload_n 2, 1) := by decide +kernel
theorem dX12_isGroup_34 : decode cX12_isGroup 34 = .ok (.putfield 263, 3) := by decide +kernel
theorem dX12_isGroup_37 : decode cX12_isGroup 37 = .ok (.iconst 0, 1) := by decide +kernel
theorem dX12_isGroup_38 : decode cX12_isGroup 38 = .ok (.istore_n 3, 1) := by decide +kernel
theorem dX12_isGroup_39 : decode cX12_isGroup 39 = .ok (.iload_n 1, 1) := by decide +kernel
theorem dX12_isGroup_40 : decode cX12_isGroup 40 = .ok (.istore 4, 2) := by decide +kernel
theorem dX12_isGroup_42 : decode cX12_isGroup 42 = .ok (.iload 4, 2) := by decide +kernel
theorem dX12_isGroup_44 : decode cX12_isGroup 44 = .ok (.ifCond .le 69, 3) := by decide +kernel
theorem dX12_isGroup_47 : decode cX12_isGroup 47 = .ok (.iinc 2 (-1), 3) := by decide +kernel
theorem dX12_isGroup_50 : decode cX12_isGroup 50 = .ok (.aload_n 0, 1) := by decide +kernel
theorem dX12_isGroup_51 : decode cX12_isGroup 51 = .ok (.getfield 73, 3) := by decide +kernel
theorem dX12_isGroup_54 : decode cX12_isGroup 54 = .ok (.iload_n 2, 1) := by decide +kernel
theorem dX12_isGroup_55 : decode cX12_isGroup 55 = .ok (.iload 4, 2) := by decide +kernel
theorem dX12_isGroup_57 : decode cX12_isGroup 57 = .ok (.bipush 10, 2) := by decide +kernel
theorem dX12_isGroup_59 : decode cX12_isGroup 59 = .ok (.irem, 1) := by decide +kernel
theorem dX12_isGroup_60 : decode cX12_isGroup 60 = .ok (.iconst 1, 1) := by decide +kernel
theorem dX12_isGroup_61 : decode cX12_isGroup 61 = .ok (.isub, 1) := by decide +kernel
theorem dX12_isGroup_62 : decode cX12_isGroup 62 = .ok (.iastore, 1) := by decide +kernel
theorem dX12_isGroup_63 : decode cX12_isGroup 63 = .ok (.aload_n 0, 1) := by decide +kernel
theorem dX12_isGroup_64 : decode cX12_isGroup 64 = .ok (.aload_n 0, 1) := by decide +kernel
theorem dX12_isGroup_65 : decode cX12_isGroup 65 = .ok (.getfield 73, 3) := by decide +kernel
theorem dX12_isGroup_68 : decode cX12_isGroup 68 = .ok (.iload_n 2, 1) := by decide +kernel
theorem dX12_isGroup_69 : decode cX12_isGroup 69 = .ok (.iaload, 1) := by decide +kernel
theorem dX12_isGroup_70 : decode cX12_isGroup 70 = .ok (.invokevirtual 260, 3) := by decide +kernel
theorem dX12_isGroup_73 : decode cX12_isGroup 73 = .ok (.ifCond .eq 17, 3) := by decide +kernel
theorem dX12_isGroup_76 : decode cX12_isGroup 76 = .ok (.iload_n 3, 1) := by decide +kernel
theorem dX12_isGroup_77 : decode cX12_isGroup 77 = .ok (.aload_n 0, 1) := by decide +kernel
theorem dX12_isGroup_78 : decode cX12_isGroup 78 = .ok (.getfield 73, 3) := by decide +kernel
theorem dX12_isGroup_81 : decode cX12_isGroup 81 = .ok (.iload_n 2, 1) := by decide +kernel
theorem dX12_isGroup_82 : decode cX12_isGroup 82 = .ok (.iaload, 1) := by decide +kernel
theorem dX12_isGroup_83 : decode cX12_isGroup 83 = .ok (.ishr, 1) := by decide +kernel
theorem dX12_isGroup_84 : decode cX12_isGroup 84 = .ok (.iconst 1, 1) := by decide +kernel
theorem dX12_isGroup_85 : decode cX12_isGroup 85 = .ok (.iand, 1) := by decide +kernel
theorem dX12_isGroup_86 : decode cX12_isGroup 86 = .ok (.iconst 1, 1) := by decide +kernel
theorem dX12_isGroup_87 : decode cX12_isGroup 87 = .ok (.if_icmp .ne 5, 3) := by decide +kernel
theorem dX12_isGroup_90 : decode cX12_isGroup 90 = .ok (.iconst 0, 1) := by decide +kernel
theorem dX12_isGroup_91 : decode cX12_isGroup 91 = .ok (.ireturn, 1) := by decide +kernel
theorem dX12_isGroup_92 : decode cX12_isGroup 92 = .ok (.iload_n 3, 1) := by decide +kernel
theorem dX12_isGroup_93 : decode cX12_isGroup 93 = .ok (.iconst 1, 1) := by decide +kernel
theorem dX12_isGroup_94 : decode cX12_isGroup 94 = .ok (.aload_n 0, 1) := by decide +kernel
theorem dX12_isGroup_95 : decode cX12_isGroup 95 = .ok (.getfield 73, 3) := by decide +kernel
theorem dX12_isGroup_98 : decode cX12_isGroup 98 = .ok (.iload_n 2, 1) := by decide +kernel
theorem dX12_isGroup_99 : decode cX12_isGroup 99 = .ok (.iaload, 1) := by decide +kernel
theorem dX12_isGroup_100 : decode cX12_isGroup 100 = .ok (.ishl, 1) := by decide +kernel
theorem dX12_isGroup_101 : decode cX12_isGroup 101 = .ok (.ior, 1) := by decide +kernel
theorem dX12_isGroup_102 : decode cX12_isGroup 102 = .ok (.istore_n 3, 1) := by decide +kernel
theorem dX12_isGroup_103 : decode cX12_isGroup 103 = .ok (.iload 4, 2) := by decide +kernel
theorem dX12_isGroup_105 : decode cX12_isGroup 105 = .ok (.bipush 10, 2) := by decide +kernel
theorem dX12_isGroup_107 : decode cX12_isGroup 107 = .ok (.idiv, 1) := by decide +kernel
theorem dX12_isGroup_108 : decode cX12_isGroup 108 = .ok (.istore 4, 2) := by decide +kernel
theorem dX12_isGroup_110 : decode cX12_isGroup 110 = .ok (.goto (-68), 3) := by decide +kernel
theorem dX12_isGroup_113 : decode cX12_isGroup 113 = .ok (.iconst 1, 1) := by decide +kernel
theorem dX12_isGroup_114 : decode cX12_isGroup 114 = .ok (.ireturn, 1) := by decide +kernel
theorem dX12_areSo_0 : decode cX12_areSo 0 = .ok (.iload_n 1, 1) := by decide +kernel
theorem dX12_areSo_1 : decode cX12_areSo 1 = .ok (.ifCond .lt 26, 3) := by decide +kernel
theorem dX12_areSo_4 : decode cX12_areSo 4 = .ok (.iload_n 1, 1) := by decide +kernel
theorem dX12_areSo_5 : decode cX12_areSo 5 = .ok (.bipush 10, 2) := by decide +kernel
theorem dX12_areSo_7 : decode cX12_areSo 7 = .ok (.irem, 1) := by decide +kernel
theorem dX12_areSo_8 : decode cX12_areSo 8 = .ok (.iconst 4, 1) := by decide +kernel
theorem dX12_areSo_9 : decode cX12_areSo 9 = .ok (.if_icmp .ge 18, 3) := by decide +kernel
theorem dX12_areSo_12 : decode cX12_areSo 12 = .ok (.aload_n 0, 1) := by decide +kernel
theorem dX12_areSo_13 : decode cX12_areSo 13 = .ok (.iload_n 1, 1) := by decide +kernel
theorem dX12_areSo_14 : decode cX12_areSo 14 = .ok (.bipush 10, 2) := by decide +kernel
theorem dX12_areSo_16 : decode cX12_areSo 16 = .ok (.idiv, 1) := by decide +kernel
theorem dX12_areSo_17 : decode cX12_areSo 17 = .ok (.invokevirtual 266, 3) := by decide +kernel
theorem dX12_areSo_20 : decode cX12_areSo 20 = .ok (.ifCond .eq 7, 3) := by decide +kernel
theorem dX12_areSo_23 : decode cX12_areSo 23 = .ok (.iconst 1, 1) := by decide +kernel
theorem dX12_areSo_24 : decode cX12_areSo 24 = .ok (.goto 4, 3) := by decide +kernel
theorem dX12_areSo_27 : decode cX12_areSo 27 = .ok (.iconst 0, 1) := by decide +kernel
theorem dX12_areSo_28 : decode cX12_areSo 28 = .ok (.ireturn, 1) := by decide +kernel
theorem dX12_isAt_0 : decode cX12_isAt 0 = .ok (.iload_n 1, 1) := by decide +kernel
theorem dX12_isAt_1 : decode cX12_isAt 1 = .ok (.ifCond .lt 28, 3) := by decide +kernel
theorem dX12_isAt_4 : decode cX12_isAt 4 = .ok (.aload_n 0, 1) := by decide +kernel
theorem dX12_isAt_5 : decode cX12_isAt 5 = .ok (.iload_n 1, 1) := by decide +kernel
theorem dX12_isAt_6 : decode cX12_isAt 6 = .ok (.bipush 100, 2) := by decide +kernel
theorem dX12_isAt_8 : decode cX12_isAt 8 = .ok (.idiv, 1) := by decide +kernel
theorem dX12_isAt_9 : decode cX12_isAt 9 = .ok (.invokevirtual 120, 3) := by decide +kernel
theorem dX12_isAt_12 : decode cX12_isAt 12 = .ok (.ifCond .eq 17, 3) := by decide +kernel
theorem dX12_isAt_15 : decode cX12_isAt 15 = .ok (.iload_n 1, 1) := by decide +kernel
theorem dX12_isAt_16 : decode cX12_isAt 16 = .ok (.bipush 100, 2) := by decide +kernel
theorem dX12_isAt_18 : decode cX12_isAt 18 = .ok (.irem, 1) := by decide +kernel
theorem dX12_isAt_19 : decode cX12_isAt 19 = .ok (.invokestatic 244, 3) := by decide +kernel
theorem dX12_isAt_22 : decode cX12_isAt 22 = .ok (.ifCond .eq 7, 3) := by decide +kernel
theorem dX12_isAt_25 : decode cX12_isAt 25 = .ok (.iconst 1, 1) := by decide +kernel
theorem dX12_isAt_26 : decode cX12_isAt 26 = .ok (.goto 4, 3) := by decide +kernel
theorem dX12_isAt_29 : decode cX12_isAt 29 = .ok (.iconst 0, 1) := by decide +kernel
theorem dX12_isAt_30 : decode cX12_isAt 30 = .ok (.ireturn, 1) := by decide +kernel
theorem dX12_lee_0 : decode cX12_lee 0 = .ok (.iload_n 0, 1) := by decide +kernel
theorem dX12_lee_1 : decode cX12_lee 1 = .ok (.iconst 1, 1) := by decide +kernel
theorem dX12_lee_2 : decode cX12_lee 2 = .ok (.if_icmp .ne 11, 3) := by decide +kernel
theorem dX12_lee_5 : decode cX12_lee 5 = .ok (.bipush 100, 2) := by decide +kernel
theorem dX12_lee_7 : decode cX12_lee 7 = .ok (.bipush 15, 2) := by decide +kernel
theorem dX12_lee_9 : decode cX12_lee 9 = .ok (.iload_n 1, 1) := by decide +kernel
theorem dX12_lee_10 : decode cX12_lee 10 = .ok (.imul, 1) := by decide +kernel
theorem dX12_lee_11 : decode cX12_lee 11 = .ok (.isub, 1) := by decide +kernel
theorem dX12_lee_12 : decode cX12_lee 12 = .ok (.ireturn, 1) := by decide +kernel
theorem dX12_lee_13 : decode cX12_lee 13 = .ok (.iload_n 0, 1) := by decide +kernel
theorem dX12_lee_14 : decode cX12_lee 14 = .ok (.iconst 2, 1) := by decide +kernel
theorem dX12_lee_15 : decode cX12_lee 15 = .ok (.if_icmp .eq 6, 3) := by decide +kernel
theorem dX12_lee_18 : decode cX12_lee 18 = .ok (.bipush 100, 2) := by decide +kernel
theorem dX12_lee_20 : decode cX12_lee 20 = .ok (.ireturn, 1) := by decide +kernel
theorem dX12_lee_21 : decode cX12_lee 21 = .ok (.iload_n 1, 1) := by decide +kernel
theorem dX12_lee_22 : decode cX12_lee 22 = .ok (.ifCond .ne 8, 3) := by decide +kernel
theorem dX12_lee_25 : decode cX12_lee 25 = .ok (.bipush 100, 2) := by decide +kernel
theorem dX12_lee_27 : decode cX12_lee 27 = .ok (.goto 15, 3) := by decide +kernel
theorem dX12_lee_30 : decode cX12_lee 30 = .ok (.iload_n 1, 1) := by decide +kernel
theorem dX12_lee_31 : decode cX12_lee 31 = .ok (.iconst 3, 1) := by decide +kernel
theorem dX12_lee_32 : decode cX12_lee 32 = .ok (.if_icmp .ge 8, 3) := by decide +kernel
theorem dX12_lee_35 : decode cX12_lee 35 = .ok (.bipush 60, 2) := by decide +kernel
theorem dX12_lee_37 : decode cX12_lee 37 = .ok (.goto 5, 3) := by decide +kernel
theorem dX12_lee_40 : decode cX12_lee 40 = .ok (.bipush 40, 2) := by decide +kernel
theorem dX12_lee_42 : decode cX12_lee 42 = .ok (.ireturn, 1) := by decide +kernel
theorem dX12_sunk_0 : decode cX12_sunk 0 = .ok (.iload_n 2, 1) := by decide +kernel
theorem dX12_sunk_1 : decode cX12_sunk 1 = .ok (.aload_n 0, 1) := by decide +kernel
theorem dX12_sunk_2 : decode cX12_sunk 2 = .ok (.getfield 64, 3) := by decide +kernel
theorem dX12_sunk_5 : decode cX12_sunk 5 = .ok (.iload_n 1, 1) := by decide +kernel
theorem dX12_sunk_6 : decode cX12_sunk 6 = .ok (.iaload, 1) := by decide +kernel
theorem dX12_sunk_7 : decode cX12_sunk 7 = .ok (.if_icmp .ge 7, 3) := by decide +kernel
theorem dX12_sunk_10 : decode cX12_sunk 10 = .ok (.iload_n 2, 1) := by decide +kernel
theorem dX12_sunk_11 : decode cX12_sunk 11 = .ok (.goto 9, 3) := by decide +kernel
theorem dX12_sunk_14 : decode cX12_sunk 14 = .ok (.aload_n 0, 1) := by decide +kernel
theorem dX12_sunk_15 : decode cX12_sunk 15 = .ok (.getfield 64, 3) := by decide +kernel
theorem dX12_sunk_18 : decode cX12_sunk 18 = .ok (.iload_n 1, 1) := by decide +kernel
theorem dX12_sunk_19 : decode cX12_sunk 19 = .ok (.iaload, 1) := by decide +kernel
theorem dX12_sunk_20 : decode cX12_sunk 20 = .ok (.ireturn, 1) := by decide +kernel
theorem dX12_plainHold_0 : decode cX12_plainHold 0 = .ok (.aload_n 0, 1) := by decide +kernel
theorem dX12_plainHold_1 : decode cX12_plainHold 1 = .ok (.getfield 61, 3) := by decide +kernel
theorem dX12_plainHold_4 : decode cX12_plainHold 4 = .ok (.iload_n 1, 1) := by decide +kernel
theorem dX12_plainHold_5 : decode cX12_plainHold 5 = .ok (.iaload, 1) := by decide +kernel
theorem dX12_plainHold_6 : decode cX12_plainHold 6 = .ok (.aload_n 0, 1) := by decide +kernel
theorem dX12_plainHold_7 : decode cX12_plainHold 7 = .ok (.getfield 70, 3) := by decide +kernel
theorem dX12_plainHold_10 : decode cX12_plainHold 10 = .ok (.iload_n 1, 1) := by decide +kernel
theorem dX12_plainHold_11 : decode cX12_plainHold 11 = .ok (.iaload, 1) := by decide +kernel
theorem dX12_plainHold_12 : decode cX12_plainHold 12 = .ok (.iadd, 1) := by decide +kernel
theorem dX12_plainHold_13 : decode cX12_plainHold 13 = .ok (.aload_n 0, 1) := by decide +kernel
theorem dX12_plainHold_14 : decode cX12_plainHold 14 = .ok (.getfield 61, 3) := by decide +kernel
theorem dX12_plainHold_17 : decode cX12_plainHold 17 = .ok (.iload_n 1, 1) := by decide +kernel
theorem dX12_plainHold_18 : decode cX12_plainHold 18 = .ok (.iaload, 1) := by decide +kernel
theorem dX12_plainHold_19 : decode cX12_plainHold 19 = .ok (.aload_n 0, 1) := by decide +kernel
theorem dX12_plainHold_20 : decode cX12_plainHold 20 = .ok (.iload_n 1, 1) := by decide +kernel
theorem dX12_plainHold_21 : decode cX12_plainHold 21 = .ok (.iload_n 2, 1) := by decide +kernel
theorem dX12_plainHold_22 : decode cX12_plainHold 22 = .ok (.invokevirtual 269, 3) := by decide +kernel
theorem dX12_plainHold_25 : decode cX12_plainHold 25 = .ok (.imul, 1) := by decide +kernel
theorem dX12_plainHold_26 : decode cX12_plainHold 26 = .ok (.aload_n 0, 1) := by decide +kernel
theorem dX12_plainHold_27 : decode cX12_plainHold 27 = .ok (.getfield 64, 3) := by decide +kernel
theorem dX12_plainHold_30 : decode cX12_plainHold 30 = .ok (.iload_n 1, 1) := by decide +kernel
theorem dX12_plainHold_31 : decode cX12_plainHold 31 = .ok (.iaload, 1) := by decide +kernel
theorem dX12_plainHold_32 : decode cX12_plainHold 32 = .ok (.idiv, 1) := by decide +kernel
theorem dX12_plainHold_33 : decode cX12_plainHold 33 = .ok (.isub, 1) := by decide +kernel
theorem dX12_plainHold_34 : decode cX12_plainHold 34 = .ok (.iload_n 3, 1) := by decide +kernel
theorem dX12_plainHold_35 : decode cX12_plainHold 35 = .ok (.aload_n 0, 1) := by decide +kernel
theorem dX12_plainHold_36 : decode cX12_plainHold 36 = .ok (.getfield 67, 3) := by decide +kernel
theorem dX12_plainHold_39 : decode cX12_plainHold 39 = .ok (.iload_n 1, 1) := by decide +kernel
theorem dX12_plainHold_40 : decode cX12_plainHold 40 = .ok (.iaload, 1) := by decide +kernel
theorem dX12_plainHold_41 : decode cX12_plainHold 41 = .ok (.iadd, 1) := by decide +kernel
theorem dX12_plainHold_42 : decode cX12_plainHold 42 = .ok (.imul, 1) := by decide +kernel
theorem dX12_plainHold_43 : decode cX12_plainHold 43 = .ok (.ireturn, 1) := by decide +kernel
theorem dX12_holdOf_0 : decode cX12_holdOf 0 = .ok (.aload_n 0, 1) := by decide +kernel
theorem dX12_holdOf_1 : decode cX12_holdOf 1 = .ok (.aload_n 0, 1) := by decide +kernel
theorem dX12_holdOf_2 : decode cX12_holdOf 2 = .ok (.getfield 73, 3) := by decide +kernel
theorem dX12_holdOf_5 : decode cX12_holdOf 5 = .ok (.iload_n 1, 1) := by decide +kernel
theorem dX12_holdOf_6 : decode cX12_holdOf 6 = .ok (.iaload, 1) := by decide +kernel
theorem dX12_holdOf_7 : decode cX12_holdOf 7 = .ok (.iload_n 3, 1) := by decide +kernel
theorem dX12_holdOf_8 : decode cX12_holdOf 8 = .ok (.iload 4, 2) := by decide +kernel
theorem dX12_holdOf_10 : decode cX12_holdOf 10 = .ok (.invokevirtual 272, 3) := by decide +kernel
theorem dX12_holdOf_13 : decode cX12_holdOf 13 = .ok (.istore 5, 2) := by decide +kernel
theorem dX12_holdOf_15 : decode cX12_holdOf 15 = .ok (.iload_n 2, 1) := by decide +kernel
theorem dX12_holdOf_16 : decode cX12_holdOf 16 = .ok (.ifCond .ne 12, 3) := by decide +kernel
theorem dX12_holdOf_19 : decode cX12_holdOf 19 = .ok (.iload 5, 2) := by decide +kernel
theorem dX12_holdOf_21 : decode cX12_holdOf 21 = .ok (.iload 5, 2) := by decide +kernel
theorem dX12_holdOf_23 : decode cX12_holdOf 23 = .ok (.bipush 10, 2) := by decide +kernel
theorem dX12_holdOf_25 : decode cX12_holdOf 25 = .ok (.idiv, 1) := by decide +kernel
theorem dX12_holdOf_26 : decode cX12_holdOf 26 = .ok (.iadd, 1) := by decide +kernel
theorem dX12_holdOf_27 : decode cX12_holdOf 27 = .ok (.ireturn, 1) := by decide +kernel
theorem dX12_holdOf_28 : decode cX12_holdOf 28 = .ok (.iload_n 2, 1) := by decide +kernel
theorem dX12_holdOf_29 : decode cX12_holdOf 29 = .ok (.iconst 3, 1) := by decide +kernel
theorem dX12_holdOf_30 : decode cX12_holdOf 30 = .ok (.if_icmp .eq 6, 3) := by decide +kernel
theorem dX12_holdOf_33 : decode cX12_holdOf 33 = .ok (.iload 5, 2) := by decide +kernel
theorem dX12_holdOf_35 : decode cX12_holdOf 35 = .ok (.ireturn, 1) := by decide +kernel
theorem dX12_holdOf_36 : decode cX12_holdOf 36 = .ok (.iconst 0, 1) := by decide +kernel
theorem dX12_holdOf_37 : decode cX12_holdOf 37 = .ok (.istore 6, 2) := by decide +kernel
theorem dX12_holdOf_39 : decode cX12_holdOf 39 = .ok (.iconst 0, 1) := by decide +kernel
theorem dX12_holdOf_40 : decode cX12_holdOf 40 = .ok (.istore 7, 2) := by decide +kernel
theorem dX12_holdOf_42 : decode cX12_holdOf 42 = .ok (.iload 7, 2) := by decide +kernel
theorem dX12_holdOf_44 : decode cX12_holdOf 44 = .ok (.aload_n 0, 1) := by decide +kernel
theorem dX12_holdOf_45 : decode cX12_holdOf 45 = .ok (.getfield 263, 3) := by decide +kernel
theorem dX12_holdOf_48 : decode cX12_holdOf 48 = .ok (.if_icmp .ge 28, 3) := by decide +kernel
theorem dX12_holdOf_51 : decode cX12_holdOf 51 = .ok (.iload 6, 2) := by decide +kernel
theorem dX12_holdOf_53 : decode cX12_holdOf 53 = .ok (.aload_n 0, 1) := by decide +kernel
theorem dX12_holdOf_54 : decode cX12_holdOf 54 = .ok (.aload_n 0, 1) := by decide +kernel
theorem dX12_holdOf_55 : decode cX12_holdOf 55 = .ok (.getfield 73, 3) := by decide +kernel
theorem dX12_holdOf_58 : decode cX12_holdOf 58 = .ok (.iload 7, 2) := by decide +kernel
theorem dX12_holdOf_60 : decode cX12_holdOf 60 = .ok (.iaload, 1) := by decide +kernel
theorem dX12_holdOf_61 : decode cX12_holdOf 61 = .ok (.iload_n 3, 1) := by decide +kernel
theorem dX12_holdOf_62 : decode cX12_holdOf 62 = .ok (.iload 4, 2) := by decide +kernel
theorem dX12_holdOf_64 : decode cX12_holdOf 64 = .ok (.invokevirtual 272, 3) := by decide +kernel
theorem dX12_holdOf_67 : decode cX12_holdOf 67 = .ok (.iadd, 1) := by decide +kernel
theorem dX12_holdOf_68 : decode cX12_holdOf 68 = .ok (.istore 6, 2) := by decide +kernel
theorem dX12_holdOf_70 : decode cX12_holdOf 70 = .ok (.iinc 7 1, 3) := by decide +kernel
theorem dX12_holdOf_73 : decode cX12_holdOf 73 = .ok (.goto (-31), 3) := by decide +kernel
theorem dX12_holdOf_76 : decode cX12_holdOf 76 = .ok (.iload 5, 2) := by decide +kernel
theorem dX12_holdOf_78 : decode cX12_holdOf 78 = .ok (.iload 6, 2) := by decide +kernel
theorem dX12_holdOf_80 : decode cX12_holdOf 80 = .ok (.aload_n 0, 1) := by decide +kernel
theorem dX12_holdOf_81 : decode cX12_holdOf 81 = .ok (.getfield 263, 3) := by decide +kernel
theorem dX12_holdOf_84 : decode cX12_holdOf 84 = .ok (.idiv, 1) := by decide +kernel
theorem dX12_holdOf_85 : decode cX12_holdOf 85 = .ok (.iadd, 1) := by decide +kernel
theorem dX12_holdOf_86 : decode cX12_holdOf 86 = .ok (.iconst 2, 1) := by decide +kernel
theorem dX12_holdOf_87 : decode cX12_holdOf 87 = .ok (.idiv, 1) := by decide +kernel
theorem dX12_holdOf_88 : decode cX12_holdOf 88 = .ok (.ireturn, 1) := by decide +kernel
theorem dX12_pushOf_0 : decode cX12_pushOf 0 = .ok (.aload_n 0, 1) := by decide +kernel
theorem dX12_pushOf_1 : decode cX12_pushOf 1 = .ok (.iload_n 1, 1) := by decide +kernel
theorem dX12_pushOf_2 : decode cX12_pushOf 2 = .ok (.iload_n 2, 1) := by decide +kernel
theorem dX12_pushOf_3 : decode cX12_pushOf 3 = .ok (.invokevirtual 269, 3) := by decide +kernel
theorem dX12_pushOf_6 : decode cX12_pushOf 6 = .ok (.iload_n 3, 1) := by decide +kernel
theorem dX12_pushOf_7 : decode cX12_pushOf 7 = .ok (.imul, 1) := by decide +kernel
theorem dX12_pushOf_8 : decode cX12_pushOf 8 = .ok (.iload_n 3, 1) := by decide +kernel
theorem dX12_pushOf_9 : decode cX12_pushOf 9 = .ok (.imul, 1) := by decide +kernel
theorem dX12_pushOf_10 : decode cX12_pushOf 10 = .ok (.iload 4, 2) := by decide +kernel
theorem dX12_pushOf_12 : decode cX12_pushOf 12 = .ok (.imul, 1) := by decide +kernel
theorem dX12_pushOf_13 : decode cX12_pushOf 13 = .ok (.sipush 1000, 3) := by decide +kernel
theorem dX12_pushOf_16 : decode cX12_pushOf 16 = .ok (.idiv, 1) := by decide +kernel
theorem dX12_pushOf_17 : decode cX12_pushOf 17 = .ok (.ireturn, 1) := by decide +kernel
theorem dX12_marginIn_0 : decode cX12_marginIn 0 = .ok (.aload_n 0, 1) := by decide +kernel
theorem dX12_marginIn_1 : decode cX12_marginIn 1 = .ok (.iload_n 1, 1) := by decide +kernel
theorem dX12_marginIn_2 : decode cX12_marginIn 2 = .ok (.iload_n 2, 1) := by decide +kernel
theorem dX12_marginIn_3 : decode cX12_marginIn 3 = .ok (.iload_n 3, 1) := by decide +kernel
theorem dX12_marginIn_4 : decode cX12_marginIn 4 = .ok (.invokevirtual 251, 3) := by decide +kernel
theorem dX12_marginIn_7 : decode cX12_marginIn 7 = .ok (.istore 6, 2) := by decide +kernel
theorem dX12_marginIn_9 : decode cX12_marginIn 9 = .ok (.iload 6, 2) := by decide +kernel
theorem dX12_marginIn_11 : decode cX12_marginIn 11 = .ok (.aload_n 0, 1) := by decide +kernel
theorem dX12_marginIn_12 : decode cX12_marginIn 12 = .ok (.getfield 64, 3) := by decide +kernel
theorem dX12_marginIn_15 : decode cX12_marginIn 15 = .ok (.aload_n 0, 1) := by decide +kernel
theorem dX12_marginIn_16 : decode cX12_marginIn 16 = .ok (.getfield 73, 3) := by decide +kernel
theorem dX12_marginIn_19 : decode cX12_marginIn 19 = .ok (.iload 4, 2) := by decide +kernel
theorem dX12_marginIn_21 : decode cX12_marginIn 21 = .ok (.iaload, 1) := by decide +kernel
theorem dX12_marginIn_22 : decode cX12_marginIn 22 = .ok (.iaload, 1) := by decide +kernel
theorem dX12_marginIn_23 : decode cX12_marginIn 23 = .ok (.if_icmp .lt 7, 3) := by decide +kernel
theorem dX12_marginIn_26 : decode cX12_marginIn 26 = .ok (.sipush (-9999), 3) := by decide +kernel
theorem dX12_marginIn_29 : decode cX12_marginIn 29 = .ok (.ireturn, 1) := by decide +kernel
theorem dX12_marginIn_30 : decode cX12_marginIn 30 = .ok (.aload_n 0, 1) := by decide +kernel
theorem dX12_marginIn_31 : decode cX12_marginIn 31 = .ok (.iload 4, 2) := by decide +kernel
theorem dX12_marginIn_33 : decode cX12_marginIn 33 = .ok (.iload 5, 2) := by decide +kernel
theorem dX12_marginIn_35 : decode cX12_marginIn 35 = .ok (.iload 6, 2) := by decide +kernel
theorem dX12_marginIn_37 : decode cX12_marginIn 37 = .ok (.aload_n 0, 1) := by decide +kernel
theorem dX12_marginIn_38 : decode cX12_marginIn 38 = .ok (.getfield 20, 3) := by decide +kernel
theorem dX12_marginIn_41 : decode cX12_marginIn 41 = .ok (.bipush 36, 2) := by decide +kernel
theorem dX12_marginIn_43 : decode cX12_marginIn 43 = .ok (.iload_n 1, 1) := by decide +kernel
theorem dX12_marginIn_44 : decode cX12_marginIn 44 = .ok (.imul, 1) := by decide +kernel
theorem dX12_marginIn_45 : decode cX12_marginIn 45 = .ok (.iconst 3, 1) := by decide +kernel
theorem dX12_marginIn_46 : decode cX12_marginIn 46 = .ok (.iload_n 2, 1) := by decide +kernel
theorem dX12_marginIn_47 : decode cX12_marginIn 47 = .ok (.imul, 1) := by decide +kernel
theorem dX12_marginIn_48 : decode cX12_marginIn 48 = .ok (.iadd, 1) := by decide +kernel
theorem dX12_marginIn_49 : decode cX12_marginIn 49 = .ok (.iconst 2, 1) := by decide +kernel
theorem dX12_marginIn_50 : decode cX12_marginIn 50 = .ok (.iadd, 1) := by decide +kernel
theorem dX12_marginIn_51 : decode cX12_marginIn 51 = .ok (.iaload, 1) := by decide +kernel
theorem dX12_marginIn_52 : decode cX12_marginIn 52 = .ok (.invokevirtual 275, 3) := by decide +kernel
theorem dX12_marginIn_55 : decode cX12_marginIn 55 = .ok (.aload_n 0, 1) := by decide +kernel
theorem dX12_marginIn_56 : decode cX12_marginIn 56 = .ok (.aload_n 0, 1) := by decide +kernel
theorem dX12_marginIn_57 : decode cX12_marginIn 57 = .ok (.getfield 73, 3) := by decide +kernel
theorem dX12_marginIn_60 : decode cX12_marginIn 60 = .ok (.iload 4, 2) := by decide +kernel
theorem dX12_marginIn_62 : decode cX12_marginIn 62 = .ok (.iaload, 1) := by decide +kernel
theorem dX12_marginIn_63 : decode cX12_marginIn 63 = .ok (.iload 6, 2) := by decide +kernel
theorem dX12_marginIn_65 : decode cX12_marginIn 65 = .ok (.aload_n 0, 1) := by decide +kernel
theorem dX12_marginIn_66 : decode cX12_marginIn 66 = .ok (.iload_n 1, 1) := by decide +kernel
theorem dX12_marginIn_67 : decode cX12_marginIn 67 = .ok (.iload_n 2, 1) := by decide +kernel
theorem dX12_marginIn_68 : decode cX12_marginIn 68 = .ok (.iload_n 3, 1) := by decide +kernel
theorem dX12_marginIn_69 : decode cX12_marginIn 69 = .ok (.invokevirtual 254, 3) := by decide +kernel
theorem dX12_marginIn_72 : decode cX12_marginIn 72 = .ok (.aload_n 0, 1) := by decide +kernel
theorem dX12_marginIn_73 : decode cX12_marginIn 73 = .ok (.getfield 76, 3) := by decide +kernel
theorem dX12_marginIn_76 : decode cX12_marginIn 76 = .ok (.iload_n 2, 1) := by decide +kernel
theorem dX12_marginIn_77 : decode cX12_marginIn 77 = .ok (.iaload, 1) := by decide +kernel
theorem dX12_marginIn_78 : decode cX12_marginIn 78 = .ok (.iadd, 1) := by decide +kernel
theorem dX12_marginIn_79 : decode cX12_marginIn 79 = .ok (.iload 5, 2) := by decide +kernel
theorem dX12_marginIn_81 : decode cX12_marginIn 81 = .ok (.iload 4, 2) := by decide +kernel
theorem dX12_marginIn_83 : decode cX12_marginIn 83 = .ok (.invokestatic 279, 3) := by decide +kernel
theorem dX12_marginIn_86 : decode cX12_marginIn 86 = .ok (.invokevirtual 282, 3) := by decide +kernel
theorem dX12_marginIn_89 : decode cX12_marginIn 89 = .ok (.isub, 1) := by decide +kernel
theorem dX12_marginIn_90 : decode cX12_marginIn 90 = .ok (.ireturn, 1) := by decide +kernel
theorem dX12_margin_0 : decode cX12_margin 0 = .ok (.aload_n 0, 1) := by decide +kernel
theorem dX12_margin_1 : decode cX12_margin 1 = .ok (.iload_n 1, 1) := by decide +kernel
theorem dX12_margin_2 : decode cX12_margin 2 = .ok (.invokevirtual 285, 3) := by decide +kernel
theorem dX12_margin_5 : decode cX12_margin 5 = .ok (.ifCond .eq 51, 3) := by decide +kernel
theorem dX12_margin_8 : decode cX12_margin 8 = .ok (.aload_n 0, 1) := by decide +kernel
theorem dX12_margin_9 : decode cX12_margin 9 = .ok (.iload_n 2, 1) := by decide +kernel
theorem dX12_margin_10 : decode cX12_margin 10 = .ok (.invokevirtual 288, 3) := by decide +kernel
theorem dX12_margin_13 : decode cX12_margin 13 = .ok (.ifCond .eq 43, 3) := by decide +kernel
theorem dX12_margin_16 : decode cX12_margin 16 = .ok (.iload_n 3, 1) := by decide +kernel
theorem dX12_margin_17 : decode cX12_margin 17 = .ok (.ifCond .lt 39, 3) := by decide +kernel
theorem dX12_margin_20 : decode cX12_margin 20 = .ok (.iload_n 3, 1) := by decide +kernel
theorem dX12_margin_21 : decode cX12_margin 21 = .ok (.bipush 100, 2) := by decide +kernel
theorem dX12_margin_23 : decode cX12_margin 23 = .ok (.idiv, 1) := by decide +kernel
theorem dX12_margin_24 : decode cX12_margin 24 = .ok (.aload_n 0, 1) := by decide +kernel
theorem dX12_margin_25 : decode cX12_margin 25 = .ok (.getfield 263, 3) := by decide +kernel
theorem dX12_margin_28 : decode cX12_margin 28 = .ok (.if_icmp .ge 28, 3) := by decide +kernel
theorem dX12_margin_31 : decode cX12_margin 31 = .ok (.aload_n 0, 1) := by decide +kernel
theorem dX12_margin_32 : decode cX12_margin 32 = .ok (.iload_n 1, 1) := by decide +kernel
theorem dX12_margin_33 : decode cX12_margin 33 = .ok (.bipush 100, 2) := by decide +kernel
theorem dX12_margin_35 : decode cX12_margin 35 = .ok (.idiv, 1) := by decide +kernel
theorem dX12_margin_36 : decode cX12_margin 36 = .ok (.iload_n 3, 1) := by decide +kernel
theorem dX12_margin_37 : decode cX12_margin 37 = .ok (.bipush 100, 2) := by decide +kernel
theorem dX12_margin_39 : decode cX12_margin 39 = .ok (.irem, 1) := by decide +kernel
theorem dX12_margin_40 : decode cX12_margin 40 = .ok (.invokevirtual 161, 3) := by decide +kernel
theorem dX12_margin_43 : decode cX12_margin 43 = .ok (.ifCond .eq 13, 3) := by decide +kernel
theorem dX12_margin_46 : decode cX12_margin 46 = .ok (.iload 4, 2) := by decide +kernel
theorem dX12_margin_48 : decode cX12_margin 48 = .ok (.iconst 0, 1) := by decide +kernel
theorem dX12_margin_49 : decode cX12_margin 49 = .ok (.iconst 2, 1) := by decide +kernel
theorem dX12_margin_50 : decode cX12_margin 50 = .ok (.invokestatic 110, 3) := by decide +kernel
theorem dX12_margin_53 : decode cX12_margin 53 = .ok (.ifCond .ne 6, 3) := by decide +kernel
theorem dX12_margin_56 : decode cX12_margin 56 = .ok (.ldc 250, 2) := by decide +kernel
theorem dX12_margin_58 : decode cX12_margin 58 = .ok (.ireturn, 1) := by decide +kernel
theorem dX12_margin_59 : decode cX12_margin 59 = .ok (.aload_n 0, 1) := by decide +kernel
theorem dX12_margin_60 : decode cX12_margin 60 = .ok (.aload_n 0, 1) := by decide +kernel
theorem dX12_margin_61 : decode cX12_margin 61 = .ok (.getfield 57, 3) := by decide +kernel
theorem dX12_margin_64 : decode cX12_margin 64 = .ok (.iload_n 1, 1) := by decide +kernel
theorem dX12_margin_65 : decode cX12_margin 65 = .ok (.bipush 100, 2) := by decide +kernel
theorem dX12_margin_67 : decode cX12_margin 67 = .ok (.irem, 1) := by decide +kernel
theorem dX12_margin_68 : decode cX12_margin 68 = .ok (.invokevirtual 247, 3) := by decide +kernel
theorem dX12_margin_71 : decode cX12_margin 71 = .ok (.istore 5, 2) := by decide +kernel
theorem dX12_margin_73 : decode cX12_margin 73 = .ok (.iload_n 3, 1) := by decide +kernel
theorem dX12_margin_74 : decode cX12_margin 74 = .ok (.bipush 100, 2) := by decide +kernel
theorem dX12_margin_76 : decode cX12_margin 76 = .ok (.idiv, 1) := by decide +kernel
theorem dX12_margin_77 : decode cX12_margin 77 = .ok (.istore 6, 2) := by decide +kernel
theorem dX12_margin_79 : decode cX12_margin 79 = .ok (.iload_n 3, 1) := by decide +kernel
theorem dX12_margin_80 : decode cX12_margin 80 = .ok (.bipush 100, 2) := by decide +kernel
theorem dX12_margin_82 : decode cX12_margin 82 = .ok (.irem, 1) := by decide +kernel
theorem dX12_margin_83 : decode cX12_margin 83 = .ok (.istore 7, 2) := by decide +kernel
theorem dX12_margin_85 : decode cX12_margin 85 = .ok (.iload 4, 2) := by decide +kernel
theorem dX12_margin_87 : decode cX12_margin 87 = .ok (.ifCond .ne 22, 3) := by decide +kernel
theorem dX12_margin_90 : decode cX12_margin 90 = .ok (.aload_n 0, 1) := by decide +kernel
theorem dX12_margin_91 : decode cX12_margin 91 = .ok (.iload_n 1, 1) := by decide +kernel
theorem dX12_margin_92 : decode cX12_margin 92 = .ok (.bipush 100, 2) := by decide +kernel
theorem dX12_margin_94 : decode cX12_margin 94 = .ok (.idiv, 1) := by decide +kernel
theorem dX12_margin_95 : decode cX12_margin 95 = .ok (.iload 7, 2) := by decide +kernel
theorem dX12_margin_97 : decode cX12_margin 97 = .ok (.iload 5, 2) := by decide +kernel
theorem dX12_margin_99 : decode cX12_margin 99 = .ok (.iload 6, 2) := by decide +kernel
theorem dX12_margin_101 : decode cX12_margin 101 = .ok (.iload_n 2, 1) := by decide +kernel
theorem dX12_margin_102 : decode cX12_margin 102 = .ok (.bipush 10, 2) := by decide +kernel
theorem dX12_margin_104 : decode cX12_margin 104 = .ok (.irem, 1) := by decide +kernel
theorem dX12_margin_105 : decode cX12_margin 105 = .ok (.invokevirtual 291, 3) := by decide +kernel
theorem dX12_margin_108 : decode cX12_margin 108 = .ok (.ireturn, 1) := by decide +kernel
theorem dX12_margin_109 : decode cX12_margin 109 = .ok (.aload_n 0, 1) := by decide +kernel
theorem dX12_margin_110 : decode cX12_margin 110 = .ok (.iload_n 1, 1) := by decide +kernel
theorem dX12_margin_111 : decode cX12_margin 111 = .ok (.bipush 100, 2) := by decide +kernel
theorem dX12_margin_113 : decode cX12_margin 113 = .ok (.idiv, 1) := by decide +kernel
theorem dX12_margin_114 : decode cX12_margin 114 = .ok (.iload 7, 2) := by decide +kernel
theorem dX12_margin_116 : decode cX12_margin 116 = .ok (.iload 5, 2) := by decide +kernel
theorem dX12_margin_118 : decode cX12_margin 118 = .ok (.invokevirtual 251, 3) := by decide +kernel
theorem dX12_margin_121 : decode cX12_margin 121 = .ok (.istore 8, 2) := by decide +kernel
theorem dX12_margin_123 : decode cX12_margin 123 = .ok (.iload 4, 2) := by decide +kernel
theorem dX12_margin_125 : decode cX12_margin 125 = .ok (.iconst 1, 1) := by decide +kernel
theorem dX12_margin_126 : decode cX12_margin 126 = .ok (.if_icmp .ne 37, 3) := by decide +kernel
theorem dX12_margin_129 : decode cX12_margin 129 = .ok (.aload_n 0, 1) := by decide +kernel
theorem dX12_margin_130 : decode cX12_margin 130 = .ok (.iload 6, 2) := by decide +kernel
theorem dX12_margin_132 : decode cX12_margin 132 = .ok (.iload_n 2, 1) := by decide +kernel
theorem dX12_margin_133 : decode cX12_margin 133 = .ok (.bipush 10, 2) := by decide +kernel
theorem dX12_margin_135 : decode cX12_margin 135 = .ok (.irem, 1) := by decide +kernel
theorem dX12_margin_136 : decode cX12_margin 136 = .ok (.iload 8, 2) := by decide +kernel
theorem dX12_margin_138 : decode cX12_margin 138 = .ok (.aload_n 0, 1) := by decide +kernel
theorem dX12_margin_139 : decode cX12_margin 139 = .ok (.getfield 20, 3) := by decide +kernel
theorem dX12_margin_142 : decode cX12_margin 142 = .ok (.bipush 36, 2) := by decide +kernel
theorem dX12_margin_144 : decode cX12_margin 144 = .ok (.iload_n 1, 1) := by decide +kernel
theorem dX12_margin_145 : decode cX12_margin 145 = .ok (.bipush 100, 2) := by decide +kernel
theorem dX12_margin_147 : decode cX12_margin 147 = .ok (.idiv, 1) := by decide +kernel
theorem dX12_margin_148 : decode cX12_margin 148 = .ok (.imul, 1) := by decide +kernel
theorem dX12_margin_149 : decode cX12_margin 149 = .ok (.iconst 3, 1) := by decide +kernel
theorem dX12_margin_150 : decode cX12_margin 150 = .ok (.iload 7, 2) := by decide +kernel
theorem dX12_margin_152 : decode cX12_margin 152 = .ok (.imul, 1) := by decide +kernel
theorem dX12_margin_153 : decode cX12_margin 153 = .ok (.iadd, 1) := by decide +kernel
theorem dX12_margin_154 : decode cX12_margin 154 = .ok (.iconst 2, 1) := by decide +kernel
theorem dX12_margin_155 : decode cX12_margin 155 = .ok (.iadd, 1) := by decide +kernel
theorem dX12_margin_156 : decode cX12_margin 156 = .ok (.iaload, 1) := by decide +kernel
theorem dX12_margin_157 : decode cX12_margin 157 = .ok (.invokevirtual 275, 3) := by decide +kernel
theorem dX12_margin_160 : decode cX12_margin 160 = .ok (.goto 37, 3) := by decide +kernel
theorem dX12_margin_163 : decode cX12_margin 163 = .ok (.aload_n 0, 1) := by decide +kernel
theorem dX12_margin_164 : decode cX12_margin 164 = .ok (.aload_n 0, 1) := by decide +kernel
theorem dX12_margin_165 : decode cX12_margin 165 = .ok (.getfield 73, 3) := by decide +kernel
theorem dX12_margin_168 : decode cX12_margin 168 = .ok (.iload 6, 2) := by decide +kernel
theorem dX12_margin_170 : decode cX12_margin 170 = .ok (.iaload, 1) := by decide +kernel
theorem dX12_margin_171 : decode cX12_margin 171 = .ok (.iload 8, 2) := by decide +kernel
theorem dX12_margin_173 : decode cX12_margin 173 = .ok (.aload_n 0, 1) := by decide +kernel
theorem dX12_margin_174 : decode cX12_margin 174 = .ok (.iload_n 1, 1) := by decide +kernel
theorem dX12_margin_175 : decode cX12_margin 175 = .ok (.bipush 100, 2) := by decide +kernel
theorem dX12_margin_177 : decode cX12_margin 177 = .ok (.idiv, 1) := by decide +kernel
theorem dX12_margin_178 : decode cX12_margin 178 = .ok (.iload 7, 2) := by decide +kernel
theorem dX12_margin_180 : decode cX12_margin 180 = .ok (.iload 5, 2) := by decide +kernel
theorem dX12_margin_182 : decode cX12_margin 182 = .ok (.invokevirtual 254, 3) := by decide +kernel
theorem dX12_margin_185 : decode cX12_margin 185 = .ok (.iload_n 2, 1) := by decide +kernel
theorem dX12_margin_186 : decode cX12_margin 186 = .ok (.bipush 10, 2) := by decide +kernel
theorem dX12_margin_188 : decode cX12_margin 188 = .ok (.irem, 1) := by decide +kernel
theorem dX12_margin_189 : decode cX12_margin 189 = .ok (.iload 6, 2) := by decide +kernel
theorem dX12_margin_191 : decode cX12_margin 191 = .ok (.invokestatic 279, 3) := by decide +kernel
theorem dX12_margin_194 : decode cX12_margin 194 = .ok (.invokevirtual 282, 3) := by decide +kernel
theorem dX12_margin_197 : decode cX12_margin 197 = .ok (.ireturn, 1) := by decide +kernel
theorem dX12_allStand_0 : decode cX12_allStand 0 = .ok (.iconst 0, 1) := by decide +kernel
theorem dX12_allStand_1 : decode cX12_allStand 1 = .ok (.istore 5, 2) := by decide +kernel
theorem dX12_allStand_3 : decode cX12_allStand 3 = .ok (.iload 5, 2) := by decide +kernel
theorem dX12_allStand_5 : decode cX12_allStand 5 = .ok (.aload_n 0, 1) := by decide +kernel
theorem dX12_allStand_6 : decode cX12_allStand 6 = .ok (.getfield 263, 3) := by decide +kernel
theorem dX12_allStand_9 : decode cX12_allStand 9 = .ok (.if_icmp .ge 25, 3) := by decide +kernel
theorem dX12_allStand_12 : decode cX12_allStand 12 = .ok (.aload_n 0, 1) := by decide +kernel
theorem dX12_allStand_13 : decode cX12_allStand 13 = .ok (.iload_n 1, 1) := by decide +kernel
theorem dX12_allStand_14 : decode cX12_allStand 14 = .ok (.iload_n 2, 1) := by decide +kernel
theorem dX12_allStand_15 : decode cX12_allStand 15 = .ok (.iload_n 3, 1) := by decide +kernel
theorem dX12_allStand_16 : decode cX12_allStand 16 = .ok (.iload 5, 2) := by decide +kernel
theorem dX12_allStand_18 : decode cX12_allStand 18 = .ok (.iload 4, 2) := by decide +kernel
theorem dX12_allStand_20 : decode cX12_allStand 20 = .ok (.invokevirtual 291, 3) := by decide +kernel
theorem dX12_allStand_23 : decode cX12_allStand 23 = .ok (.ifCond .ge 5, 3) := by decide +kernel
theorem dX12_allStand_26 : decode cX12_allStand 26 = .ok (.iconst 0, 1) := by decide +kernel
theorem dX12_allStand_27 : decode cX12_allStand 27 = .ok (.ireturn, 1) := by decide +kernel
theorem dX12_allStand_28 : decode cX12_allStand 28 = .ok (.iinc 5 1, 3) := by decide +kernel
theorem dX12_allStand_31 : decode cX12_allStand 31 = .ok (.goto (-28), 3) := by decide +kernel
theorem dX12_allStand_34 : decode cX12_allStand 34 = .ok (.iconst 1, 1) := by decide +kernel
theorem dX12_allStand_35 : decode cX12_allStand 35 = .ok (.ireturn, 1) := by decide +kernel
theorem dX12_isOver_0 : decode cX12_isOver 0 = .ok (.iconst 0, 1) := by decide +kernel
theorem dX12_isOver_1 : decode cX12_isOver 1 = .ok (.istore 4, 2) := by decide +kernel
theorem dX12_isOver_3 : decode cX12_isOver 3 = .ok (.iload 4, 2) := by decide +kernel
theorem dX12_isOver_5 : decode cX12_isOver 5 = .ok (.aload_n 0, 1) := by decide +kernel
theorem dX12_isOver_6 : decode cX12_isOver 6 = .ok (.getfield 13, 3) := by decide +kernel
theorem dX12_isOver_9 : decode cX12_isOver 9 = .ok (.iload_n 1, 1) := by decide +kernel
theorem dX12_isOver_10 : decode cX12_isOver 10 = .ok (.iaload, 1) := by decide +kernel
theorem dX12_isOver_11 : decode cX12_isOver 11 = .ok (.if_icmp .ge 23, 3) := by decide +kernel
theorem dX12_isOver_14 : decode cX12_isOver 14 = .ok (.aload_n 0, 1) := by decide +kernel
theorem dX12_isOver_15 : decode cX12_isOver 15 = .ok (.iload_n 1, 1) := by decide +kernel
theorem dX12_isOver_16 : decode cX12_isOver 16 = .ok (.iload 4, 2) := by decide +kernel
theorem dX12_isOver_18 : decode cX12_isOver 18 = .ok (.iload_n 2, 1) := by decide +kernel
theorem dX12_isOver_19 : decode cX12_isOver 19 = .ok (.iload_n 3, 1) := by decide +kernel
theorem dX12_isOver_20 : decode cX12_isOver 20 = .ok (.invokevirtual 295, 3) := by decide +kernel
theorem dX12_isOver_23 : decode cX12_isOver 23 = .ok (.ifCond .ne 5, 3) := by decide +kernel
theorem dX12_isOver_26 : decode cX12_isOver 26 = .ok (.iconst 0, 1) := by decide +kernel
theorem dX12_isOver_27 : decode cX12_isOver 27 = .ok (.ireturn, 1) := by decide +kernel
theorem dX12_isOver_28 : decode cX12_isOver 28 = .ok (.iinc 4 1, 3) := by decide +kernel
theorem dX12_isOver_31 : decode cX12_isOver 31 = .ok (.goto (-28), 3) := by decide +kernel
theorem dX12_isOver_34 : decode cX12_isOver 34 = .ok (.iconst 1, 1) := by decide +kernel
theorem dX12_isOver_35 : decode cX12_isOver 35 = .ok (.ireturn, 1) := by decide +kernel
theorem dX12_leastOf_0 : decode cX12_leastOf 0 = .ok (.aload_n 0, 1) := by decide +kernel
theorem dX12_leastOf_1 : decode cX12_leastOf 1 = .ok (.iload_n 1, 1) := by decide +kernel
theorem dX12_leastOf_2 : decode cX12_leastOf 2 = .ok (.iconst 0, 1) := by decide +kernel
theorem dX12_leastOf_3 : decode cX12_leastOf 3 = .ok (.iload_n 2, 1) := by decide +kernel
theorem dX12_leastOf_4 : decode cX12_leastOf 4 = .ok (.iconst 0, 1) := by decide +kernel
theorem dX12_leastOf_5 : decode cX12_leastOf 5 = .ok (.iload_n 3, 1) := by decide +kernel
theorem dX12_leastOf_6 : decode cX12_leastOf 6 = .ok (.invokevirtual 291, 3) := by decide +kernel
theorem dX12_leastOf_9 : decode cX12_leastOf 9 = .ok (.istore 4, 2) := by decide +kernel
theorem dX12_leastOf_11 : decode cX12_leastOf 11 = .ok (.iconst 0, 1) := by decide +kernel
theorem dX12_leastOf_12 : decode cX12_leastOf 12 = .ok (.istore 5, 2) := by decide +kernel
theorem dX12_leastOf_14 : decode cX12_leastOf 14 = .ok (.iload 5, 2) := by decide +kernel
theorem dX12_leastOf_16 : decode cX12_leastOf 16 = .ok (.aload_n 0, 1) := by decide +kernel
theorem dX12_leastOf_17 : decode cX12_leastOf 17 = .ok (.getfield 13, 3) := by decide +kernel
theorem dX12_leastOf_20 : decode cX12_leastOf 20 = .ok (.iload_n 1, 1) := by decide +kernel
theorem dX12_leastOf_21 : decode cX12_leastOf 21 = .ok (.iaload, 1) := by decide +kernel
theorem dX12_leastOf_22 : decode cX12_leastOf 22 = .ok (.if_icmp .ge 51, 3) := by decide +kernel
theorem dX12_leastOf_25 : decode cX12_leastOf 25 = .ok (.iconst 0, 1) := by decide +kernel
theorem dX12_leastOf_26 : decode cX12_leastOf 26 = .ok (.istore 6, 2) := by decide +kernel
theorem dX12_leastOf_28 : decode cX12_leastOf 28 = .ok (.iload 6, 2) := by decide +kernel
theorem dX12_leastOf_30 : decode cX12_leastOf 30 = .ok (.aload_n 0, 1) := by decide +kernel
theorem dX12_leastOf_31 : decode cX12_leastOf 31 = .ok (.getfield 263, 3) := by decide +kernel
theorem dX12_leastOf_34 : decode cX12_leastOf 34 = .ok (.if_icmp .ge 33, 3) := by decide +kernel
theorem dX12_leastOf_37 : decode cX12_leastOf 37 = .ok (.aload_n 0, 1) := by decide +kernel
theorem dX12_leastOf_38 : decode cX12_leastOf 38 = .ok (.iload_n 1, 1) := by decide +kernel
theorem dX12_leastOf_39 : decode cX12_leastOf 39 = .ok (.iload 5, 2) := by decide +kernel
theorem dX12_leastOf_41 : decode cX12_leastOf 41 = .ok (.iload_n 2, 1) := by decide +kernel
theorem dX12_leastOf_42 : decode cX12_leastOf 42 = .ok (.iload 6, 2) := by decide +kernel
theorem dX12_leastOf_44 : decode cX12_leastOf 44 = .ok (.iload_n 3, 1) := by decide +kernel
theorem dX12_leastOf_45 : decode cX12_leastOf 45 = .ok (.invokevirtual 291, 3) := by decide +kernel
theorem dX12_leastOf_48 : decode cX12_leastOf 48 = .ok (.istore 7, 2) := by decide +kernel
theorem dX12_leastOf_50 : decode cX12_leastOf 50 = .ok (.iload 7, 2) := by decide +kernel
theorem dX12_leastOf_52 : decode cX12_leastOf 52 = .ok (.iload 4, 2) := by decide +kernel
theorem dX12_leastOf_54 : decode cX12_leastOf 54 = .ok (.if_icmp .ge 7, 3) := by decide +kernel
theorem dX12_leastOf_57 : decode cX12_leastOf 57 = .ok (.iload 7, 2) := by decide +kernel
theorem dX12_leastOf_59 : decode cX12_leastOf 59 = .ok (.istore 4, 2) := by decide +kernel
theorem dX12_leastOf_61 : decode cX12_leastOf 61 = .ok (.iinc 6 1, 3) := by decide +kernel
theorem dX12_leastOf_64 : decode cX12_leastOf 64 = .ok (.goto (-36), 3) := by decide +kernel
theorem dX12_leastOf_67 : decode cX12_leastOf 67 = .ok (.iinc 5 1, 3) := by decide +kernel
theorem dX12_leastOf_70 : decode cX12_leastOf 70 = .ok (.goto (-56), 3) := by decide +kernel
theorem dX12_leastOf_73 : decode cX12_leastOf 73 = .ok (.iload 4, 2) := by decide +kernel
theorem dX12_leastOf_75 : decode cX12_leastOf 75 = .ok (.ireturn, 1) := by decide +kernel
theorem dX12_over_0 : decode cX12_over 0 = .ok (.aload_n 0, 1) := by decide +kernel
theorem dX12_over_1 : decode cX12_over 1 = .ok (.iload_n 1, 1) := by decide +kernel
theorem dX12_over_2 : decode cX12_over 2 = .ok (.invokevirtual 285, 3) := by decide +kernel
theorem dX12_over_5 : decode cX12_over 5 = .ok (.ifCond .eq 20, 3) := by decide +kernel
theorem dX12_over_8 : decode cX12_over 8 = .ok (.aload_n 0, 1) := by decide +kernel
theorem dX12_over_9 : decode cX12_over 9 = .ok (.iload_n 2, 1) := by decide +kernel
theorem dX12_over_10 : decode cX12_over 10 = .ok (.invokevirtual 288, 3) := by decide +kernel
theorem dX12_over_13 : decode cX12_over 13 = .ok (.ifCond .eq 12, 3) := by decide +kernel
theorem dX12_over_16 : decode cX12_over 16 = .ok (.iload_n 3, 1) := by decide +kernel
theorem dX12_over_17 : decode cX12_over 17 = .ok (.iconst 0, 1) := by decide +kernel
theorem dX12_over_18 : decode cX12_over 18 = .ok (.iconst 2, 1) := by decide +kernel
theorem dX12_over_19 : decode cX12_over 19 = .ok (.invokestatic 110, 3) := by decide +kernel
theorem dX12_over_22 : decode cX12_over 22 = .ok (.ifCond .ne 6, 3) := by decide +kernel
theorem dX12_over_25 : decode cX12_over 25 = .ok (.ldc 250, 2) := by decide +kernel
theorem dX12_over_27 : decode cX12_over 27 = .ok (.ireturn, 1) := by decide +kernel
theorem dX12_over_28 : decode cX12_over 28 = .ok (.iload_n 1, 1) := by decide +kernel
theorem dX12_over_29 : decode cX12_over 29 = .ok (.bipush 100, 2) := by decide +kernel
theorem dX12_over_31 : decode cX12_over 31 = .ok (.idiv, 1) := by decide +kernel
theorem dX12_over_32 : decode cX12_over 32 = .ok (.istore 4, 2) := by decide +kernel
theorem dX12_over_34 : decode cX12_over 34 = .ok (.aload_n 0, 1) := by decide +kernel
theorem dX12_over_35 : decode cX12_over 35 = .ok (.aload_n 0, 1) := by decide +kernel
theorem dX12_over_36 : decode cX12_over 36 = .ok (.getfield 57, 3) := by decide +kernel
theorem dX12_over_39 : decode cX12_over 39 = .ok (.iload_n 1, 1) := by decide +kernel
theorem dX12_over_40 : decode cX12_over 40 = .ok (.bipush 100, 2) := by decide +kernel
theorem dX12_over_42 : decode cX12_over 42 = .ok (.irem, 1) := by decide +kernel
theorem dX12_over_43 : decode cX12_over 43 = .ok (.invokevirtual 247, 3) := by decide +kernel
theorem dX12_over_46 : decode cX12_over 46 = .ok (.istore 5, 2) := by decide +kernel
theorem dX12_over_48 : decode cX12_over 48 = .ok (.iload_n 3, 1) := by decide +kernel
theorem dX12_over_49 : decode cX12_over 49 = .ok (.iconst 2, 1) := by decide +kernel
theorem dX12_over_50 : decode cX12_over 50 = .ok (.if_icmp .ge 43, 3) := by decide +kernel
theorem dX12_over_53 : decode cX12_over 53 = .ok (.iload_n 3, 1) := by decide +kernel
theorem dX12_over_54 : decode cX12_over 54 = .ok (.ifCond .ne 26, 3) := by decide +kernel
theorem dX12_over_57 : decode cX12_over 57 = .ok (.aload_n 0, 1) := by decide +kernel
theorem dX12_over_58 : decode cX12_over 58 = .ok (.iload 4, 2) := by decide +kernel
theorem dX12_over_60 : decode cX12_over 60 = .ok (.iload 5, 2) := by decide +kernel
theorem dX12_over_62 : decode cX12_over 62 = .ok (.iload_n 2, 1) := by decide +kernel
theorem dX12_over_63 : decode cX12_over 63 = .ok (.bipush 10, 2) := by decide +kernel
theorem dX12_over_65 : decode cX12_over 65 = .ok (.irem, 1) := by decide +kernel
theorem dX12_over_66 : decode cX12_over 66 = .ok (.invokevirtual 299, 3) := by decide +kernel
theorem dX12_over_69 : decode cX12_over 69 = .ok (.ifCond .eq 7, 3) := by decide +kernel
theorem dX12_over_72 : decode cX12_over 72 = .ok (.iconst 1, 1) := by decide +kernel
theorem dX12_over_73 : decode cX12_over 73 = .ok (.goto 19, 3) := by decide +kernel
theorem dX12_over_76 : decode cX12_over 76 = .ok (.iconst 0, 1) := by decide +kernel
theorem dX12_over_77 : decode cX12_over 77 = .ok (.goto 15, 3) := by decide +kernel
theorem dX12_over_80 : decode cX12_over 80 = .ok (.aload_n 0, 1) := by decide +kernel
theorem dX12_over_81 : decode cX12_over 81 = .ok (.iload 4, 2) := by decide +kernel
theorem dX12_over_83 : decode cX12_over 83 = .ok (.iload 5, 2) := by decide +kernel
theorem dX12_over_85 : decode cX12_over 85 = .ok (.iload_n 2, 1) := by decide +kernel
theorem dX12_over_86 : decode cX12_over 86 = .ok (.bipush 10, 2) := by decide +kernel
theorem dX12_over_88 : decode cX12_over 88 = .ok (.irem, 1) := by decide +kernel
theorem dX12_over_89 : decode cX12_over 89 = .ok (.invokevirtual 302, 3) := by decide +kernel
theorem dX12_over_92 : decode cX12_over 92 = .ok (.ireturn, 1) := by decide +kernel
theorem dX12_over_93 : decode cX12_over 93 = .ok (.iconst 0, 1) := by decide +kernel
theorem dX12_over_94 : decode cX12_over 94 = .ok (.istore 6, 2) := by decide +kernel
theorem dX12_over_96 : decode cX12_over 96 = .ok (.iload 6, 2) := by decide +kernel
theorem dX12_over_98 : decode cX12_over 98 = .ok (.aload_n 0, 1) := by decide +kernel
theorem dX12_over_99 : decode cX12_over 99 = .ok (.getfield 13, 3) := by decide +kernel
theorem dX12_over_102 : decode cX12_over 102 = .ok (.iload 4, 2) := by decide +kernel
theorem dX12_over_104 : decode cX12_over 104 = .ok (.iaload, 1) := by decide +kernel
theorem dX12_over_105 : decode cX12_over 105 = .ok (.if_icmp .ge 55, 3) := by decide +kernel
theorem dX12_over_108 : decode cX12_over 108 = .ok (.iconst 0, 1) := by decide +kernel
theorem dX12_over_109 : decode cX12_over 109 = .ok (.istore 7, 2) := by decide +kernel
theorem dX12_over_111 : decode cX12_over 111 = .ok (.iload 7, 2) := by decide +kernel
theorem dX12_over_113 : decode cX12_over 113 = .ok (.aload_n 0, 1) := by decide +kernel
theorem dX12_over_114 : decode cX12_over 114 = .ok (.getfield 263, 3) := by decide +kernel
theorem dX12_over_117 : decode cX12_over 117 = .ok (.if_icmp .ge 37, 3) := by decide +kernel
theorem dX12_over_120 : decode cX12_over 120 = .ok (.aload_n 0, 1) := by decide +kernel
theorem dX12_over_121 : decode cX12_over 121 = .ok (.iload 4, 2) := by decide +kernel
theorem dX12_over_123 : decode cX12_over 123 = .ok (.iload 6, 2) := by decide +kernel
theorem dX12_over_125 : decode cX12_over 125 = .ok (.iload 5, 2) := by decide +kernel
theorem dX12_over_127 : decode cX12_over 127 = .ok (.iload 7, 2) := by decide +kernel
theorem dX12_over_129 : decode cX12_over 129 = .ok (.iload_n 2, 1) := by decide +kernel
theorem dX12_over_130 : decode cX12_over 130 = .ok (.bipush 10, 2) := by decide +kernel
theorem dX12_over_132 : decode cX12_over 132 = .ok (.irem, 1) := by decide +kernel
theorem dX12_over_133 : decode cX12_over 133 = .ok (.invokevirtual 291, 3) := by decide +kernel
theorem dX12_over_136 : decode cX12_over 136 = .ok (.ifCond .ge 12, 3) := by decide +kernel
theorem dX12_over_139 : decode cX12_over 139 = .ok (.bipush 100, 2) := by decide +kernel
theorem dX12_over_141 : decode cX12_over 141 = .ok (.iload 6, 2) := by decide +kernel
theorem dX12_over_143 : decode cX12_over 143 = .ok (.imul, 1) := by decide +kernel
theorem dX12_over_144 : decode cX12_over 144 = .ok (.iload 7, 2) := by decide +kernel
theorem dX12_over_146 : decode cX12_over 146 = .ok (.iadd, 1) := by decide +kernel
theorem dX12_over_147 : decode cX12_over 147 = .ok (.ireturn, 1) := by decide +kernel
theorem dX12_over_148 : decode cX12_over 148 = .ok (.iinc 7 1, 3) := by decide +kernel
theorem dX12_over_151 : decode cX12_over 151 = .ok (.goto (-40), 3) := by decide +kernel
theorem dX12_over_154 : decode cX12_over 154 = .ok (.iinc 6 1, 3) := by decide +kernel
theorem dX12_over_157 : decode cX12_over 157 = .ok (.goto (-61), 3) := by decide +kernel
theorem dX12_over_160 : decode cX12_over 160 = .ok (.bipush (-2), 2) := by decide +kernel
theorem dX12_over_162 : decode cX12_over 162 = .ok (.ireturn, 1) := by decide +kernel
theorem dX12_order_0 : decode cX12_order 0 = .ok (.aload_n 0, 1) := by decide +kernel
theorem dX12_order_1 : decode cX12_order 1 = .ok (.iload_n 1, 1) := by decide +kernel
theorem dX12_order_2 : decode cX12_order 2 = .ok (.invokevirtual 285, 3) := by decide +kernel
theorem dX12_order_5 : decode cX12_order 5 = .ok (.ifCond .eq 20, 3) := by decide +kernel
theorem dX12_order_8 : decode cX12_order 8 = .ok (.aload_n 0, 1) := by decide +kernel
theorem dX12_order_9 : decode cX12_order 9 = .ok (.iload_n 2, 1) := by decide +kernel
theorem dX12_order_10 : decode cX12_order 10 = .ok (.invokevirtual 288, 3) := by decide +kernel
theorem dX12_order_13 : decode cX12_order 13 = .ok (.ifCond .eq 12, 3) := by decide +kernel
theorem dX12_order_16 : decode cX12_order 16 = .ok (.iload_n 3, 1) := by decide +kernel
theorem dX12_order_17 : decode cX12_order 17 = .ok (.iconst 0, 1) := by decide +kernel
theorem dX12_order_18 : decode cX12_order 18 = .ok (.iconst 1, 1) := by decide +kernel
theorem dX12_order_19 : decode cX12_order 19 = .ok (.invokestatic 110, 3) := by decide +kernel
theorem dX12_order_22 : decode cX12_order 22 = .ok (.ifCond .ne 6, 3) := by decide +kernel
theorem dX12_order_25 : decode cX12_order 25 = .ok (.ldc 250, 2) := by decide +kernel
theorem dX12_order_27 : decode cX12_order 27 = .ok (.ireturn, 1) := by decide +kernel
theorem dX12_order_28 : decode cX12_order 28 = .ok (.aload_n 0, 1) := by decide +kernel
theorem dX12_order_29 : decode cX12_order 29 = .ok (.getfield 263, 3) := by decide +kernel
theorem dX12_order_32 : decode cX12_order 32 = .ok (.istore 4, 2) := by decide +kernel
theorem dX12_order_34 : decode cX12_order 34 = .ok (.aload_n 0, 1) := by decide +kernel
theorem dX12_order_35 : decode cX12_order 35 = .ok (.aload_n 0, 1) := by decide +kernel
theorem dX12_order_36 : decode cX12_order 36 = .ok (.getfield 57, 3) := by decide +kernel
theorem dX12_order_39 : decode cX12_order 39 = .ok (.iload_n 1, 1) := by decide +kernel
theorem dX12_order_40 : decode cX12_order 40 = .ok (.bipush 100, 2) := by decide +kernel
theorem dX12_order_42 : decode cX12_order 42 = .ok (.irem, 1) := by decide +kernel
theorem dX12_order_43 : decode cX12_order 43 = .ok (.invokevirtual 247, 3) := by decide +kernel
theorem dX12_order_46 : decode cX12_order 46 = .ok (.istore 5, 2) := by decide +kernel
theorem dX12_order_48 : decode cX12_order 48 = .ok (.iconst 1, 1) := by decide +kernel
theorem dX12_order_49 : decode cX12_order 49 = .ok (.istore 6, 2) := by decide +kernel
theorem dX12_order_51 : decode cX12_order 51 = .ok (.iconst 0, 1) := by decide +kernel
theorem dX12_order_52 : decode cX12_order 52 = .ok (.istore 7, 2) := by decide +kernel
theorem dX12_order_54 : decode cX12_order 54 = .ok (.iload 7, 2) := by decide +kernel
theorem dX12_order_56 : decode cX12_order 56 = .ok (.iload 4, 2) := by decide +kernel
theorem dX12_order_58 : decode cX12_order 58 = .ok (.if_icmp .ge 30, 3) := by decide +kernel
theorem dX12_order_61 : decode cX12_order 61 = .ok (.aload_n 0, 1) := by decide +kernel
theorem dX12_order_62 : decode cX12_order 62 = .ok (.getfield 79, 3) := by decide +kernel
theorem dX12_order_65 : decode cX12_order 65 = .ok (.iload 7, 2) := by decide +kernel
theorem dX12_order_67 : decode cX12_order 67 = .ok (.aload_n 0, 1) := by decide +kernel
theorem dX12_order_68 : decode cX12_order 68 = .ok (.getfield 73, 3) := by decide +kernel
theorem dX12_order_71 : decode cX12_order 71 = .ok (.iload 7, 2) := by decide +kernel
theorem dX12_order_73 : decode cX12_order 73 = .ok (.iaload, 1) := by decide +kernel
theorem dX12_order_74 : decode cX12_order 74 = .ok (.iastore, 1) := by decide +kernel
theorem dX12_order_75 : decode cX12_order 75 = .ok (.iload 6, 2) := by decide +kernel
theorem dX12_order_77 : decode cX12_order 77 = .ok (.bipush 9, 2) := by decide +kernel
theorem dX12_order_79 : decode cX12_order 79 = .ok (.imul, 1) := by decide +kernel
theorem dX12_order_80 : decode cX12_order 80 = .ok (.istore 6, 2) := by decide +kernel
theorem dX12_order_82 : decode cX12_order 82 = .ok (.iinc 7 1, 3) := by decide +kernel
theorem dX12_order_85 : decode cX12_order 85 = .ok (.goto (-31), 3) := by decide +kernel
theorem dX12_order_88 : decode cX12_order 88 = .ok (.iconst 0, 1) := by decide +kernel
theorem dX12_order_89 : decode cX12_order 89 = .ok (.istore 7, 2) := by decide +kernel
theorem dX12_order_91 : decode cX12_order 91 = .ok (.iconst 0, 1) := by decide +kernel
theorem dX12_order_92 : decode cX12_order 92 = .ok (.istore 8, 2) := by decide +kernel
theorem dX12_order_94 : decode cX12_order 94 = .ok (.iconst 0, 1) := by decide +kernel
theorem dX12_order_95 : decode cX12_order 95 = .ok (.istore 9, 2) := by decide +kernel
theorem dX12_order_97 : decode cX12_order 97 = .ok (.iload 9, 2) := by decide +kernel
theorem dX12_order_99 : decode cX12_order 99 = .ok (.iload 6, 2) := by decide +kernel
theorem dX12_order_101 : decode cX12_order 101 = .ok (.if_icmp .ge 168, 3) := by decide +kernel
theorem dX12_order_104 : decode cX12_order 104 = .ok (.iconst 0, 1) := by decide +kernel
theorem dX12_order_105 : decode cX12_order 105 = .ok (.istore 10, 2) := by decide +kernel
theorem dX12_order_107 : decode cX12_order 107 = .ok (.iload 6, 2) := by decide +kernel
theorem dX12_order_109 : decode cX12_order 109 = .ok (.bipush 9, 2) := by decide +kernel
theorem dX12_order_111 : decode cX12_order 111 = .ok (.idiv, 1) := by decide +kernel
theorem dX12_order_112 : decode cX12_order 112 = .ok (.istore 11, 2) := by decide +kernel
theorem dX12_order_114 : decode cX12_order 114 = .ok (.iconst 1, 1) := by decide +kernel
theorem dX12_order_115 : decode cX12_order 115 = .ok (.istore 12, 2) := by decide +kernel
theorem dX12_order_117 : decode cX12_order 117 = .ok (.iconst 0, 1) := by decide +kernel
theorem dX12_order_118 : decode cX12_order 118 = .ok (.istore 13, 2) := by decide +kernel
theorem dX12_order_120 : decode cX12_order 120 = .ok (.iconst 0, 1) := by decide +kernel
theorem dX12_order_121 : decode cX12_order 121 = .ok (.istore 14, 2) := by decide +kernel
theorem dX12_order_123 : decode cX12_order 123 = .ok (.iload 14, 2) := by decide +kernel
theorem dX12_order_125 : decode cX12_order 125 = .ok (.iload 4, 2) := by decide +kernel
theorem dX12_order_127 : decode cX12_order 127 = .ok (.if_icmp .ge 89, 3) := by decide +kernel
theorem dX12_order_130 : decode cX12_order 130 = .ok (.iload 12, 2) := by decide +kernel
theorem dX12_order_132 : decode cX12_order 132 = .ok (.ifCond .eq 84, 3) := by decide +kernel
theorem dX12_order_135 : decode cX12_order 135 = .ok (.iload 9, 2) := by decide +kernel
theorem dX12_order_137 : decode cX12_order 137 = .ok (.iload 11, 2) := by decide +kernel
theorem dX12_order_139 : decode cX12_order 139 = .ok (.idiv, 1) := by decide +kernel
theorem dX12_order_140 : decode cX12_order 140 = .ok (.bipush 9, 2) := by decide +kernel
theorem dX12_order_142 : decode cX12_order 142 = .ok (.irem, 1) := by decide +kernel
theorem dX12_order_143 : decode cX12_order 143 = .ok (.istore 15, 2) := by decide +kernel
theorem dX12_order_145 : decode cX12_order 145 = .ok (.iload 11, 2) := by decide +kernel
theorem dX12_order_147 : decode cX12_order 147 = .ok (.bipush 9, 2) := by decide +kernel
theorem dX12_order_149 : decode cX12_order 149 = .ok (.idiv, 1) := by decide +kernel
theorem dX12_order_150 : decode cX12_order 150 = .ok (.istore 11, 2) := by decide +kernel
theorem dX12_order_152 : decode cX12_order 152 = .ok (.bipush 10, 2) := by decide +kernel
theorem dX12_order_154 : decode cX12_order 154 = .ok (.iload 10, 2) := by decide +kernel
theorem dX12_order_156 : decode cX12_order 156 = .ok (.imul, 1) := by decide +kernel
theorem dX12_order_157 : decode cX12_order 157 = .ok (.iload 15, 2) := by decide +kernel
theorem dX12_order_159 : decode cX12_order 159 = .ok (.iadd, 1) := by decide +kernel
theorem dX12_order_160 : decode cX12_order 160 = .ok (.iconst 1, 1) := by decide +kernel
theorem dX12_order_161 : decode cX12_order 161 = .ok (.iadd, 1) := by decide +kernel
theorem dX12_order_162 : decode cX12_order 162 = .ok (.istore 10, 2) := by decide +kernel
theorem dX12_order_164 : decode cX12_order 164 = .ok (.iload 13, 2) := by decide +kernel
theorem dX12_order_166 : decode cX12_order 166 = .ok (.iload 15, 2) := by decide +kernel
theorem dX12_order_168 : decode cX12_order 168 = .ok (.ishr, 1) := by decide +kernel
theorem dX12_order_169 : decode cX12_order 169 = .ok (.iconst 1, 1) := by decide +kernel
theorem dX12_order_170 : decode cX12_order 170 = .ok (.iand, 1) := by decide +kernel
theorem dX12_order_171 : decode cX12_order 171 = .ok (.ifCond .ne 18, 3) := by decide +kernel
theorem dX12_order_174 : decode cX12_order 174 = .ok (.aload_n 0, 1) := by decide +kernel
theorem dX12_order_175 : decode cX12_order 175 = .ok (.iload 15, 2) := by decide +kernel
theorem dX12_order_177 : decode cX12_order 177 = .ok (.iload 4, 2) := by decide +kernel
theorem dX12_order_179 : decode cX12_order 179 = .ok (.invokevirtual 305, 3) := by decide +kernel
theorem dX12_order_182 : decode cX12_order 182 = .ok (.ifCond .eq 7, 3) := by decide +kernel
theorem dX12_order_185 : decode cX12_order 185 = .ok (.iconst 1, 1) := by decide +kernel
theorem dX12_order_186 : decode cX12_order 186 = .ok (.goto 4, 3) := by decide +kernel
theorem dX12_order_189 : decode cX12_order 189 = .ok (.iconst 0, 1) := by decide +kernel
theorem dX12_order_190 : decode cX12_order 190 = .ok (.istore 12, 2) := by decide +kernel
theorem dX12_order_192 : decode cX12_order 192 = .ok (.iload 13, 2) := by decide +kernel
theorem dX12_order_194 : decode cX12_order 194 = .ok (.iconst 1, 1) := by decide +kernel
theorem dX12_order_195 : decode cX12_order 195 = .ok (.iload 15, 2) := by decide +kernel
theorem dX12_order_197 : decode cX12_order 197 = .ok (.ishl, 1) := by decide +kernel
theorem dX12_order_198 : decode cX12_order 198 = .ok (.ior, 1) := by decide +kernel
theorem dX12_order_199 : decode cX12_order 199 = .ok (.istore 13, 2) := by decide +kernel
theorem dX12_order_201 : decode cX12_order 201 = .ok (.aload_n 0, 1) := by decide +kernel
theorem dX12_order_202 : decode cX12_order 202 = .ok (.getfield 73, 3) := by decide +kernel
theorem dX12_order_205 : decode cX12_order 205 = .ok (.iload 14, 2) := by decide +kernel
theorem dX12_order_207 : decode cX12_order 207 = .ok (.iload 15, 2) := by decide +kernel
theorem dX12_order_209 : decode cX12_order 209 = .ok (.iastore, 1) := by decide +kernel
theorem dX12_order_210 : decode cX12_order 210 = .ok (.iinc 14 1, 3) := by decide +kernel
theorem dX12_order_213 : decode cX12_order 213 = .ok (.goto (-90), 3) := by decide +kernel
theorem dX12_order_216 : decode cX12_order 216 = .ok (.iload 12, 2) := by decide +kernel
theorem dX12_order_218 : decode cX12_order 218 = .ok (.ifCond .ne 6, 3) := by decide +kernel
theorem dX12_order_221 : decode cX12_order 221 = .ok (.goto 42, 3) := by decide +kernel
theorem dX12_order_224 : decode cX12_order 224 = .ok (.aload_n 0, 1) := by decide +kernel
theorem dX12_order_225 : decode cX12_order 225 = .ok (.iload_n 1, 1) := by decide +kernel
theorem dX12_order_226 : decode cX12_order 226 = .ok (.bipush 100, 2) := by decide +kernel
theorem dX12_order_228 : decode cX12_order 228 = .ok (.idiv, 1) := by decide +kernel
theorem dX12_order_229 : decode cX12_order 229 = .ok (.iload 5, 2) := by decide +kernel
theorem dX12_order_231 : decode cX12_order 231 = .ok (.iload_n 2, 1) := by decide +kernel
theorem dX12_order_232 : decode cX12_order 232 = .ok (.bipush 10, 2) := by decide +kernel
theorem dX12_order_234 : decode cX12_order 234 = .ok (.irem, 1) := by decide +kernel
theorem dX12_order_235 : decode cX12_order 235 = .ok (.invokevirtual 302, 3) := by decide +kernel
theorem dX12_order_238 : decode cX12_order 238 = .ok (.istore 14, 2) := by decide +kernel
theorem dX12_order_240 : decode cX12_order 240 = .ok (.iload 7, 2) := by decide +kernel
theorem dX12_order_242 : decode cX12_order 242 = .ok (.ifCond .le 13, 3) := by decide +kernel
theorem dX12_order_245 : decode cX12_order 245 = .ok (.iload 14, 2) := by decide +kernel
theorem dX12_order_247 : decode cX12_order 247 = .ok (.iload 8, 2) := by decide +kernel
theorem dX12_order_249 : decode cX12_order 249 = .ok (.if_icmp .gt 6, 3) := by decide +kernel
theorem dX12_order_252 : decode cX12_order 252 = .ok (.goto 11, 3) := by decide +kernel
theorem dX12_order_255 : decode cX12_order 255 = .ok (.iload 10, 2) := by decide +kernel
theorem dX12_order_257 : decode cX12_order 257 = .ok (.istore 7, 2) := by decide +kernel
theorem dX12_order_259 : decode cX12_order 259 = .ok (.iload 14, 2) := by decide +kernel
theorem dX12_order_261 : decode cX12_order 261 = .ok (.istore 8, 2) := by decide +kernel
theorem dX12_order_263 : decode cX12_order 263 = .ok (.iinc 9 1, 3) := by decide +kernel
theorem dX12_order_266 : decode cX12_order 266 = .ok (.goto (-169), 3) := by decide +kernel
theorem dX12_order_269 : decode cX12_order 269 = .ok (.iload_n 3, 1) := by decide +kernel
theorem dX12_order_270 : decode cX12_order 270 = .ok (.ifCond .ne 8, 3) := by decide +kernel
theorem dX12_order_273 : decode cX12_order 273 = .ok (.iload 7, 2) := by decide +kernel
theorem dX12_order_275 : decode cX12_order 275 = .ok (.goto 5, 3) := by decide +kernel
theorem dX12_order_278 : decode cX12_order 278 = .ok (.iload 8, 2) := by decide +kernel
theorem dX12_order_280 : decode cX12_order 280 = .ok (.ireturn, 1) := by decide +kernel
theorem dX12_isOne_0 : decode cX12_isOne 0 = .ok (.iconst 0, 1) := by decide +kernel
theorem dX12_isOne_1 : decode cX12_isOne 1 = .ok (.istore_n 3, 1) := by decide +kernel
theorem dX12_isOne_2 : decode cX12_isOne 2 = .ok (.iload_n 3, 1) := by decide +kernel
theorem dX12_isOne_3 : decode cX12_isOne 3 = .ok (.iload_n 2, 1) := by decide +kernel
theorem dX12_isOne_4 : decode cX12_isOne 4 = .ok (.if_icmp .ge 21, 3) := by decide +kernel
theorem dX12_isOne_7 : decode cX12_isOne 7 = .ok (.aload_n 0, 1) := by decide +kernel
theorem dX12_isOne_8 : decode cX12_isOne 8 = .ok (.getfield 79, 3) := by decide +kernel
theorem dX12_isOne_11 : decode cX12_isOne 11 = .ok (.iload_n 3, 1) := by decide +kernel
theorem dX12_isOne_12 : decode cX12_isOne 12 = .ok (.iaload, 1) := by decide +kernel
theorem dX12_isOne_13 : decode cX12_isOne 13 = .ok (.iload_n 1, 1) := by decide +kernel
theorem dX12_isOne_14 : decode cX12_isOne 14 = .ok (.if_icmp .ne 5, 3) := by decide +kernel
theorem dX12_isOne_17 : decode cX12_isOne 17 = .ok (.iconst 1, 1) := by decide +kernel
theorem dX12_isOne_18 : decode cX12_isOne 18 = .ok (.ireturn, 1) := by decide +kernel
theorem dX12_isOne_19 : decode cX12_isOne 19 = .ok (.iinc 3 1, 3) := by decide +kernel
theorem dX12_isOne_22 : decode cX12_isOne 22 = .ok (.goto (-20), 3) := by decide +kernel
theorem dX12_isOne_25 : decode cX12_isOne 25 = .ok (.iconst 0, 1) := by decide +kernel
theorem dX12_isOne_26 : decode cX12_isOne 26 = .ok (.ireturn, 1) := by decide +kernel
theorem dX12_isDark_0 : decode cX12_isDark 0 = .ok (.iload_n 0, 1) := by decide +kernel
theorem dX12_isDark_1 : decode cX12_isDark 1 = .ok (.bipush 24, 2) := by decide +kernel
theorem dX12_isDark_3 : decode cX12_isDark 3 = .ok (.irem, 1) := by decide +kernel
theorem dX12_isDark_4 : decode cX12_isDark 4 = .ok (.iconst 5, 1) := by decide +kernel
theorem dX12_isDark_5 : decode cX12_isDark 5 = .ok (.if_icmp .lt 12, 3) := by decide +kernel
theorem dX12_isDark_8 : decode cX12_isDark 8 = .ok (.iload_n 0, 1) := by decide +kernel
theorem dX12_isDark_9 : decode cX12_isDark 9 = .ok (.bipush 24, 2) := by decide +kernel
theorem dX12_isDark_11 : decode cX12_isDark 11 = .ok (.irem, 1) := by decide +kernel
theorem dX12_isDark_12 : decode cX12_isDark 12 = .ok (.bipush 19, 2) := by decide +kernel
theorem dX12_isDark_14 : decode cX12_isDark 14 = .ok (.if_icmp .le 7, 3) := by decide +kernel
theorem dX12_isDark_17 : decode cX12_isDark 17 = .ok (.iconst 1, 1) := by decide +kernel
theorem dX12_isDark_18 : decode cX12_isDark 18 = .ok (.goto 4, 3) := by decide +kernel
theorem dX12_isDark_21 : decode cX12_isDark 21 = .ok (.iconst 0, 1) := by decide +kernel
theorem dX12_isDark_22 : decode cX12_isDark 22 = .ok (.ireturn, 1) := by decide +kernel
theorem dX12_best_0 : decode cX12_best 0 = .ok (.aload_n 0, 1) := by decide +kernel
theorem dX12_best_1 : decode cX12_best 1 = .ok (.iload_n 1, 1) := by decide +kernel
theorem dX12_best_2 : decode cX12_best 2 = .ok (.invokevirtual 266, 3) := by decide +kernel
theorem dX12_best_5 : decode cX12_best 5 = .ok (.ifCond .eq 47, 3) := by decide +kernel
theorem dX12_best_8 : decode cX12_best 8 = .ok (.iload_n 2, 1) := by decide +kernel
theorem dX12_best_9 : decode cX12_best 9 = .ok (.ifCond .lt 43, 3) := by decide +kernel
theorem dX12_best_12 : decode cX12_best 12 = .ok (.iload_n 2, 1) := by decide +kernel
theorem dX12_best_13 : decode cX12_best 13 = .ok (.bipush 100, 2) := by decide +kernel
theorem dX12_best_15 : decode cX12_best 15 = .ok (.idiv, 1) := by decide +kernel
theorem dX12_best_16 : decode cX12_best 16 = .ok (.invokestatic 244, 3) := by decide +kernel
theorem dX12_best_19 : decode cX12_best 19 = .ok (.ifCond .eq 33, 3) := by decide +kernel
theorem dX12_best_22 : decode cX12_best 22 = .ok (.iload_n 2, 1) := by decide +kernel
theorem dX12_best_23 : decode cX12_best 23 = .ok (.bipush 100, 2) := by decide +kernel
theorem dX12_best_25 : decode cX12_best 25 = .ok (.irem, 1) := by decide +kernel
theorem dX12_best_26 : decode cX12_best 26 = .ok (.invokestatic 244, 3) := by decide +kernel
theorem dX12_best_29 : decode cX12_best 29 = .ok (.ifCond .eq 23, 3) := by decide +kernel
theorem dX12_best_32 : decode cX12_best 32 = .ok (.iload_n 2, 1) := by decide +kernel
theorem dX12_best_33 : decode cX12_best 33 = .ok (.bipush 100, 2) := by decide +kernel
theorem dX12_best_35 : decode cX12_best 35 = .ok (.idiv, 1) := by decide +kernel
theorem dX12_best_36 : decode cX12_best 36 = .ok (.iload_n 2, 1) := by decide +kernel
theorem dX12_best_37 : decode cX12_best 37 = .ok (.bipush 100, 2) := by decide +kernel
theorem dX12_best_39 : decode cX12_best 39 = .ok (.irem, 1) := by decide +kernel
theorem dX12_best_40 : decode cX12_best 40 = .ok (.if_icmp .gt 12, 3) := by decide +kernel
theorem dX12_best_43 : decode cX12_best 43 = .ok (.iload_n 3, 1) := by decide +kernel
theorem dX12_best_44 : decode cX12_best 44 = .ok (.iconst 0, 1) := by decide +kernel
theorem dX12_best_45 : decode cX12_best 45 = .ok (.iconst 1, 1) := by decide +kernel
theorem dX12_best_46 : decode cX12_best 46 = .ok (.invokestatic 110, 3) := by decide +kernel
theorem dX12_best_49 : decode cX12_best 49 = .ok (.ifCond .ne 6, 3) := by decide +kernel
theorem dX12_best_52 : decode cX12_best 52 = .ok (.ldc 250, 2) := by decide +kernel
theorem dX12_best_54 : decode cX12_best 54 = .ok (.ireturn, 1) := by decide +kernel
theorem dX12_best_55 : decode cX12_best 55 = .ok (.bipush (-2), 2) := by decide +kernel
theorem dX12_best_57 : decode cX12_best 57 = .ok (.istore 4, 2) := by decide +kernel
theorem dX12_best_59 : decode cX12_best 59 = .ok (.iconst 0, 1) := by decide +kernel
theorem dX12_best_60 : decode cX12_best 60 = .ok (.istore 5, 2) := by decide +kernel
theorem dX12_best_62 : decode cX12_best 62 = .ok (.iload_n 2, 1) := by decide +kernel
theorem dX12_best_63 : decode cX12_best 63 = .ok (.bipush 100, 2) := by decide +kernel
theorem dX12_best_65 : decode cX12_best 65 = .ok (.idiv, 1) := by decide +kernel
theorem dX12_best_66 : decode cX12_best 66 = .ok (.istore 6, 2) := by decide +kernel
theorem dX12_best_68 : decode cX12_best 68 = .ok (.iload 6, 2) := by decide +kernel
theorem dX12_best_70 : decode cX12_best 70 = .ok (.iload_n 2, 1) := by decide +kernel
theorem dX12_best_71 : decode cX12_best 71 = .ok (.bipush 100, 2) := by decide +kernel
theorem dX12_best_73 : decode cX12_best 73 = .ok (.irem, 1) := by decide +kernel
theorem dX12_best_74 : decode cX12_best 74 = .ok (.if_icmp .gt 113, 3) := by decide +kernel
theorem dX12_best_77 : decode cX12_best 77 = .ok (.iload 6, 2) := by decide +kernel
theorem dX12_best_79 : decode cX12_best 79 = .ok (.invokestatic 308, 3) := by decide +kernel
theorem dX12_best_82 : decode cX12_best 82 = .ok (.ifCond .eq 6, 3) := by decide +kernel
theorem dX12_best_85 : decode cX12_best 85 = .ok (.goto 96, 3) := by decide +kernel
theorem dX12_best_88 : decode cX12_best 88 = .ok (.aload_n 0, 1) := by decide +kernel
theorem dX12_best_89 : decode cX12_best 89 = .ok (.aload_n 0, 1) := by decide +kernel
theorem dX12_best_90 : decode cX12_best 90 = .ok (.getfield 57, 3) := by decide +kernel
theorem dX12_best_93 : decode cX12_best 93 = .ok (.iload 6, 2) := by decide +kernel
theorem dX12_best_95 : decode cX12_best 95 = .ok (.invokevirtual 247, 3) := by decide +kernel
theorem dX12_best_98 : decode cX12_best 98 = .ok (.istore 7, 2) := by decide +kernel
theorem dX12_best_100 : decode cX12_best 100 = .ok (.iconst 0, 1) := by decide +kernel
theorem dX12_best_101 : decode cX12_best 101 = .ok (.istore 8, 2) := by decide +kernel
theorem dX12_best_103 : decode cX12_best 103 = .ok (.iload 8, 2) := by decide +kernel
theorem dX12_best_105 : decode cX12_best 105 = .ok (.aload_n 0, 1) := by decide +kernel
theorem dX12_best_106 : decode cX12_best 106 = .ok (.getfield 117, 3) := by decide +kernel
theorem dX12_best_109 : decode cX12_best 109 = .ok (.if_icmp .ge 72, 3) := by decide +kernel
theorem dX12_best_112 : decode cX12_best 112 = .ok (.iconst 0, 1) := by decide +kernel
theorem dX12_best_113 : decode cX12_best 113 = .ok (.istore 9, 2) := by decide +kernel
theorem dX12_best_115 : decode cX12_best 115 = .ok (.iload 9, 2) := by decide +kernel
theorem dX12_best_117 : decode cX12_best 117 = .ok (.iconst 4, 1) := by decide +kernel
theorem dX12_best_118 : decode cX12_best 118 = .ok (.if_icmp .ge 57, 3) := by decide +kernel
theorem dX12_best_121 : decode cX12_best 121 = .ok (.aload_n 0, 1) := by decide +kernel
theorem dX12_best_122 : decode cX12_best 122 = .ok (.iload 8, 2) := by decide +kernel
theorem dX12_best_124 : decode cX12_best 124 = .ok (.iload 7, 2) := by decide +kernel
theorem dX12_best_126 : decode cX12_best 126 = .ok (.iload 9, 2) := by decide +kernel
theorem dX12_best_128 : decode cX12_best 128 = .ok (.invokevirtual 302, 3) := by decide +kernel
theorem dX12_best_131 : decode cX12_best 131 = .ok (.istore 10, 2) := by decide +kernel
theorem dX12_best_133 : decode cX12_best 133 = .ok (.iload 4, 2) := by decide +kernel
theorem dX12_best_135 : decode cX12_best 135 = .ok (.ifCond .lt 13, 3) := by decide +kernel
theorem dX12_best_138 : decode cX12_best 138 = .ok (.iload 10, 2) := by decide +kernel
theorem dX12_best_140 : decode cX12_best 140 = .ok (.iload 5, 2) := by decide +kernel
theorem dX12_best_142 : decode cX12_best 142 = .ok (.if_icmp .gt 6, 3) := by decide +kernel
theorem dX12_best_145 : decode cX12_best 145 = .ok (.goto 24, 3) := by decide +kernel
theorem dX12_best_148 : decode cX12_best 148 = .ok (.sipush 1000, 3) := by decide +kernel
theorem dX12_best_151 : decode cX12_best 151 = .ok (.iload 6, 2) := by decide +kernel
theorem dX12_best_153 : decode cX12_best 153 = .ok (.imul, 1) := by decide +kernel
theorem dX12_best_154 : decode cX12_best 154 = .ok (.bipush 10, 2) := by decide +kernel
theorem dX12_best_156 : decode cX12_best 156 = .ok (.iload 8, 2) := by decide +kernel
theorem dX12_best_158 : decode cX12_best 158 = .ok (.imul, 1) := by decide +kernel
theorem dX12_best_159 : decode cX12_best 159 = .ok (.iadd, 1) := by decide +kernel
theorem dX12_best_160 : decode cX12_best 160 = .ok (.iload 9, 2) := by decide +kernel
theorem dX12_best_162 : decode cX12_best 162 = .ok (.iadd, 1) := by decide +kernel
theorem dX12_best_163 : decode cX12_best 163 = .ok (.istore 4, 2) := by decide +kernel
theorem dX12_best_165 : decode cX12_best 165 = .ok (.iload 10, 2) := by decide +kernel
theorem dX12_best_167 : decode cX12_best 167 = .ok (.istore 5, 2) := by decide +kernel
theorem dX12_best_169 : decode cX12_best 169 = .ok (.iinc 9 1, 3) := by decide +kernel
theorem dX12_best_172 : decode cX12_best 172 = .ok (.goto (-57), 3) := by decide +kernel
theorem dX12_best_175 : decode cX12_best 175 = .ok (.iinc 8 1, 3) := by decide +kernel
theorem dX12_best_178 : decode cX12_best 178 = .ok (.goto (-75), 3) := by decide +kernel
theorem dX12_best_181 : decode cX12_best 181 = .ok (.iinc 6 1, 3) := by decide +kernel
theorem dX12_best_184 : decode cX12_best 184 = .ok (.goto (-116), 3) := by decide +kernel
theorem dX12_best_187 : decode cX12_best 187 = .ok (.iload 4, 2) := by decide +kernel
theorem dX12_best_189 : decode cX12_best 189 = .ok (.ifCond .lt 7, 3) := by decide +kernel
theorem dX12_best_192 : decode cX12_best 192 = .ok (.iload_n 3, 1) := by decide +kernel
theorem dX12_best_193 : decode cX12_best 193 = .ok (.ifCond .ne 8, 3) := by decide +kernel
theorem dX12_best_196 : decode cX12_best 196 = .ok (.iload 4, 2) := by decide +kernel
theorem dX12_best_198 : decode cX12_best 198 = .ok (.goto 5, 3) := by decide +kernel
theorem dX12_best_201 : decode cX12_best 201 = .ok (.iload 5, 2) := by decide +kernel
theorem dX12_best_203 : decode cX12_best 203 = .ok (.ireturn, 1) := by decide +kernel
theorem dX12_gusts_0 : decode cX12_gusts 0 = .ok (.aload_n 0, 1) := by decide +kernel
theorem dX12_gusts_1 : decode cX12_gusts 1 = .ok (.iload_n 1, 1) := by decide +kernel
theorem dX12_gusts_2 : decode cX12_gusts 2 = .ok (.invokevirtual 285, 3) := by decide +kernel
theorem dX12_gusts_5 : decode cX12_gusts 5 = .ok (.ifCond .eq 54, 3) := by decide +kernel
theorem dX12_gusts_8 : decode cX12_gusts 8 = .ok (.aload_n 0, 1) := by decide +kernel
theorem dX12_gusts_9 : decode cX12_gusts 9 = .ok (.iload_n 2, 1) := by decide +kernel
theorem dX12_gusts_10 : decode cX12_gusts 10 = .ok (.invokevirtual 288, 3) := by decide +kernel
theorem dX12_gusts_13 : decode cX12_gusts 13 = .ok (.ifCond .eq 46, 3) := by decide +kernel
theorem dX12_gusts_16 : decode cX12_gusts 16 = .ok (.iload 4, 2) := by decide +kernel
theorem dX12_gusts_18 : decode cX12_gusts 18 = .ok (.ifCond .lt 41, 3) := by decide +kernel
theorem dX12_gusts_21 : decode cX12_gusts 21 = .ok (.iload 4, 2) := by decide +kernel
theorem dX12_gusts_23 : decode cX12_gusts 23 = .ok (.bipush 100, 2) := by decide +kernel
theorem dX12_gusts_25 : decode cX12_gusts 25 = .ok (.idiv, 1) := by decide +kernel
theorem dX12_gusts_26 : decode cX12_gusts 26 = .ok (.iconst 1, 1) := by decide +kernel
theorem dX12_gusts_27 : decode cX12_gusts 27 = .ok (.bipush 50, 2) := by decide +kernel
theorem dX12_gusts_29 : decode cX12_gusts 29 = .ok (.invokestatic 110, 3) := by decide +kernel
theorem dX12_gusts_32 : decode cX12_gusts 32 = .ok (.ifCond .eq 27, 3) := by decide +kernel
theorem dX12_gusts_35 : decode cX12_gusts 35 = .ok (.iload 4, 2) := by decide +kernel
theorem dX12_gusts_37 : decode cX12_gusts 37 = .ok (.bipush 100, 2) := by decide +kernel
theorem dX12_gusts_39 : decode cX12_gusts 39 = .ok (.irem, 1) := by decide +kernel
theorem dX12_gusts_40 : decode cX12_gusts 40 = .ok (.iconst 1, 1) := by decide +kernel
theorem dX12_gusts_41 : decode cX12_gusts 41 = .ok (.bipush 20, 2) := by decide +kernel
theorem dX12_gusts_43 : decode cX12_gusts 43 = .ok (.invokestatic 110, 3) := by decide +kernel
theorem dX12_gusts_46 : decode cX12_gusts 46 = .ok (.ifCond .eq 13, 3) := by decide +kernel
theorem dX12_gusts_49 : decode cX12_gusts 49 = .ok (.iload 5, 2) := by decide +kernel
theorem dX12_gusts_51 : decode cX12_gusts 51 = .ok (.iconst 0, 1) := by decide +kernel
theorem dX12_gusts_52 : decode cX12_gusts 52 = .ok (.iconst 1, 1) := by decide +kernel
theorem dX12_gusts_53 : decode cX12_gusts 53 = .ok (.invokestatic 110, 3) := by decide +kernel
theorem dX12_gusts_56 : decode cX12_gusts 56 = .ok (.ifCond .ne 5, 3) := by decide +kernel
theorem dX12_gusts_59 : decode cX12_gusts 59 = .ok (.iconst (-1), 1) := by decide +kernel
theorem dX12_gusts_60 : decode cX12_gusts 60 = .ok (.ireturn, 1) := by decide +kernel
theorem dX12_gusts_61 : decode cX12_gusts 61 = .ok (.iload_n 1, 1) := by decide +kernel
theorem dX12_gusts_62 : decode cX12_gusts 62 = .ok (.bipush 100, 2) := by decide +kernel
theorem dX12_gusts_64 : decode cX12_gusts 64 = .ok (.idiv, 1) := by decide +kernel
theorem dX12_gusts_65 : decode cX12_gusts 65 = .ok (.istore 6, 2) := by decide +kernel
theorem dX12_gusts_67 : decode cX12_gusts 67 = .ok (.aload_n 0, 1) := by decide +kernel
theorem dX12_gusts_68 : decode cX12_gusts 68 = .ok (.aload_n 0, 1) := by decide +kernel
theorem dX12_gusts_69 : decode cX12_gusts 69 = .ok (.getfield 57, 3) := by decide +kernel
theorem dX12_gusts_72 : decode cX12_gusts 72 = .ok (.iload_n 1, 1) := by decide +kernel
theorem dX12_gusts_73 : decode cX12_gusts 73 = .ok (.bipush 100, 2) := by decide +kernel
theorem dX12_gusts_75 : decode cX12_gusts 75 = .ok (.irem, 1) := by decide +kernel
theorem dX12_gusts_76 : decode cX12_gusts 76 = .ok (.invokevirtual 247, 3) := by decide +kernel
theorem dX12_gusts_79 : decode cX12_gusts 79 = .ok (.istore 7, 2) := by decide +kernel
theorem dX12_gusts_81 : decode cX12_gusts 81 = .ok (.iload_n 3, 1) := by decide +kernel
theorem dX12_gusts_82 : decode cX12_gusts 82 = .ok (.istore 8, 2) := by decide +kernel
theorem dX12_gusts_84 : decode cX12_gusts 84 = .ok (.iconst 0, 1) := by decide +kernel
theorem dX12_gusts_85 : decode cX12_gusts 85 = .ok (.istore 9, 2) := by decide +kernel
theorem dX12_gusts_87 : decode cX12_gusts 87 = .ok (.iconst 0, 1) := by decide +kernel
theorem dX12_gusts_88 : decode cX12_gusts 88 = .ok (.istore 10, 2) := by decide +kernel
theorem dX12_gusts_90 : decode cX12_gusts 90 = .ok (.iload 10, 2) := by decide +kernel
theorem dX12_gusts_92 : decode cX12_gusts 92 = .ok (.iload 4, 2) := by decide +kernel
theorem dX12_gusts_94 : decode cX12_gusts 94 = .ok (.bipush 100, 2) := by decide +kernel
theorem dX12_gusts_96 : decode cX12_gusts 96 = .ok (.idiv, 1) := by decide +kernel
theorem dX12_gusts_97 : decode cX12_gusts 97 = .ok (.if_icmp .ge 78, 3) := by decide +kernel
theorem dX12_gusts_100 : decode cX12_gusts 100 = .ok (.iconst 0, 1) := by decide +kernel
theorem dX12_gusts_101 : decode cX12_gusts 101 = .ok (.istore 11, 2) := by decide +kernel
theorem dX12_gusts_103 : decode cX12_gusts 103 = .ok (.iload 11, 2) := by decide +kernel
theorem dX12_gusts_105 : decode cX12_gusts 105 = .ok (.aload_n 0, 1) := by decide +kernel
theorem dX12_gusts_106 : decode cX12_gusts 106 = .ok (.getfield 13, 3) := by decide +kernel
theorem dX12_gusts_109 : decode cX12_gusts 109 = .ok (.iload 6, 2) := by decide +kernel
theorem dX12_gusts_111 : decode cX12_gusts 111 = .ok (.iaload, 1) := by decide +kernel
theorem dX12_gusts_112 : decode cX12_gusts 112 = .ok (.if_icmp .ge 39, 3) := by decide +kernel
theorem dX12_gusts_115 : decode cX12_gusts 115 = .ok (.iload 8, 2) := by decide +kernel
theorem dX12_gusts_117 : decode cX12_gusts 117 = .ok (.ldc_w 311, 3) := by decide +kernel
theorem dX12_gusts_120 : decode cX12_gusts 120 = .ok (.imul, 1) := by decide +kernel
theorem dX12_gusts_121 : decode cX12_gusts 121 = .ok (.sipush 12345, 3) := by decide +kernel
theorem dX12_gusts_124 : decode cX12_gusts 124 = .ok (.iadd, 1) := by decide +kernel
theorem dX12_gusts_125 : decode cX12_gusts 125 = .ok (.istore 8, 2) := by decide +kernel
theorem dX12_gusts_127 : decode cX12_gusts 127 = .ok (.aload_n 0, 1) := by decide +kernel
theorem dX12_gusts_128 : decode cX12_gusts 128 = .ok (.getfield 76, 3) := by decide +kernel
theorem dX12_gusts_131 : decode cX12_gusts 131 = .ok (.iload 11, 2) := by decide +kernel
theorem dX12_gusts_133 : decode cX12_gusts 133 = .ok (.iload 8, 2) := by decide +kernel
theorem dX12_gusts_135 : decode cX12_gusts 135 = .ok (.bipush 8, 2) := by decide +kernel
theorem dX12_gusts_137 : decode cX12_gusts 137 = .ok (.iushr, 1) := by decide +kernel
theorem dX12_gusts_138 : decode cX12_gusts 138 = .ok (.iload 4, 2) := by decide +kernel
theorem dX12_gusts_140 : decode cX12_gusts 140 = .ok (.bipush 100, 2) := by decide +kernel
theorem dX12_gusts_142 : decode cX12_gusts 142 = .ok (.irem, 1) := by decide +kernel
theorem dX12_gusts_143 : decode cX12_gusts 143 = .ok (.irem, 1) := by decide +kernel
theorem dX12_gusts_144 : decode cX12_gusts 144 = .ok (.iastore, 1) := by decide +kernel
theorem dX12_gusts_145 : decode cX12_gusts 145 = .ok (.iinc 11 1, 3) := by decide +kernel
theorem dX12_gusts_148 : decode cX12_gusts 148 = .ok (.goto (-45), 3) := by decide +kernel
theorem dX12_gusts_151 : decode cX12_gusts 151 = .ok (.aload_n 0, 1) := by decide +kernel
theorem dX12_gusts_152 : decode cX12_gusts 152 = .ok (.iload 6, 2) := by decide +kernel
theorem dX12_gusts_154 : decode cX12_gusts 154 = .ok (.iload 7, 2) := by decide +kernel
theorem dX12_gusts_156 : decode cX12_gusts 156 = .ok (.iload_n 2, 1) := by decide +kernel
theorem dX12_gusts_157 : decode cX12_gusts 157 = .ok (.bipush 10, 2) := by decide +kernel
theorem dX12_gusts_159 : decode cX12_gusts 159 = .ok (.irem, 1) := by decide +kernel
theorem dX12_gusts_160 : decode cX12_gusts 160 = .ok (.invokevirtual 299, 3) := by decide +kernel
theorem dX12_gusts_163 : decode cX12_gusts 163 = .ok (.ifCond .eq 6, 3) := by decide +kernel
theorem dX12_gusts_166 : decode cX12_gusts 166 = .ok (.iinc 9 1, 3) := by decide +kernel
theorem dX12_gusts_169 : decode cX12_gusts 169 = .ok (.iinc 10 1, 3) := by decide +kernel
theorem dX12_gusts_172 : decode cX12_gusts 172 = .ok (.goto (-82), 3) := by decide +kernel
theorem dX12_gusts_175 : decode cX12_gusts 175 = .ok (.iconst 0, 1) := by decide +kernel
theorem dX12_gusts_176 : decode cX12_gusts 176 = .ok (.istore 10, 2) := by decide +kernel
theorem dX12_gusts_178 : decode cX12_gusts 178 = .ok (.iload 10, 2) := by decide +kernel
theorem dX12_gusts_180 : decode cX12_gusts 180 = .ok (.bipush 12, 2) := by decide +kernel
theorem dX12_gusts_182 : decode cX12_gusts 182 = .ok (.if_icmp .ge 17, 3) := by decide +kernel
theorem dX12_gusts_185 : decode cX12_gusts 185 = .ok (.aload_n 0, 1) := by decide +kernel
theorem dX12_gusts_186 : decode cX12_gusts 186 = .ok (.getfield 76, 3) := by decide +kernel
theorem dX12_gusts_189 : decode cX12_gusts 189 = .ok (.iload 10, 2) := by decide +kernel
theorem dX12_gusts_191 : decode cX12_gusts 191 = .ok (.iconst 0, 1) := by decide +kernel
theorem dX12_gusts_192 : decode cX12_gusts 192 = .ok (.iastore, 1) := by decide +kernel
theorem dX12_gusts_193 : decode cX12_gusts 193 = .ok (.iinc 10 1, 3) := by decide +kernel
theorem dX12_gusts_196 : decode cX12_gusts 196 = .ok (.goto (-18), 3) := by decide +kernel
theorem dX12_gusts_199 : decode cX12_gusts 199 = .ok (.iload 5, 2) := by decide +kernel
theorem dX12_gusts_201 : decode cX12_gusts 201 = .ok (.ifCond .ne 8, 3) := by decide +kernel
theorem dX12_gusts_204 : decode cX12_gusts 204 = .ok (.iload 9, 2) := by decide +kernel
theorem dX12_gusts_206 : decode cX12_gusts 206 = .ok (.goto 19, 3) := by decide +kernel
theorem dX12_gusts_209 : decode cX12_gusts 209 = .ok (.aload_n 0, 1) := by decide +kernel
theorem dX12_gusts_210 : decode cX12_gusts 210 = .ok (.getfield 17, 3) := by decide +kernel
theorem dX12_gusts_213 : decode cX12_gusts 213 = .ok (.iload 6, 2) := by decide +kernel
theorem dX12_gusts_215 : decode cX12_gusts 215 = .ok (.iaload, 1) := by decide +kernel
theorem dX12_gusts_216 : decode cX12_gusts 216 = .ok (.iload 4, 2) := by decide +kernel
theorem dX12_gusts_218 : decode cX12_gusts 218 = .ok (.bipush 100, 2) := by decide +kernel
theorem dX12_gusts_220 : decode cX12_gusts 220 = .ok (.idiv, 1) := by decide +kernel
theorem dX12_gusts_221 : decode cX12_gusts 221 = .ok (.iload 9, 2) := by decide +kernel
theorem dX12_gusts_223 : decode cX12_gusts 223 = .ok (.isub, 1) := by decide +kernel
theorem dX12_gusts_224 : decode cX12_gusts 224 = .ok (.imul, 1) := by decide +kernel
theorem dX12_gusts_225 : decode cX12_gusts 225 = .ok (.ireturn, 1) := by decide +kernel
theorem dX12_await_0 : decode cX12_await 0 = .ok (.aload_n 0, 1) := by decide +kernel
theorem dX12_await_1 : decode cX12_await 1 = .ok (.iload_n 1, 1) := by decide +kernel
theorem dX12_await_2 : decode cX12_await 2 = .ok (.invokevirtual 285, 3) := by decide +kernel
theorem dX12_await_5 : decode cX12_await 5 = .ok (.ifCond .eq 11, 3) := by decide +kernel
theorem dX12_await_8 : decode cX12_await 8 = .ok (.aload_n 0, 1) := by decide +kernel
theorem dX12_await_9 : decode cX12_await 9 = .ok (.iload_n 2, 1) := by decide +kernel
theorem dX12_await_10 : decode cX12_await 10 = .ok (.invokevirtual 288, 3) := by decide +kernel
theorem dX12_await_13 : decode cX12_await 13 = .ok (.ifCond .ne 5, 3) := by decide +kernel
theorem dX12_await_16 : decode cX12_await 16 = .ok (.iconst (-1), 1) := by decide +kernel
theorem dX12_await_17 : decode cX12_await 17 = .ok (.ireturn, 1) := by decide +kernel
theorem dX12_await_18 : decode cX12_await 18 = .ok (.iload_n 1, 1) := by decide +kernel
theorem dX12_await_19 : decode cX12_await 19 = .ok (.bipush 100, 2) := by decide +kernel
theorem dX12_await_21 : decode cX12_await 21 = .ok (.irem, 1) := by decide +kernel
theorem dX12_await_22 : decode cX12_await 22 = .ok (.istore_n 3, 1) := by decide +kernel
theorem dX12_await_23 : decode cX12_await 23 = .ok (.iload_n 3, 1) := by decide +kernel
theorem dX12_await_24 : decode cX12_await 24 = .ok (.bipush 48, 2) := by decide +kernel
theorem dX12_await_26 : decode cX12_await 26 = .ok (.if_icmp .ge 42, 3) := by decide +kernel
theorem dX12_await_29 : decode cX12_await 29 = .ok (.iload_n 3, 1) := by decide +kernel
theorem dX12_await_30 : decode cX12_await 30 = .ok (.invokestatic 308, 3) := by decide +kernel
theorem dX12_await_33 : decode cX12_await 33 = .ok (.ifCond .ne 29, 3) := by decide +kernel
theorem dX12_await_36 : decode cX12_await 36 = .ok (.aload_n 0, 1) := by decide +kernel
theorem dX12_await_37 : decode cX12_await 37 = .ok (.iload_n 1, 1) := by decide +kernel
theorem dX12_await_38 : decode cX12_await 38 = .ok (.bipush 100, 2) := by decide +kernel
theorem dX12_await_40 : decode cX12_await 40 = .ok (.idiv, 1) := by decide +kernel
theorem dX12_await_41 : decode cX12_await 41 = .ok (.aload_n 0, 1) := by decide +kernel
theorem dX12_await_42 : decode cX12_await 42 = .ok (.aload_n 0, 1) := by decide +kernel
theorem dX12_await_43 : decode cX12_await 43 = .ok (.getfield 57, 3) := by decide +kernel
theorem dX12_await_46 : decode cX12_await 46 = .ok (.iload_n 3, 1) := by decide +kernel
theorem dX12_await_47 : decode cX12_await 47 = .ok (.invokevirtual 247, 3) := by decide +kernel
theorem dX12_await_50 : decode cX12_await 50 = .ok (.iload_n 2, 1) := by decide +kernel
theorem dX12_await_51 : decode cX12_await 51 = .ok (.bipush 10, 2) := by decide +kernel
theorem dX12_await_53 : decode cX12_await 53 = .ok (.irem, 1) := by decide +kernel
theorem dX12_await_54 : decode cX12_await 54 = .ok (.invokevirtual 299, 3) := by decide +kernel
theorem dX12_await_57 : decode cX12_await 57 = .ok (.ifCond .eq 5, 3) := by decide +kernel
theorem dX12_await_60 : decode cX12_await 60 = .ok (.iload_n 3, 1) := by decide +kernel
theorem dX12_await_61 : decode cX12_await 61 = .ok (.ireturn, 1) := by decide +kernel
theorem dX12_await_62 : decode cX12_await 62 = .ok (.iinc 3 1, 3) := by decide +kernel
theorem dX12_await_65 : decode cX12_await 65 = .ok (.goto (-42), 3) := by decide +kernel
theorem dX12_await_68 : decode cX12_await 68 = .ok (.bipush (-2), 2) := by decide +kernel
theorem dX12_await_70 : decode cX12_await 70 = .ok (.ireturn, 1) := by decide +kernel
theorem dX12_mustNot_0 : decode cX12_mustNot 0 = .ok (.aload_n 0, 1) := by decide +kernel
theorem dX12_mustNot_1 : decode cX12_mustNot 1 = .ok (.iload_n 1, 1) := by decide +kernel
theorem dX12_mustNot_2 : decode cX12_mustNot 2 = .ok (.invokevirtual 285, 3) := by decide +kernel
theorem dX12_mustNot_5 : decode cX12_mustNot 5 = .ok (.ifCond .ne 5, 3) := by decide +kernel
theorem dX12_mustNot_8 : decode cX12_mustNot 8 = .ok (.iconst (-1), 1) := by decide +kernel
theorem dX12_mustNot_9 : decode cX12_mustNot 9 = .ok (.ireturn, 1) := by decide +kernel
theorem dX12_mustNot_10 : decode cX12_mustNot 10 = .ok (.iload_n 1, 1) := by decide +kernel
theorem dX12_mustNot_11 : decode cX12_mustNot 11 = .ok (.bipush 100, 2) := by decide +kernel
theorem dX12_mustNot_13 : decode cX12_mustNot 13 = .ok (.idiv, 1) := by decide +kernel
theorem dX12_mustNot_14 : decode cX12_mustNot 14 = .ok (.istore_n 2, 1) := by decide +kernel
theorem dX12_mustNot_15 : decode cX12_mustNot 15 = .ok (.aload_n 0, 1) := by decide +kernel
theorem dX12_mustNot_16 : decode cX12_mustNot 16 = .ok (.aload_n 0, 1) := by decide +kernel
theorem dX12_mustNot_17 : decode cX12_mustNot 17 = .ok (.getfield 57, 3) := by decide +kernel
theorem dX12_mustNot_20 : decode cX12_mustNot 20 = .ok (.iload_n 1, 1) := by decide +kernel
theorem dX12_mustNot_21 : decode cX12_mustNot 21 = .ok (.bipush 100, 2) := by decide +kernel
theorem dX12_mustNot_23 : decode cX12_mustNot 23 = .ok (.irem, 1) := by decide +kernel
theorem dX12_mustNot_24 : decode cX12_mustNot 24 = .ok (.invokevirtual 247, 3) := by decide +kernel
theorem dX12_mustNot_27 : decode cX12_mustNot 27 = .ok (.istore_n 3, 1) := by decide +kernel
theorem dX12_mustNot_28 : decode cX12_mustNot 28 = .ok (.iconst 0, 1) := by decide +kernel
theorem dX12_mustNot_29 : decode cX12_mustNot 29 = .ok (.istore 4, 2) := by decide +kernel
theorem dX12_mustNot_31 : decode cX12_mustNot 31 = .ok (.iconst 0, 1) := by decide +kernel
theorem dX12_mustNot_32 : decode cX12_mustNot 32 = .ok (.istore 5, 2) := by decide +kernel
theorem dX12_mustNot_34 : decode cX12_mustNot 34 = .ok (.iload 5, 2) := by decide +kernel
theorem dX12_mustNot_36 : decode cX12_mustNot 36 = .ok (.aload_n 0, 1) := by decide +kernel
theorem dX12_mustNot_37 : decode cX12_mustNot 37 = .ok (.getfield 257, 3) := by decide +kernel
theorem dX12_mustNot_40 : decode cX12_mustNot 40 = .ok (.if_icmp .ge 105, 3) := by decide +kernel
theorem dX12_mustNot_43 : decode cX12_mustNot 43 = .ok (.iconst 0, 1) := by decide +kernel
theorem dX12_mustNot_44 : decode cX12_mustNot 44 = .ok (.istore 6, 2) := by decide +kernel
theorem dX12_mustNot_46 : decode cX12_mustNot 46 = .ok (.iload 6, 2) := by decide +kernel
theorem dX12_mustNot_48 : decode cX12_mustNot 48 = .ok (.aload_n 0, 1) := by decide +kernel
theorem dX12_mustNot_49 : decode cX12_mustNot 49 = .ok (.getfield 13, 3) := by decide +kernel
theorem dX12_mustNot_52 : decode cX12_mustNot 52 = .ok (.iload_n 2, 1) := by decide +kernel
theorem dX12_mustNot_53 : decode cX12_mustNot 53 = .ok (.iaload, 1) := by decide +kernel
theorem dX12_mustNot_54 : decode cX12_mustNot 54 = .ok (.if_icmp .ge 85, 3) := by decide +kernel
theorem dX12_mustNot_57 : decode cX12_mustNot 57 = .ok (.aload_n 0, 1) := by decide +kernel
theorem dX12_mustNot_58 : decode cX12_mustNot 58 = .ok (.iload_n 2, 1) := by decide +kernel
theorem dX12_mustNot_59 : decode cX12_mustNot 59 = .ok (.iload 6, 2) := by decide +kernel
theorem dX12_mustNot_61 : decode cX12_mustNot 61 = .ok (.iload_n 3, 1) := by decide +kernel
theorem dX12_mustNot_62 : decode cX12_mustNot 62 = .ok (.invokevirtual 251, 3) := by decide +kernel
theorem dX12_mustNot_65 : decode cX12_mustNot 65 = .ok (.istore 7, 2) := by decide +kernel
theorem dX12_mustNot_67 : decode cX12_mustNot 67 = .ok (.iload 7, 2) := by decide +kernel
theorem dX12_mustNot_69 : decode cX12_mustNot 69 = .ok (.aload_n 0, 1) := by decide +kernel
theorem dX12_mustNot_70 : decode cX12_mustNot 70 = .ok (.getfield 64, 3) := by decide +kernel
theorem dX12_mustNot_73 : decode cX12_mustNot 73 = .ok (.iload 5, 2) := by decide +kernel
theorem dX12_mustNot_75 : decode cX12_mustNot 75 = .ok (.iaload, 1) := by decide +kernel
theorem dX12_mustNot_76 : decode cX12_mustNot 76 = .ok (.if_icmp .ge 48, 3) := by decide +kernel
theorem dX12_mustNot_79 : decode cX12_mustNot 79 = .ok (.aload_n 0, 1) := by decide +kernel
theorem dX12_mustNot_80 : decode cX12_mustNot 80 = .ok (.iload 5, 2) := by decide +kernel
theorem dX12_mustNot_82 : decode cX12_mustNot 82 = .ok (.iload 7, 2) := by decide +kernel
theorem dX12_mustNot_84 : decode cX12_mustNot 84 = .ok (.aload_n 0, 1) := by decide +kernel
theorem dX12_mustNot_85 : decode cX12_mustNot 85 = .ok (.getfield 20, 3) := by decide +kernel
theorem dX12_mustNot_88 : decode cX12_mustNot 88 = .ok (.bipush 36, 2) := by decide +kernel
theorem dX12_mustNot_90 : decode cX12_mustNot 90 = .ok (.iload_n 2, 1) := by decide +kernel
theorem dX12_mustNot_91 : decode cX12_mustNot 91 = .ok (.imul, 1) := by decide +kernel
theorem dX12_mustNot_92 : decode cX12_mustNot 92 = .ok (.iconst 3, 1) := by decide +kernel
theorem dX12_mustNot_93 : decode cX12_mustNot 93 = .ok (.iload 6, 2) := by decide +kernel
theorem dX12_mustNot_95 : decode cX12_mustNot 95 = .ok (.imul, 1) := by decide +kernel
theorem dX12_mustNot_96 : decode cX12_mustNot 96 = .ok (.iadd, 1) := by decide +kernel
theorem dX12_mustNot_97 : decode cX12_mustNot 97 = .ok (.iconst 2, 1) := by decide +kernel
theorem dX12_mustNot_98 : decode cX12_mustNot 98 = .ok (.iadd, 1) := by decide +kernel
theorem dX12_mustNot_99 : decode cX12_mustNot 99 = .ok (.iaload, 1) := by decide +kernel
theorem dX12_mustNot_100 : decode cX12_mustNot 100 = .ok (.invokevirtual 272, 3) := by decide +kernel
theorem dX12_mustNot_103 : decode cX12_mustNot 103 = .ok (.aload_n 0, 1) := by decide +kernel
theorem dX12_mustNot_104 : decode cX12_mustNot 104 = .ok (.iload 5, 2) := by decide +kernel
theorem dX12_mustNot_106 : decode cX12_mustNot 106 = .ok (.iload 7, 2) := by decide +kernel
theorem dX12_mustNot_108 : decode cX12_mustNot 108 = .ok (.aload_n 0, 1) := by decide +kernel
theorem dX12_mustNot_109 : decode cX12_mustNot 109 = .ok (.iload_n 2, 1) := by decide +kernel
theorem dX12_mustNot_110 : decode cX12_mustNot 110 = .ok (.iload 6, 2) := by decide +kernel
theorem dX12_mustNot_112 : decode cX12_mustNot 112 = .ok (.iload_n 3, 1) := by decide +kernel
theorem dX12_mustNot_113 : decode cX12_mustNot 113 = .ok (.invokevirtual 254, 3) := by decide +kernel
theorem dX12_mustNot_116 : decode cX12_mustNot 116 = .ok (.bipush 40, 2) := by decide +kernel
theorem dX12_mustNot_118 : decode cX12_mustNot 118 = .ok (.invokevirtual 282, 3) := by decide +kernel
theorem dX12_mustNot_121 : decode cX12_mustNot 121 = .ok (.if_icmp .ge 12, 3) := by decide +kernel
theorem dX12_mustNot_124 : decode cX12_mustNot 124 = .ok (.iload 4, 2) := by decide +kernel
theorem dX12_mustNot_126 : decode cX12_mustNot 126 = .ok (.iconst 1, 1) := by decide +kernel
theorem dX12_mustNot_127 : decode cX12_mustNot 127 = .ok (.iload 5, 2) := by decide +kernel
theorem dX12_mustNot_129 : decode cX12_mustNot 129 = .ok (.ishl, 1) := by decide +kernel
theorem dX12_mustNot_130 : decode cX12_mustNot 130 = .ok (.ior, 1) := by decide +kernel
theorem dX12_mustNot_131 : decode cX12_mustNot 131 = .ok (.istore 4, 2) := by decide +kernel
theorem dX12_mustNot_133 : decode cX12_mustNot 133 = .ok (.iinc 6 1, 3) := by decide +kernel
theorem dX12_mustNot_136 : decode cX12_mustNot 136 = .ok (.goto (-90), 3) := by decide +kernel
theorem dX12_mustNot_139 : decode cX12_mustNot 139 = .ok (.iinc 5 1, 3) := by decide +kernel
theorem dX12_mustNot_142 : decode cX12_mustNot 142 = .ok (.goto (-108), 3) := by decide +kernel
theorem dX12_mustNot_145 : decode cX12_mustNot 145 = .ok (.iload 4, 2) := by decide +kernel
theorem dX12_mustNot_147 : decode cX12_mustNot 147 = .ok (.ireturn, 1) := by decide +kernel
theorem dX12_hourBy_0 : decode cX12_hourBy 0 = .ok (.iload_n 0, 1) := by decide +kernel
theorem dX12_hourBy_1 : decode cX12_hourBy 1 = .ok (.iload_n 1, 1) := by decide +kernel
theorem dX12_hourBy_2 : decode cX12_hourBy 2 = .ok (.iload_n 2, 1) := by decide +kernel
theorem dX12_hourBy_3 : decode cX12_hourBy 3 = .ok (.imul, 1) := by decide +kernel
theorem dX12_hourBy_4 : decode cX12_hourBy 4 = .ok (.bipush 60, 2) := by decide +kernel
theorem dX12_hourBy_6 : decode cX12_hourBy 6 = .ok (.idiv, 1) := by decide +kernel
theorem dX12_hourBy_7 : decode cX12_hourBy 7 = .ok (.iadd, 1) := by decide +kernel
theorem dX12_hourBy_8 : decode cX12_hourBy 8 = .ok (.istore_n 3, 1) := by decide +kernel
theorem dX12_hourBy_9 : decode cX12_hourBy 9 = .ok (.iload_n 3, 1) := by decide +kernel
theorem dX12_hourBy_10 : decode cX12_hourBy 10 = .ok (.bipush 48, 2) := by decide +kernel
theorem dX12_hourBy_12 : decode cX12_hourBy 12 = .ok (.if_icmp .ge 7, 3) := by decide +kernel
theorem dX12_hourBy_15 : decode cX12_hourBy 15 = .ok (.iload_n 3, 1) := by decide +kernel
theorem dX12_hourBy_16 : decode cX12_hourBy 16 = .ok (.goto 5, 3) := by decide +kernel
theorem dX12_hourBy_19 : decode cX12_hourBy 19 = .ok (.bipush 47, 2) := by decide +kernel
theorem dX12_hourBy_21 : decode cX12_hourBy 21 = .ok (.ireturn, 1) := by decide +kernel
theorem dX12_midst_0 : decode cX12_midst 0 = .ok (.aload_n 0, 1) := by decide +kernel
theorem dX12_midst_1 : decode cX12_midst 1 = .ok (.iload_n 1, 1) := by decide +kernel
theorem dX12_midst_2 : decode cX12_midst 2 = .ok (.invokevirtual 285, 3) := by decide +kernel
theorem dX12_midst_5 : decode cX12_midst 5 = .ok (.ifCond .eq 31, 3) := by decide +kernel
theorem dX12_midst_8 : decode cX12_midst 8 = .ok (.aload_n 0, 1) := by decide +kernel
theorem dX12_midst_9 : decode cX12_midst 9 = .ok (.iload_n 2, 1) := by decide +kernel
theorem dX12_midst_10 : decode cX12_midst 10 = .ok (.invokevirtual 288, 3) := by decide +kernel
theorem dX12_midst_13 : decode cX12_midst 13 = .ok (.ifCond .eq 23, 3) := by decide +kernel
theorem dX12_midst_16 : decode cX12_midst 16 = .ok (.iload_n 3, 1) := by decide +kernel
theorem dX12_midst_17 : decode cX12_midst 17 = .ok (.iconst 1, 1) := by decide +kernel
theorem dX12_midst_18 : decode cX12_midst 18 = .ok (.bipush 60, 2) := by decide +kernel
theorem dX12_midst_20 : decode cX12_midst 20 = .ok (.invokestatic 110, 3) := by decide +kernel
theorem dX12_midst_23 : decode cX12_midst 23 = .ok (.ifCond .eq 13, 3) := by decide +kernel
theorem dX12_midst_26 : decode cX12_midst 26 = .ok (.iload 4, 2) := by decide +kernel
theorem dX12_midst_28 : decode cX12_midst 28 = .ok (.iconst 0, 1) := by decide +kernel
theorem dX12_midst_29 : decode cX12_midst 29 = .ok (.iconst 1, 1) := by decide +kernel
theorem dX12_midst_30 : decode cX12_midst 30 = .ok (.invokestatic 110, 3) := by decide +kernel
theorem dX12_midst_33 : decode cX12_midst 33 = .ok (.ifCond .ne 5, 3) := by decide +kernel
theorem dX12_midst_36 : decode cX12_midst 36 = .ok (.iconst (-1), 1) := by decide +kernel
theorem dX12_midst_37 : decode cX12_midst 37 = .ok (.ireturn, 1) := by decide +kernel
theorem dX12_midst_38 : decode cX12_midst 38 = .ok (.iload_n 1, 1) := by decide +kernel
theorem dX12_midst_39 : decode cX12_midst 39 = .ok (.bipush 100, 2) := by decide +kernel
theorem dX12_midst_41 : decode cX12_midst 41 = .ok (.idiv, 1) := by decide +kernel
theorem dX12_midst_42 : decode cX12_midst 42 = .ok (.istore 5, 2) := by decide +kernel
theorem dX12_midst_44 : decode cX12_midst 44 = .ok (.iconst 0, 1) := by decide +kernel
theorem dX12_midst_45 : decode cX12_midst 45 = .ok (.istore 6, 2) := by decide +kernel
theorem dX12_midst_47 : decode cX12_midst 47 = .ok (.iload 6, 2) := by decide +kernel
theorem dX12_midst_49 : decode cX12_midst 49 = .ok (.aload_n 0, 1) := by decide +kernel
theorem dX12_midst_50 : decode cX12_midst 50 = .ok (.getfield 13, 3) := by decide +kernel
theorem dX12_midst_53 : decode cX12_midst 53 = .ok (.iload 5, 2) := by decide +kernel
theorem dX12_midst_55 : decode cX12_midst 55 = .ok (.iaload, 1) := by decide +kernel
theorem dX12_midst_56 : decode cX12_midst 56 = .ok (.if_icmp .ge 42, 3) := by decide +kernel
theorem dX12_midst_59 : decode cX12_midst 59 = .ok (.aload_n 0, 1) := by decide +kernel
theorem dX12_midst_60 : decode cX12_midst 60 = .ok (.iload 5, 2) := by decide +kernel
theorem dX12_midst_62 : decode cX12_midst 62 = .ok (.iload 6, 2) := by decide +kernel
theorem dX12_midst_64 : decode cX12_midst 64 = .ok (.aload_n 0, 1) := by decide +kernel
theorem dX12_midst_65 : decode cX12_midst 65 = .ok (.aload_n 0, 1) := by decide +kernel
theorem dX12_midst_66 : decode cX12_midst 66 = .ok (.getfield 57, 3) := by decide +kernel
theorem dX12_midst_69 : decode cX12_midst 69 = .ok (.iload_n 1, 1) := by decide +kernel
theorem dX12_midst_70 : decode cX12_midst 70 = .ok (.bipush 100, 2) := by decide +kernel
theorem dX12_midst_72 : decode cX12_midst 72 = .ok (.irem, 1) := by decide +kernel
theorem dX12_midst_73 : decode cX12_midst 73 = .ok (.iload 6, 2) := by decide +kernel
theorem dX12_midst_75 : decode cX12_midst 75 = .ok (.iload_n 3, 1) := by decide +kernel
theorem dX12_midst_76 : decode cX12_midst 76 = .ok (.invokestatic 312, 3) := by decide +kernel
theorem dX12_midst_79 : decode cX12_midst 79 = .ok (.invokevirtual 247, 3) := by decide +kernel
theorem dX12_midst_82 : decode cX12_midst 82 = .ok (.iload_n 2, 1) := by decide +kernel
theorem dX12_midst_83 : decode cX12_midst 83 = .ok (.bipush 10, 2) := by decide +kernel
theorem dX12_midst_85 : decode cX12_midst 85 = .ok (.irem, 1) := by decide +kernel
theorem dX12_midst_86 : decode cX12_midst 86 = .ok (.invokevirtual 295, 3) := by decide +kernel
theorem dX12_midst_89 : decode cX12_midst 89 = .ok (.ifCond .eq 9, 3) := by decide +kernel
theorem dX12_midst_92 : decode cX12_midst 92 = .ok (.iinc 6 1, 3) := by decide +kernel
theorem dX12_midst_95 : decode cX12_midst 95 = .ok (.goto (-48), 3) := by decide +kernel
theorem dX12_midst_98 : decode cX12_midst 98 = .ok (.iload 4, 2) := by decide +kernel
theorem dX12_midst_100 : decode cX12_midst 100 = .ok (.ifCond .ne 6, 3) := by decide +kernel
theorem dX12_midst_103 : decode cX12_midst 103 = .ok (.iload 6, 2) := by decide +kernel
theorem dX12_midst_105 : decode cX12_midst 105 = .ok (.ireturn, 1) := by decide +kernel
theorem dX12_midst_106 : decode cX12_midst 106 = .ok (.iload 6, 2) := by decide +kernel
theorem dX12_midst_108 : decode cX12_midst 108 = .ok (.aload_n 0, 1) := by decide +kernel
theorem dX12_midst_109 : decode cX12_midst 109 = .ok (.getfield 13, 3) := by decide +kernel
theorem dX12_midst_112 : decode cX12_midst 112 = .ok (.iload 5, 2) := by decide +kernel
theorem dX12_midst_114 : decode cX12_midst 114 = .ok (.iaload, 1) := by decide +kernel
theorem dX12_midst_115 : decode cX12_midst 115 = .ok (.if_icmp .ne 6, 3) := by decide +kernel
theorem dX12_midst_118 : decode cX12_midst 118 = .ok (.bipush (-2), 2) := by decide +kernel
theorem dX12_midst_120 : decode cX12_midst 120 = .ok (.ireturn, 1) := by decide +kernel
theorem dX12_midst_121 : decode cX12_midst 121 = .ok (.iload 6, 2) := by decide +kernel
theorem dX12_midst_123 : decode cX12_midst 123 = .ok (.iconst 1, 1) := by decide +kernel
theorem dX12_midst_124 : decode cX12_midst 124 = .ok (.isub, 1) := by decide +kernel
theorem dX12_midst_125 : decode cX12_midst 125 = .ok (.istore 7, 2) := by decide +kernel
theorem dX12_midst_127 : decode cX12_midst 127 = .ok (.iload 7, 2) := by decide +kernel
theorem dX12_midst_129 : decode cX12_midst 129 = .ok (.ifCond .lt 51, 3) := by decide +kernel
theorem dX12_midst_132 : decode cX12_midst 132 = .ok (.aload_n 0, 1) := by decide +kernel
theorem dX12_midst_133 : decode cX12_midst 133 = .ok (.iload 5, 2) := by decide +kernel
theorem dX12_midst_135 : decode cX12_midst 135 = .ok (.iload 7, 2) := by decide +kernel
theorem dX12_midst_137 : decode cX12_midst 137 = .ok (.aload_n 0, 1) := by decide +kernel
theorem dX12_midst_138 : decode cX12_midst 138 = .ok (.aload_n 0, 1) := by decide +kernel
theorem dX12_midst_139 : decode cX12_midst 139 = .ok (.getfield 57, 3) := by decide +kernel
theorem dX12_midst_142 : decode cX12_midst 142 = .ok (.iload_n 1, 1) := by decide +kernel
theorem dX12_midst_143 : decode cX12_midst 143 = .ok (.bipush 100, 2) := by decide +kernel
theorem dX12_midst_145 : decode cX12_midst 145 = .ok (.irem, 1) := by decide +kernel
theorem dX12_midst_146 : decode cX12_midst 146 = .ok (.iconst 2, 1) := by decide +kernel
theorem dX12_midst_147 : decode cX12_midst 147 = .ok (.iload 6, 2) := by decide +kernel
theorem dX12_midst_149 : decode cX12_midst 149 = .ok (.imul, 1) := by decide +kernel
theorem dX12_midst_150 : decode cX12_midst 150 = .ok (.iconst 1, 1) := by decide +kernel
theorem dX12_midst_151 : decode cX12_midst 151 = .ok (.isub, 1) := by decide +kernel
theorem dX12_midst_152 : decode cX12_midst 152 = .ok (.iload 7, 2) := by decide +kernel
theorem dX12_midst_154 : decode cX12_midst 154 = .ok (.isub, 1) := by decide +kernel
theorem dX12_midst_155 : decode cX12_midst 155 = .ok (.iload_n 3, 1) := by decide +kernel
theorem dX12_midst_156 : decode cX12_midst 156 = .ok (.invokestatic 312, 3) := by decide +kernel
theorem dX12_midst_159 : decode cX12_midst 159 = .ok (.invokevirtual 247, 3) := by decide +kernel
theorem dX12_midst_162 : decode cX12_midst 162 = .ok (.iload_n 2, 1) := by decide +kernel
theorem dX12_midst_163 : decode cX12_midst 163 = .ok (.bipush 10, 2) := by decide +kernel
theorem dX12_midst_165 : decode cX12_midst 165 = .ok (.irem, 1) := by decide +kernel
theorem dX12_midst_166 : decode cX12_midst 166 = .ok (.invokevirtual 295, 3) := by decide +kernel
theorem dX12_midst_169 : decode cX12_midst 169 = .ok (.ifCond .ne 5, 3) := by decide +kernel
theorem dX12_midst_172 : decode cX12_midst 172 = .ok (.iconst 0, 1) := by decide +kernel
theorem dX12_midst_173 : decode cX12_midst 173 = .ok (.ireturn, 1) := by decide +kernel
theorem dX12_midst_174 : decode cX12_midst 174 = .ok (.iinc 7 (-1), 3) := by decide +kernel
theorem dX12_midst_177 : decode cX12_midst 177 = .ok (.goto (-50), 3) := by decide +kernel
theorem dX12_midst_180 : decode cX12_midst 180 = .ok (.iconst 1, 1) := by decide +kernel
theorem dX12_midst_181 : decode cX12_midst 181 = .ok (.ireturn, 1) := by decide +kernel
theorem dX12_lineOf_0 : decode cX12_lineOf 0 = .ok (.bipush 60, 2) := by decide +kernel
theorem dX12_lineOf_2 : decode cX12_lineOf 2 = .ok (.istore_n 3, 1) := by decide +kernel
theorem dX12_lineOf_3 : decode cX12_lineOf 3 = .ok (.iload_n 3, 1) := by decide +kernel
theorem dX12_lineOf_4 : decode cX12_lineOf 4 = .ok (.bipush (-20), 2) := by decide +kernel
theorem dX12_lineOf_6 : decode cX12_lineOf 6 = .ok (.if_icmp .lt 21, 3) := by decide +kernel
theorem dX12_lineOf_9 : decode cX12_lineOf 9 = .ok (.aload_n 0, 1) := by decide +kernel
theorem dX12_lineOf_10 : decode cX12_lineOf 10 = .ok (.iload_n 1, 1) := by decide +kernel
theorem dX12_lineOf_11 : decode cX12_lineOf 11 = .ok (.iload_n 3, 1) := by decide +kernel
theorem dX12_lineOf_12 : decode cX12_lineOf 12 = .ok (.iload_n 2, 1) := by decide +kernel
theorem dX12_lineOf_13 : decode cX12_lineOf 13 = .ok (.invokevirtual 299, 3) := by decide +kernel
theorem dX12_lineOf_16 : decode cX12_lineOf 16 = .ok (.ifCond .eq 5, 3) := by decide +kernel
theorem dX12_lineOf_19 : decode cX12_lineOf 19 = .ok (.iload_n 3, 1) := by decide +kernel
theorem dX12_lineOf_20 : decode cX12_lineOf 20 = .ok (.ireturn, 1) := by decide +kernel
theorem dX12_lineOf_21 : decode cX12_lineOf 21 = .ok (.iinc 3 (-1), 3) := by decide +kernel
theorem dX12_lineOf_24 : decode cX12_lineOf 24 = .ok (.goto (-21), 3) := by decide +kernel
theorem dX12_lineOf_27 : decode cX12_lineOf 27 = .ok (.bipush (-100), 2) := by decide +kernel
theorem dX12_lineOf_29 : decode cX12_lineOf 29 = .ok (.ireturn, 1) := by decide +kernel
theorem dX12_line_0 : decode cX12_line 0 = .ok (.aload_n 0, 1) := by decide +kernel
theorem dX12_line_1 : decode cX12_line 1 = .ok (.iload_n 1, 1) := by decide +kernel
theorem dX12_line_2 : decode cX12_line 2 = .ok (.invokevirtual 120, 3) := by decide +kernel
theorem dX12_line_5 : decode cX12_line 5 = .ok (.ifCond .eq 23, 3) := by decide +kernel
theorem dX12_line_8 : decode cX12_line 8 = .ok (.aload_n 0, 1) := by decide +kernel
theorem dX12_line_9 : decode cX12_line 9 = .ok (.iload_n 2, 1) := by decide +kernel
theorem dX12_line_10 : decode cX12_line 10 = .ok (.invokevirtual 288, 3) := by decide +kernel
theorem dX12_line_13 : decode cX12_line 13 = .ok (.ifCond .eq 15, 3) := by decide +kernel
theorem dX12_line_16 : decode cX12_line 16 = .ok (.aload_n 0, 1) := by decide +kernel
theorem dX12_line_17 : decode cX12_line 17 = .ok (.iload_n 1, 1) := by decide +kernel
theorem dX12_line_18 : decode cX12_line 18 = .ok (.iload_n 2, 1) := by decide +kernel
theorem dX12_line_19 : decode cX12_line 19 = .ok (.bipush 10, 2) := by decide +kernel
theorem dX12_line_21 : decode cX12_line 21 = .ok (.irem, 1) := by decide +kernel
theorem dX12_line_22 : decode cX12_line 22 = .ok (.invokevirtual 315, 3) := by decide +kernel
theorem dX12_line_25 : decode cX12_line 25 = .ok (.goto 5, 3) := by decide +kernel
theorem dX12_line_28 : decode cX12_line 28 = .ok (.ldc 250, 2) := by decide +kernel
theorem dX12_line_30 : decode cX12_line 30 = .ok (.ireturn, 1) := by decide +kernel
theorem dX12_wall_0 : decode cX12_wall 0 = .ok (.aload_n 0, 1) := by decide +kernel
theorem dX12_wall_1 : decode cX12_wall 1 = .ok (.iload_n 1, 1) := by decide +kernel
theorem dX12_wall_2 : decode cX12_wall 2 = .ok (.invokevirtual 266, 3) := by decide +kernel
theorem dX12_wall_5 : decode cX12_wall 5 = .ok (.ifCond .eq 12, 3) := by decide +kernel
theorem dX12_wall_8 : decode cX12_wall 8 = .ok (.iload_n 2, 1) := by decide +kernel
theorem dX12_wall_9 : decode cX12_wall 9 = .ok (.iconst 0, 1) := by decide +kernel
theorem dX12_wall_10 : decode cX12_wall 10 = .ok (.iconst 1, 1) := by decide +kernel
theorem dX12_wall_11 : decode cX12_wall 11 = .ok (.invokestatic 110, 3) := by decide +kernel
theorem dX12_wall_14 : decode cX12_wall 14 = .ok (.ifCond .ne 6, 3) := by decide +kernel
theorem dX12_wall_17 : decode cX12_wall 17 = .ok (.ldc 250, 2) := by decide +kernel
theorem dX12_wall_19 : decode cX12_wall 19 = .ok (.ireturn, 1) := by decide +kernel
theorem dX12_wall_20 : decode cX12_wall 20 = .ok (.bipush (-2), 2) := by decide +kernel
theorem dX12_wall_22 : decode cX12_wall 22 = .ok (.istore_n 3, 1) := by decide +kernel
theorem dX12_wall_23 : decode cX12_wall 23 = .ok (.bipush (-100), 2) := by decide +kernel
theorem dX12_wall_25 : decode cX12_wall 25 = .ok (.istore 4, 2) := by decide +kernel
theorem dX12_wall_27 : decode cX12_wall 27 = .ok (.iconst 0, 1) := by decide +kernel
theorem dX12_wall_28 : decode cX12_wall 28 = .ok (.istore 5, 2) := by decide +kernel
theorem dX12_wall_30 : decode cX12_wall 30 = .ok (.iload 5, 2) := by decide +kernel
theorem dX12_wall_32 : decode cX12_wall 32 = .ok (.aload_n 0, 1) := by decide +kernel
theorem dX12_wall_33 : decode cX12_wall 33 = .ok (.getfield 117, 3) := by decide +kernel
theorem dX12_wall_36 : decode cX12_wall 36 = .ok (.if_icmp .ge 57, 3) := by decide +kernel
theorem dX12_wall_39 : decode cX12_wall 39 = .ok (.iconst 0, 1) := by decide +kernel
theorem dX12_wall_40 : decode cX12_wall 40 = .ok (.istore 6, 2) := by decide +kernel
theorem dX12_wall_42 : decode cX12_wall 42 = .ok (.iload 6, 2) := by decide +kernel
theorem dX12_wall_44 : decode cX12_wall 44 = .ok (.iconst 4, 1) := by decide +kernel
theorem dX12_wall_45 : decode cX12_wall 45 = .ok (.if_icmp .ge 42, 3) := by decide +kernel
theorem dX12_wall_48 : decode cX12_wall 48 = .ok (.aload_n 0, 1) := by decide +kernel
theorem dX12_wall_49 : decode cX12_wall 49 = .ok (.iload 5, 2) := by decide +kernel
theorem dX12_wall_51 : decode cX12_wall 51 = .ok (.iload 6, 2) := by decide +kernel
theorem dX12_wall_53 : decode cX12_wall 53 = .ok (.invokevirtual 315, 3) := by decide +kernel
theorem dX12_wall_56 : decode cX12_wall 56 = .ok (.istore 7, 2) := by decide +kernel
theorem dX12_wall_58 : decode cX12_wall 58 = .ok (.iload 7, 2) := by decide +kernel
theorem dX12_wall_60 : decode cX12_wall 60 = .ok (.iload 4, 2) := by decide +kernel
theorem dX12_wall_62 : decode cX12_wall 62 = .ok (.if_icmp .gt 6, 3) := by decide +kernel
theorem dX12_wall_65 : decode cX12_wall 65 = .ok (.goto 16, 3) := by decide +kernel
theorem dX12_wall_68 : decode cX12_wall 68 = .ok (.bipush 10, 2) := by decide +kernel
theorem dX12_wall_70 : decode cX12_wall 70 = .ok (.iload 5, 2) := by decide +kernel
theorem dX12_wall_72 : decode cX12_wall 72 = .ok (.imul, 1) := by decide +kernel
theorem dX12_wall_73 : decode cX12_wall 73 = .ok (.iload 6, 2) := by decide +kernel
theorem dX12_wall_75 : decode cX12_wall 75 = .ok (.iadd, 1) := by decide +kernel
theorem dX12_wall_76 : decode cX12_wall 76 = .ok (.istore_n 3, 1) := by decide +kernel
theorem dX12_wall_77 : decode cX12_wall 77 = .ok (.iload 7, 2) := by decide +kernel
theorem dX12_wall_79 : decode cX12_wall 79 = .ok (.istore 4, 2) := by decide +kernel
theorem dX12_wall_81 : decode cX12_wall 81 = .ok (.iinc 6 1, 3) := by decide +kernel
theorem dX12_wall_84 : decode cX12_wall 84 = .ok (.goto (-42), 3) := by decide +kernel
theorem dX12_wall_87 : decode cX12_wall 87 = .ok (.iinc 5 1, 3) := by decide +kernel
theorem dX12_wall_90 : decode cX12_wall 90 = .ok (.goto (-60), 3) := by decide +kernel
theorem dX12_wall_93 : decode cX12_wall 93 = .ok (.iload_n 2, 1) := by decide +kernel
theorem dX12_wall_94 : decode cX12_wall 94 = .ok (.ifCond .ne 7, 3) := by decide +kernel
theorem dX12_wall_97 : decode cX12_wall 97 = .ok (.iload_n 3, 1) := by decide +kernel
theorem dX12_wall_98 : decode cX12_wall 98 = .ok (.goto 5, 3) := by decide +kernel
theorem dX12_wall_101 : decode cX12_wall 101 = .ok (.iload 4, 2) := by decide +kernel
theorem dX12_wall_103 : decode cX12_wall 103 = .ok (.ireturn, 1) := by decide +kernel
theorem dX12_roped_0 : decode cX12_roped 0 = .ok (.aload_n 0, 1) := by decide +kernel
theorem dX12_roped_1 : decode cX12_roped 1 = .ok (.iload_n 1, 1) := by decide +kernel
theorem dX12_roped_2 : decode cX12_roped 2 = .ok (.invokevirtual 285, 3) := by decide +kernel
theorem dX12_roped_5 : decode cX12_roped 5 = .ok (.ifCond .eq 41, 3) := by decide +kernel
theorem dX12_roped_8 : decode cX12_roped 8 = .ok (.aload_n 0, 1) := by decide +kernel
theorem dX12_roped_9 : decode cX12_roped 9 = .ok (.iload_n 2, 1) := by decide +kernel
theorem dX12_roped_10 : decode cX12_roped 10 = .ok (.invokevirtual 288, 3) := by decide +kernel
theorem dX12_roped_13 : decode cX12_roped 13 = .ok (.ifCond .eq 33, 3) := by decide +kernel
theorem dX12_roped_16 : decode cX12_roped 16 = .ok (.iload_n 3, 1) := by decide +kernel
theorem dX12_roped_17 : decode cX12_roped 17 = .ok (.ifCond .lt 29, 3) := by decide +kernel
theorem dX12_roped_20 : decode cX12_roped 20 = .ok (.iload_n 3, 1) := by decide +kernel
theorem dX12_roped_21 : decode cX12_roped 21 = .ok (.bipush 100, 2) := by decide +kernel
theorem dX12_roped_23 : decode cX12_roped 23 = .ok (.idiv, 1) := by decide +kernel
theorem dX12_roped_24 : decode cX12_roped 24 = .ok (.aload_n 0, 1) := by decide +kernel
theorem dX12_roped_25 : decode cX12_roped 25 = .ok (.getfield 263, 3) := by decide +kernel
theorem dX12_roped_28 : decode cX12_roped 28 = .ok (.if_icmp .ge 18, 3) := by decide +kernel
theorem dX12_roped_31 : decode cX12_roped 31 = .ok (.aload_n 0, 1) := by decide +kernel
theorem dX12_roped_32 : decode cX12_roped 32 = .ok (.iload_n 1, 1) := by decide +kernel
theorem dX12_roped_33 : decode cX12_roped 33 = .ok (.bipush 100, 2) := by decide +kernel
theorem dX12_roped_35 : decode cX12_roped 35 = .ok (.idiv, 1) := by decide +kernel
theorem dX12_roped_36 : decode cX12_roped 36 = .ok (.iload_n 3, 1) := by decide +kernel
theorem dX12_roped_37 : decode cX12_roped 37 = .ok (.bipush 100, 2) := by decide +kernel
theorem dX12_roped_39 : decode cX12_roped 39 = .ok (.irem, 1) := by decide +kernel
theorem dX12_roped_40 : decode cX12_roped 40 = .ok (.invokevirtual 161, 3) := by decide +kernel
theorem dX12_roped_43 : decode cX12_roped 43 = .ok (.ifCond .ne 5, 3) := by decide +kernel
theorem dX12_roped_46 : decode cX12_roped 46 = .ok (.iconst (-1), 1) := by decide +kernel
theorem dX12_roped_47 : decode cX12_roped 47 = .ok (.ireturn, 1) := by decide +kernel
theorem dX12_roped_48 : decode cX12_roped 48 = .ok (.iload_n 1, 1) := by decide +kernel
theorem dX12_roped_49 : decode cX12_roped 49 = .ok (.bipush 100, 2) := by decide +kernel
theorem dX12_roped_51 : decode cX12_roped 51 = .ok (.idiv, 1) := by decide +kernel
theorem dX12_roped_52 : decode cX12_roped 52 = .ok (.istore 4, 2) := by decide +kernel
theorem dX12_roped_54 : decode cX12_roped 54 = .ok (.iload_n 3, 1) := by decide +kernel
theorem dX12_roped_55 : decode cX12_roped 55 = .ok (.bipush 100, 2) := by decide +kernel
theorem dX12_roped_57 : decode cX12_roped 57 = .ok (.irem, 1) := by decide +kernel
theorem dX12_roped_58 : decode cX12_roped 58 = .ok (.istore 5, 2) := by decide +kernel
theorem dX12_roped_60 : decode cX12_roped 60 = .ok (.aload_n 0, 1) := by decide +kernel
theorem dX12_roped_61 : decode cX12_roped 61 = .ok (.aload_n 0, 1) := by decide +kernel
theorem dX12_roped_62 : decode cX12_roped 62 = .ok (.getfield 57, 3) := by decide +kernel
theorem dX12_roped_65 : decode cX12_roped 65 = .ok (.iload_n 1, 1) := by decide +kernel
theorem dX12_roped_66 : decode cX12_roped 66 = .ok (.bipush 100, 2) := by decide +kernel
theorem dX12_roped_68 : decode cX12_roped 68 = .ok (.irem, 1) := by decide +kernel
theorem dX12_roped_69 : decode cX12_roped 69 = .ok (.invokevirtual 247, 3) := by decide +kernel
theorem dX12_roped_72 : decode cX12_roped 72 = .ok (.istore 6, 2) := by decide +kernel
theorem dX12_roped_74 : decode cX12_roped 74 = .ok (.aload_n 0, 1) := by decide +kernel
theorem dX12_roped_75 : decode cX12_roped 75 = .ok (.iload 4, 2) := by decide +kernel
theorem dX12_roped_77 : decode cX12_roped 77 = .ok (.iload 5, 2) := by decide +kernel
theorem dX12_roped_79 : decode cX12_roped 79 = .ok (.iload 6, 2) := by decide +kernel
theorem dX12_roped_81 : decode cX12_roped 81 = .ok (.invokevirtual 251, 3) := by decide +kernel
theorem dX12_roped_84 : decode cX12_roped 84 = .ok (.istore 7, 2) := by decide +kernel
theorem dX12_roped_86 : decode cX12_roped 86 = .ok (.aload_n 0, 1) := by decide +kernel
theorem dX12_roped_87 : decode cX12_roped 87 = .ok (.iload 4, 2) := by decide +kernel
theorem dX12_roped_89 : decode cX12_roped 89 = .ok (.iload 5, 2) := by decide +kernel
theorem dX12_roped_91 : decode cX12_roped 91 = .ok (.iload 6, 2) := by decide +kernel
theorem dX12_roped_93 : decode cX12_roped 93 = .ok (.invokevirtual 254, 3) := by decide +kernel
theorem dX12_roped_96 : decode cX12_roped 96 = .ok (.istore 8, 2) := by decide +kernel
theorem dX12_roped_98 : decode cX12_roped 98 = .ok (.iconst 1, 1) := by decide +kernel
theorem dX12_roped_99 : decode cX12_roped 99 = .ok (.iload_n 3, 1) := by decide +kernel
theorem dX12_roped_100 : decode cX12_roped 100 = .ok (.bipush 100, 2) := by decide +kernel
theorem dX12_roped_102 : decode cX12_roped 102 = .ok (.idiv, 1) := by decide +kernel
theorem dX12_roped_103 : decode cX12_roped 103 = .ok (.ishl, 1) := by decide +kernel
theorem dX12_roped_104 : decode cX12_roped 104 = .ok (.istore 9, 2) := by decide +kernel
theorem dX12_roped_106 : decode cX12_roped 106 = .ok (.iconst 1, 1) := by decide +kernel
theorem dX12_roped_107 : decode cX12_roped 107 = .ok (.istore 10, 2) := by decide +kernel
theorem dX12_roped_109 : decode cX12_roped 109 = .ok (.iload 10, 2) := by decide +kernel
theorem dX12_roped_111 : decode cX12_roped 111 = .ok (.ifCond .eq 171, 3) := by decide +kernel
theorem dX12_roped_114 : decode cX12_roped 114 = .ok (.iload 9, 2) := by decide +kernel
theorem dX12_roped_116 : decode cX12_roped 116 = .ok (.istore 11, 2) := by decide +kernel
theorem dX12_roped_118 : decode cX12_roped 118 = .ok (.iconst 0, 1) := by decide +kernel
theorem dX12_roped_119 : decode cX12_roped 119 = .ok (.istore 12, 2) := by decide +kernel
theorem dX12_roped_121 : decode cX12_roped 121 = .ok (.iload 12, 2) := by decide +kernel
theorem dX12_roped_123 : decode cX12_roped 123 = .ok (.aload_n 0, 1) := by decide +kernel
theorem dX12_roped_124 : decode cX12_roped 124 = .ok (.getfield 263, 3) := by decide +kernel
theorem dX12_roped_127 : decode cX12_roped 127 = .ok (.if_icmp .ge 134, 3) := by decide +kernel
theorem dX12_roped_130 : decode cX12_roped 130 = .ok (.iload 9, 2) := by decide +kernel
theorem dX12_roped_132 : decode cX12_roped 132 = .ok (.iload 12, 2) := by decide +kernel
theorem dX12_roped_134 : decode cX12_roped 134 = .ok (.ishr, 1) := by decide +kernel
theorem dX12_roped_135 : decode cX12_roped 135 = .ok (.iconst 1, 1) := by decide +kernel
theorem dX12_roped_136 : decode cX12_roped 136 = .ok (.iand, 1) := by decide +kernel
theorem dX12_roped_137 : decode cX12_roped 137 = .ok (.iconst 1, 1) := by decide +kernel
theorem dX12_roped_138 : decode cX12_roped 138 = .ok (.if_icmp .ne 6, 3) := by decide +kernel
theorem dX12_roped_141 : decode cX12_roped 141 = .ok (.goto 114, 3) := by decide +kernel
theorem dX12_roped_144 : decode cX12_roped 144 = .ok (.iconst 0, 1) := by decide +kernel
theorem dX12_roped_145 : decode cX12_roped 145 = .ok (.istore 13, 2) := by decide +kernel
theorem dX12_roped_147 : decode cX12_roped 147 = .ok (.iload 12, 2) := by decide +kernel
theorem dX12_roped_149 : decode cX12_roped 149 = .ok (.iconst 1, 1) := by decide +kernel
theorem dX12_roped_150 : decode cX12_roped 150 = .ok (.isub, 1) := by decide +kernel
theorem dX12_roped_151 : decode cX12_roped 151 = .ok (.istore 14, 2) := by decide +kernel
theorem dX12_roped_153 : decode cX12_roped 153 = .ok (.iload 14, 2) := by decide +kernel
theorem dX12_roped_155 : decode cX12_roped 155 = .ok (.iload 12, 2) := by decide +kernel
theorem dX12_roped_157 : decode cX12_roped 157 = .ok (.iconst 1, 1) := by decide +kernel
theorem dX12_roped_158 : decode cX12_roped 158 = .ok (.iadd, 1) := by decide +kernel
theorem dX12_roped_159 : decode cX12_roped 159 = .ok (.if_icmp .gt 66, 3) := by decide +kernel
theorem dX12_roped_162 : decode cX12_roped 162 = .ok (.iload 14, 2) := by decide +kernel
theorem dX12_roped_164 : decode cX12_roped 164 = .ok (.iconst 0, 1) := by decide +kernel
theorem dX12_roped_165 : decode cX12_roped 165 = .ok (.aload_n 0, 1) := by decide +kernel
theorem dX12_roped_166 : decode cX12_roped 166 = .ok (.getfield 263, 3) := by decide +kernel
theorem dX12_roped_169 : decode cX12_roped 169 = .ok (.iconst 1, 1) := by decide +kernel
theorem dX12_roped_170 : decode cX12_roped 170 = .ok (.isub, 1) := by decide +kernel
theorem dX12_roped_171 : decode cX12_roped 171 = .ok (.invokestatic 110, 3) := by decide +kernel
theorem dX12_roped_174 : decode cX12_roped 174 = .ok (.ifCond .eq 45, 3) := by decide +kernel
theorem dX12_roped_177 : decode cX12_roped 177 = .ok (.iload 9, 2) := by decide +kernel
theorem dX12_roped_179 : decode cX12_roped 179 = .ok (.iload 14, 2) := by decide +kernel
theorem dX12_roped_181 : decode cX12_roped 181 = .ok (.ishr, 1) := by decide +kernel
theorem dX12_roped_182 : decode cX12_roped 182 = .ok (.iconst 1, 1) := by decide +kernel
theorem dX12_roped_183 : decode cX12_roped 183 = .ok (.iand, 1) := by decide +kernel
theorem dX12_roped_184 : decode cX12_roped 184 = .ok (.iconst 1, 1) := by decide +kernel
theorem dX12_roped_185 : decode cX12_roped 185 = .ok (.if_icmp .ne 34, 3) := by decide +kernel
theorem dX12_roped_188 : decode cX12_roped 188 = .ok (.iload 13, 2) := by decide +kernel
theorem dX12_roped_190 : decode cX12_roped 190 = .ok (.aload_n 0, 1) := by decide +kernel
theorem dX12_roped_191 : decode cX12_roped 191 = .ok (.aload_n 0, 1) := by decide +kernel
theorem dX12_roped_192 : decode cX12_roped 192 = .ok (.getfield 73, 3) := by decide +kernel
theorem dX12_roped_195 : decode cX12_roped 195 = .ok (.iload 14, 2) := by decide +kernel
theorem dX12_roped_197 : decode cX12_roped 197 = .ok (.iaload, 1) := by decide +kernel
theorem dX12_roped_198 : decode cX12_roped 198 = .ok (.iload 7, 2) := by decide +kernel
theorem dX12_roped_200 : decode cX12_roped 200 = .ok (.iload 8, 2) := by decide +kernel
theorem dX12_roped_202 : decode cX12_roped 202 = .ok (.iload_n 2, 1) := by decide +kernel
theorem dX12_roped_203 : decode cX12_roped 203 = .ok (.bipush 10, 2) := by decide +kernel
theorem dX12_roped_205 : decode cX12_roped 205 = .ok (.irem, 1) := by decide +kernel
theorem dX12_roped_206 : decode cX12_roped 206 = .ok (.iload 14, 2) := by decide +kernel
theorem dX12_roped_208 : decode cX12_roped 208 = .ok (.invokestatic 279, 3) := by decide +kernel
theorem dX12_roped_211 : decode cX12_roped 211 = .ok (.invokevirtual 282, 3) := by decide +kernel
theorem dX12_roped_214 : decode cX12_roped 214 = .ok (.iconst 2, 1) := by decide +kernel
theorem dX12_roped_215 : decode cX12_roped 215 = .ok (.idiv, 1) := by decide +kernel
theorem dX12_roped_216 : decode cX12_roped 216 = .ok (.iadd, 1) := by decide +kernel
theorem dX12_roped_217 : decode cX12_roped 217 = .ok (.istore 13, 2) := by decide +kernel
theorem dX12_roped_219 : decode cX12_roped 219 = .ok (.iinc 14 2, 3) := by decide +kernel
theorem dX12_roped_222 : decode cX12_roped 222 = .ok (.goto (-69), 3) := by decide +kernel
theorem dX12_roped_225 : decode cX12_roped 225 = .ok (.aload_n 0, 1) := by decide +kernel
theorem dX12_roped_226 : decode cX12_roped 226 = .ok (.iload 4, 2) := by decide +kernel
theorem dX12_roped_228 : decode cX12_roped 228 = .ok (.iload 5, 2) := by decide +kernel
theorem dX12_roped_230 : decode cX12_roped 230 = .ok (.iload 6, 2) := by decide +kernel
theorem dX12_roped_232 : decode cX12_roped 232 = .ok (.iload 12, 2) := by decide +kernel
theorem dX12_roped_234 : decode cX12_roped 234 = .ok (.iload_n 2, 1) := by decide +kernel
theorem dX12_roped_235 : decode cX12_roped 235 = .ok (.bipush 10, 2) := by decide +kernel
theorem dX12_roped_237 : decode cX12_roped 237 = .ok (.irem, 1) := by decide +kernel
theorem dX12_roped_238 : decode cX12_roped 238 = .ok (.invokevirtual 291, 3) := by decide +kernel
theorem dX12_roped_241 : decode cX12_roped 241 = .ok (.iload 13, 2) := by decide +kernel
theorem dX12_roped_243 : decode cX12_roped 243 = .ok (.if_icmp .ge 12, 3) := by decide +kernel
theorem dX12_roped_246 : decode cX12_roped 246 = .ok (.iload 11, 2) := by decide +kernel
theorem dX12_roped_248 : decode cX12_roped 248 = .ok (.iconst 1, 1) := by decide +kernel
theorem dX12_roped_249 : decode cX12_roped 249 = .ok (.iload 12, 2) := by decide +kernel
theorem dX12_roped_251 : decode cX12_roped 251 = .ok (.ishl, 1) := by decide +kernel
theorem dX12_roped_252 : decode cX12_roped 252 = .ok (.ior, 1) := by decide +kernel
theorem dX12_roped_253 : decode cX12_roped 253 = .ok (.istore 11, 2) := by decide +kernel
theorem dX12_roped_255 : decode cX12_roped 255 = .ok (.iinc 12 1, 3) := by decide +kernel
theorem dX12_roped_258 : decode cX12_roped 258 = .ok (.goto (-137), 3) := by decide +kernel
theorem dX12_roped_261 : decode cX12_roped 261 = .ok (.iload 11, 2) := by decide +kernel
theorem dX12_roped_263 : decode cX12_roped 263 = .ok (.iload 9, 2) := by decide +kernel
theorem dX12_roped_265 : decode cX12_roped 265 = .ok (.if_icmp .eq 7, 3) := by decide +kernel
theorem dX12_roped_268 : decode cX12_roped 268 = .ok (.iconst 1, 1) := by decide +kernel
theorem dX12_roped_269 : decode cX12_roped 269 = .ok (.goto 4, 3) := by decide +kernel
theorem dX12_roped_272 : decode cX12_roped 272 = .ok (.iconst 0, 1) := by decide +kernel
theorem dX12_roped_273 : decode cX12_roped 273 = .ok (.istore 10, 2) := by decide +kernel
theorem dX12_roped_275 : decode cX12_roped 275 = .ok (.iload 11, 2) := by decide +kernel
theorem dX12_roped_277 : decode cX12_roped 277 = .ok (.istore 9, 2) := by decide +kernel
theorem dX12_roped_279 : decode cX12_roped 279 = .ok (.goto (-170), 3) := by decide +kernel
theorem dX12_roped_282 : decode cX12_roped 282 = .ok (.iload 9, 2) := by decide +kernel
theorem dX12_roped_284 : decode cX12_roped 284 = .ok (.ireturn, 1) := by decide +kernel
theorem dX12_stick_0 : decode cX12_stick 0 = .ok (.aload_n 0, 1) := by decide +kernel
theorem dX12_stick_1 : decode cX12_stick 1 = .ok (.iload_n 1, 1) := by decide +kernel
theorem dX12_stick_2 : decode cX12_stick 2 = .ok (.invokevirtual 285, 3) := by decide +kernel
theorem dX12_stick_5 : decode cX12_stick 5 = .ok (.ifCond .eq 27, 3) := by decide +kernel
theorem dX12_stick_8 : decode cX12_stick 8 = .ok (.iload_n 2, 1) := by decide +kernel
theorem dX12_stick_9 : decode cX12_stick 9 = .ok (.ifCond .lt 23, 3) := by decide +kernel
theorem dX12_stick_12 : decode cX12_stick 12 = .ok (.iload_n 2, 1) := by decide +kernel
theorem dX12_stick_13 : decode cX12_stick 13 = .ok (.bipush 10, 2) := by decide +kernel
theorem dX12_stick_15 : decode cX12_stick 15 = .ok (.idiv, 1) := by decide +kernel
theorem dX12_stick_16 : decode cX12_stick 16 = .ok (.iconst 1, 1) := by decide +kernel
theorem dX12_stick_17 : decode cX12_stick 17 = .ok (.bipush 99, 2) := by decide +kernel
theorem dX12_stick_19 : decode cX12_stick 19 = .ok (.invokestatic 110, 3) := by decide +kernel
theorem dX12_stick_22 : decode cX12_stick 22 = .ok (.ifCond .eq 10, 3) := by decide +kernel
theorem dX12_stick_25 : decode cX12_stick 25 = .ok (.iload_n 2, 1) := by decide +kernel
theorem dX12_stick_26 : decode cX12_stick 26 = .ok (.bipush 10, 2) := by decide +kernel
theorem dX12_stick_28 : decode cX12_stick 28 = .ok (.irem, 1) := by decide +kernel
theorem dX12_stick_29 : decode cX12_stick 29 = .ok (.ifCond .ne 5, 3) := by decide +kernel
theorem dX12_stick_32 : decode cX12_stick 32 = .ok (.iconst (-1), 1) := by decide +kernel
theorem dX12_stick_33 : decode cX12_stick 33 = .ok (.ireturn, 1) := by decide +kernel
theorem dX12_stick_34 : decode cX12_stick 34 = .ok (.aload_n 0, 1) := by decide +kernel
theorem dX12_stick_35 : decode cX12_stick 35 = .ok (.aload_n 0, 1) := by decide +kernel
theorem dX12_stick_36 : decode cX12_stick 36 = .ok (.getfield 57, 3) := by decide +kernel
theorem dX12_stick_39 : decode cX12_stick 39 = .ok (.iload_n 1, 1) := by decide +kernel
theorem dX12_stick_40 : decode cX12_stick 40 = .ok (.bipush 100, 2) := by decide +kernel
theorem dX12_stick_42 : decode cX12_stick 42 = .ok (.irem, 1) := by decide +kernel
theorem dX12_stick_43 : decode cX12_stick 43 = .ok (.invokevirtual 247, 3) := by decide +kernel
theorem dX12_stick_46 : decode cX12_stick 46 = .ok (.istore_n 3, 1) := by decide +kernel
theorem dX12_stick_47 : decode cX12_stick 47 = .ok (.bipush 10, 2) := by decide +kernel
theorem dX12_stick_49 : decode cX12_stick 49 = .ok (.iload_n 2, 1) := by decide +kernel
theorem dX12_stick_50 : decode cX12_stick 50 = .ok (.bipush 10, 2) := by decide +kernel
theorem dX12_stick_52 : decode cX12_stick 52 = .ok (.idiv, 1) := by decide +kernel
theorem dX12_stick_53 : decode cX12_stick 53 = .ok (.imul, 1) := by decide +kernel
theorem dX12_stick_54 : decode cX12_stick 54 = .ok (.iload_n 2, 1) := by decide +kernel
theorem dX12_stick_55 : decode cX12_stick 55 = .ok (.bipush 10, 2) := by decide +kernel
theorem dX12_stick_57 : decode cX12_stick 57 = .ok (.irem, 1) := by decide +kernel
theorem dX12_stick_58 : decode cX12_stick 58 = .ok (.idiv, 1) := by decide +kernel
theorem dX12_stick_59 : decode cX12_stick 59 = .ok (.istore 4, 2) := by decide +kernel
theorem dX12_stick_61 : decode cX12_stick 61 = .ok (.iconst 0, 1) := by decide +kernel
theorem dX12_stick_62 : decode cX12_stick 62 = .ok (.istore 5, 2) := by decide +kernel
theorem dX12_stick_64 : decode cX12_stick 64 = .ok (.iconst 0, 1) := by decide +kernel
theorem dX12_stick_65 : decode cX12_stick 65 = .ok (.istore 6, 2) := by decide +kernel
theorem dX12_stick_67 : decode cX12_stick 67 = .ok (.iload 6, 2) := by decide +kernel
theorem dX12_stick_69 : decode cX12_stick 69 = .ok (.aload_n 0, 1) := by decide +kernel
theorem dX12_stick_70 : decode cX12_stick 70 = .ok (.getfield 13, 3) := by decide +kernel
theorem dX12_stick_73 : decode cX12_stick 73 = .ok (.iload_n 1, 1) := by decide +kernel
theorem dX12_stick_74 : decode cX12_stick 74 = .ok (.bipush 100, 2) := by decide +kernel
theorem dX12_stick_76 : decode cX12_stick 76 = .ok (.idiv, 1) := by decide +kernel
theorem dX12_stick_77 : decode cX12_stick 77 = .ok (.iaload, 1) := by decide +kernel
theorem dX12_stick_78 : decode cX12_stick 78 = .ok (.if_icmp .ge 39, 3) := by decide +kernel
theorem dX12_stick_81 : decode cX12_stick 81 = .ok (.aload_n 0, 1) := by decide +kernel
theorem dX12_stick_82 : decode cX12_stick 82 = .ok (.iload_n 1, 1) := by decide +kernel
theorem dX12_stick_83 : decode cX12_stick 83 = .ok (.bipush 100, 2) := by decide +kernel
theorem dX12_stick_85 : decode cX12_stick 85 = .ok (.idiv, 1) := by decide +kernel
theorem dX12_stick_86 : decode cX12_stick 86 = .ok (.iload 6, 2) := by decide +kernel
theorem dX12_stick_88 : decode cX12_stick 88 = .ok (.iload_n 3, 1) := by decide +kernel
theorem dX12_stick_89 : decode cX12_stick 89 = .ok (.invokevirtual 254, 3) := by decide +kernel
theorem dX12_stick_92 : decode cX12_stick 92 = .ok (.iload 4, 2) := by decide +kernel
theorem dX12_stick_94 : decode cX12_stick 94 = .ok (.isub, 1) := by decide +kernel
theorem dX12_stick_95 : decode cX12_stick 95 = .ok (.invokestatic 318, 3) := by decide +kernel
theorem dX12_stick_98 : decode cX12_stick 98 = .ok (.iconst 2, 1) := by decide +kernel
theorem dX12_stick_99 : decode cX12_stick 99 = .ok (.if_icmp .gt 12, 3) := by decide +kernel
theorem dX12_stick_102 : decode cX12_stick 102 = .ok (.iload 5, 2) := by decide +kernel
theorem dX12_stick_104 : decode cX12_stick 104 = .ok (.iconst 1, 1) := by decide +kernel
theorem dX12_stick_105 : decode cX12_stick 105 = .ok (.iload 6, 2) := by decide +kernel
theorem dX12_stick_107 : decode cX12_stick 107 = .ok (.ishl, 1) := by decide +kernel
theorem dX12_stick_108 : decode cX12_stick 108 = .ok (.ior, 1) := by decide +kernel
theorem dX12_stick_109 : decode cX12_stick 109 = .ok (.istore 5, 2) := by decide +kernel
theorem dX12_stick_111 : decode cX12_stick 111 = .ok (.iinc 6 1, 3) := by decide +kernel
theorem dX12_stick_114 : decode cX12_stick 114 = .ok (.goto (-47), 3) := by decide +kernel
theorem dX12_stick_117 : decode cX12_stick 117 = .ok (.iload 5, 2) := by decide +kernel
theorem dX12_stick_119 : decode cX12_stick 119 = .ok (.ireturn, 1) := by decide +kernel
theorem dX12_isNotch_0 : decode cX12_isNotch 0 = .ok (.iload_n 1, 1) := by decide +kernel
theorem dX12_isNotch_1 : decode cX12_isNotch 1 = .ok (.aload_n 0, 1) := by decide +kernel
theorem dX12_isNotch_2 : decode cX12_isNotch 2 = .ok (.getfield 321, 3) := by decide +kernel
theorem dX12_isNotch_5 : decode cX12_isNotch 5 = .ok (.ifCond .ne 7, 3) := by decide +kernel
theorem dX12_isNotch_8 : decode cX12_isNotch 8 = .ok (.iconst 0, 1) := by decide +kernel
theorem dX12_isNotch_9 : decode cX12_isNotch 9 = .ok (.goto 16, 3) := by decide +kernel
theorem dX12_isNotch_12 : decode cX12_isNotch 12 = .ok (.aload_n 0, 1) := by decide +kernel
theorem dX12_isNotch_13 : decode cX12_isNotch 13 = .ok (.getfield 82, 3) := by decide +kernel
theorem dX12_isNotch_16 : decode cX12_isNotch 16 = .ok (.aload_n 0, 1) := by decide +kernel
theorem dX12_isNotch_17 : decode cX12_isNotch 17 = .ok (.getfield 321, 3) := by decide +kernel
theorem dX12_isNotch_20 : decode cX12_isNotch 20 = .ok (.iconst 1, 1) := by decide +kernel
theorem dX12_isNotch_21 : decode cX12_isNotch 21 = .ok (.isub, 1) := by decide +kernel
theorem dX12_isNotch_22 : decode cX12_isNotch 22 = .ok (.iaload, 1) := by decide +kernel
theorem dX12_isNotch_23 : decode cX12_isNotch 23 = .ok (.iconst 1, 1) := by decide +kernel
theorem dX12_isNotch_24 : decode cX12_isNotch 24 = .ok (.iadd, 1) := by decide +kernel
theorem dX12_isNotch_25 : decode cX12_isNotch 25 = .ok (.bipush 47, 2) := by decide +kernel
theorem dX12_isNotch_27 : decode cX12_isNotch 27 = .ok (.invokestatic 110, 3) := by decide +kernel
theorem dX12_isNotch_30 : decode cX12_isNotch 30 = .ok (.ifCond .eq 18, 3) := by decide +kernel
theorem dX12_isNotch_33 : decode cX12_isNotch 33 = .ok (.iload_n 2, 1) := by decide +kernel
theorem dX12_isNotch_34 : decode cX12_isNotch 34 = .ok (.bipush (-20), 2) := by decide +kernel
theorem dX12_isNotch_36 : decode cX12_isNotch 36 = .ok (.bipush 60, 2) := by decide +kernel
theorem dX12_isNotch_38 : decode cX12_isNotch 38 = .ok (.invokestatic 110, 3) := by decide +kernel
theorem dX12_isNotch_41 : decode cX12_isNotch 41 = .ok (.ifCond .eq 7, 3) := by decide +kernel
theorem dX12_isNotch_44 : decode cX12_isNotch 44 = .ok (.iconst 1, 1) := by decide +kernel
theorem dX12_isNotch_45 : decode cX12_isNotch 45 = .ok (.goto 4, 3) := by decide +kernel
theorem dX12_isNotch_48 : decode cX12_isNotch 48 = .ok (.iconst 0, 1) := by decide +kernel
theorem dX12_isNotch_49 : decode cX12_isNotch 49 = .ok (.ireturn, 1) := by decide +kernel
theorem dX12_addNotch_0 : decode cX12_addNotch 0 = .ok (.aload_n 0, 1) := by decide +kernel
theorem dX12_addNotch_1 : decode cX12_addNotch 1 = .ok (.getfield 82, 3) := by decide +kernel
theorem dX12_addNotch_4 : decode cX12_addNotch 4 = .ok (.aload_n 0, 1) := by decide +kernel
theorem dX12_addNotch_5 : decode cX12_addNotch 5 = .ok (.getfield 321, 3) := by decide +kernel
theorem dX12_addNotch_8 : decode cX12_addNotch 8 = .ok (.iload_n 1, 1) := by decide +kernel
theorem dX12_addNotch_9 : decode cX12_addNotch 9 = .ok (.iastore, 1) := by decide +kernel
theorem dX12_addNotch_10 : decode cX12_addNotch 10 = .ok (.aload_n 0, 1) := by decide +kernel
theorem dX12_addNotch_11 : decode cX12_addNotch 11 = .ok (.getfield 85, 3) := by decide +kernel
theorem dX12_addNotch_14 : decode cX12_addNotch 14 = .ok (.aload_n 0, 1) := by decide +kernel
theorem dX12_addNotch_15 : decode cX12_addNotch 15 = .ok (.getfield 321, 3) := by decide +kernel
theorem dX12_addNotch_18 : decode cX12_addNotch 18 = .ok (.iload_n 2, 1) := by decide +kernel
theorem dX12_addNotch_19 : decode cX12_addNotch 19 = .ok (.iastore, 1) := by decide +kernel
theorem dX12_addNotch_20 : decode cX12_addNotch 20 = .ok (.aload_n 0, 1) := by decide +kernel
theorem dX12_addNotch_21 : decode cX12_addNotch 21 = .ok (.dup, 1) := by decide +kernel
theorem dX12_addNotch_22 : decode cX12_addNotch 22 = .ok (.getfield 321, 3) := by decide +kernel
theorem dX12_addNotch_25 : decode cX12_addNotch 25 = .ok (.iconst 1, 1) := by decide +kernel
theorem dX12_addNotch_26 : decode cX12_addNotch 26 = .ok (.iadd, 1) := by decide +kernel
theorem dX12_addNotch_27 : decode cX12_addNotch 27 = .ok (.putfield 321, 3) := by decide +kernel
theorem dX12_addNotch_30 : decode cX12_addNotch 30 = .ok (.return_, 1) := by decide +kernel
theorem dX12_notch_0 : decode cX12_notch 0 = .ok (.aload_n 0, 1) := by decide +kernel
theorem dX12_notch_1 : decode cX12_notch 1 = .ok (.iload_n 1, 1) := by decide +kernel
theorem dX12_notch_2 : decode cX12_notch 2 = .ok (.iload_n 2, 1) := by decide +kernel
theorem dX12_notch_3 : decode cX12_notch 3 = .ok (.invokevirtual 324, 3) := by decide +kernel
theorem dX12_notch_6 : decode cX12_notch 6 = .ok (.ifCond .ne 5, 3) := by decide +kernel
theorem dX12_notch_9 : decode cX12_notch 9 = .ok (.iconst (-1), 1) := by decide +kernel
theorem dX12_notch_10 : decode cX12_notch 10 = .ok (.ireturn, 1) := by decide +kernel
theorem dX12_notch_11 : decode cX12_notch 11 = .ok (.aload_n 0, 1) := by decide +kernel
theorem dX12_notch_12 : decode cX12_notch 12 = .ok (.getfield 321, 3) := by decide +kernel
theorem dX12_notch_15 : decode cX12_notch 15 = .ok (.bipush 20, 2) := by decide +kernel
theorem dX12_notch_17 : decode cX12_notch 17 = .ok (.if_icmp .ne 6, 3) := by decide +kernel
theorem dX12_notch_20 : decode cX12_notch 20 = .ok (.bipush (-3), 2) := by decide +kernel
theorem dX12_notch_22 : decode cX12_notch 22 = .ok (.ireturn, 1) := by decide +kernel
theorem dX12_notch_23 : decode cX12_notch 23 = .ok (.aload_n 0, 1) := by decide +kernel
theorem dX12_notch_24 : decode cX12_notch 24 = .ok (.iload_n 1, 1) := by decide +kernel
theorem dX12_notch_25 : decode cX12_notch 25 = .ok (.iload_n 2, 1) := by decide +kernel
theorem dX12_notch_26 : decode cX12_notch 26 = .ok (.invokevirtual 327, 3) := by decide +kernel
theorem dX12_notch_29 : decode cX12_notch 29 = .ok (.aload_n 0, 1) := by decide +kernel
theorem dX12_notch_30 : decode cX12_notch 30 = .ok (.getfield 321, 3) := by decide +kernel
theorem dX12_notch_33 : decode cX12_notch 33 = .ok (.iconst 1, 1) := by decide +kernel
theorem dX12_notch_34 : decode cX12_notch 34 = .ok (.isub, 1) := by decide +kernel
theorem dX12_notch_35 : decode cX12_notch 35 = .ok (.ireturn, 1) := by decide +kernel
theorem dX12_notches_0 : decode cX12_notches 0 = .ok (.iload_n 1, 1) := by decide +kernel
theorem dX12_notches_1 : decode cX12_notches 1 = .ok (.invokestatic 330, 3) := by decide +kernel
theorem dX12_notches_4 : decode cX12_notches 4 = .ok (.ifCond .eq 13, 3) := by decide +kernel
theorem dX12_notches_7 : decode cX12_notches 7 = .ok (.iload_n 3, 1) := by decide +kernel
theorem dX12_notches_8 : decode cX12_notches 8 = .ok (.iconst 1, 1) := by decide +kernel
theorem dX12_notches_9 : decode cX12_notches 9 = .ok (.bipush 20, 2) := by decide +kernel
theorem dX12_notches_11 : decode cX12_notches 11 = .ok (.invokestatic 110, 3) := by decide +kernel
theorem dX12_notches_14 : decode cX12_notches 14 = .ok (.ifCond .ne 5, 3) := by decide +kernel
theorem dX12_notches_17 : decode cX12_notches 17 = .ok (.iconst (-1), 1) := by decide +kernel
theorem dX12_notches_18 : decode cX12_notches 18 = .ok (.ireturn, 1) := by decide +kernel
theorem dX12_notches_19 : decode cX12_notches 19 = .ok (.aload_n 0, 1) := by decide +kernel
theorem dX12_notches_20 : decode cX12_notches 20 = .ok (.getfield 94, 3) := by decide +kernel
theorem dX12_notches_23 : decode cX12_notches 23 = .ok (.iload_n 1, 1) := by decide +kernel
theorem dX12_notches_24 : decode cX12_notches 24 = .ok (.iaload, 1) := by decide +kernel
theorem dX12_notches_25 : decode cX12_notches 25 = .ok (.iconst (-1), 1) := by decide +kernel
theorem dX12_notches_26 : decode cX12_notches 26 = .ok (.if_icmp .eq 17, 3) := by decide +kernel
theorem dX12_notches_29 : decode cX12_notches 29 = .ok (.aload_n 0, 1) := by decide +kernel
theorem dX12_notches_30 : decode cX12_notches 30 = .ok (.getfield 94, 3) := by decide +kernel
theorem dX12_notches_33 : decode cX12_notches 33 = .ok (.iload_n 1, 1) := by decide +kernel
theorem dX12_notches_34 : decode cX12_notches 34 = .ok (.iaload, 1) := by decide +kernel
theorem dX12_notches_35 : decode cX12_notches 35 = .ok (.bipush (-2), 2) := by decide +kernel
theorem dX12_notches_37 : decode cX12_notches 37 = .ok (.if_icmp .eq 6, 3) := by decide +kernel
theorem dX12_notches_40 : decode cX12_notches 40 = .ok (.bipush (-12), 2) := by decide +kernel
theorem dX12_notches_42 : decode cX12_notches 42 = .ok (.ireturn, 1) := by decide +kernel
theorem dX12_notches_43 : decode cX12_notches 43 = .ok (.aload_n 0, 1) := by decide +kernel
theorem dX12_notches_44 : decode cX12_notches 44 = .ok (.getfield 94, 3) := by decide +kernel
theorem dX12_notches_47 : decode cX12_notches 47 = .ok (.iload_n 1, 1) := by decide +kernel
theorem dX12_notches_48 : decode cX12_notches 48 = .ok (.iaload, 1) := by decide +kernel
theorem dX12_notches_49 : decode cX12_notches 49 = .ok (.iconst (-1), 1) := by decide +kernel
theorem dX12_notches_50 : decode cX12_notches 50 = .ok (.if_icmp .ne 5, 3) := by decide +kernel
theorem dX12_notches_53 : decode cX12_notches 53 = .ok (.iconst 0, 1) := by decide +kernel
theorem dX12_notches_54 : decode cX12_notches 54 = .ok (.ireturn, 1) := by decide +kernel
theorem dX12_notches_55 : decode cX12_notches 55 = .ok (.iconst 0, 1) := by decide +kernel
theorem dX12_notches_56 : decode cX12_notches 56 = .ok (.istore 4, 2) := by decide +kernel
theorem dX12_notches_58 : decode cX12_notches 58 = .ok (.iload 4, 2) := by decide +kernel
theorem dX12_notches_60 : decode cX12_notches 60 = .ok (.iload_n 3, 1) := by decide +kernel
theorem dX12_notches_61 : decode cX12_notches 61 = .ok (.if_icmp .ge 113, 3) := by decide +kernel
theorem dX12_notches_64 : decode cX12_notches 64 = .ok (.iload_n 2, 1) := by decide +kernel
theorem dX12_notches_65 : decode cX12_notches 65 = .ok (.i2l, 1) := by decide +kernel
theorem dX12_notches_66 : decode cX12_notches 66 = .ok (.iconst 2, 1) := by decide +kernel
theorem dX12_notches_67 : decode cX12_notches 67 = .ok (.iload 4, 2) := by decide +kernel
theorem dX12_notches_69 : decode cX12_notches 69 = .ok (.imul, 1) := by decide +kernel
theorem dX12_notches_70 : decode cX12_notches 70 = .ok (.i2l, 1) := by decide +kernel
theorem dX12_notches_71 : decode cX12_notches 71 = .ok (.ladd, 1) := by decide +kernel
theorem dX12_notches_72 : decode cX12_notches 72 = .ok (.lstore 5, 2) := by decide +kernel
theorem dX12_notches_74 : decode cX12_notches 74 = .ok (.lload 5, 2) := by decide +kernel
theorem dX12_notches_76 : decode cX12_notches 76 = .ok (.lconst 0, 1) := by decide +kernel
theorem dX12_notches_77 : decode cX12_notches 77 = .ok (.lcmp, 1) := by decide +kernel
theorem dX12_notches_78 : decode cX12_notches 78 = .ok (.ifCond .lt 27, 3) := by decide +kernel
theorem dX12_notches_81 : decode cX12_notches 81 = .ok (.lload 5, 2) := by decide +kernel
theorem dX12_notches_83 : decode cX12_notches 83 = .ok (.lconst 1, 1) := by decide +kernel
theorem dX12_notches_84 : decode cX12_notches 84 = .ok (.ladd, 1) := by decide +kernel
theorem dX12_notches_85 : decode cX12_notches 85 = .ok (.aload_n 0, 1) := by decide +kernel
theorem dX12_notches_86 : decode cX12_notches 86 = .ok (.getfield 97, 3) := by decide +kernel
theorem dX12_notches_89 : decode cX12_notches 89 = .ok (.iload_n 1, 1) := by decide +kernel
theorem dX12_notches_90 : decode cX12_notches 90 = .ok (.iaload, 1) := by decide +kernel
theorem dX12_notches_91 : decode cX12_notches 91 = .ok (.i2l, 1) := by decide +kernel
theorem dX12_notches_92 : decode cX12_notches 92 = .ok (.lcmp, 1) := by decide +kernel
theorem dX12_notches_93 : decode cX12_notches 93 = .ok (.ifCond .ge 12, 3) := by decide +kernel
theorem dX12_notches_96 : decode cX12_notches 96 = .ok (.aload_n 0, 1) := by decide +kernel
theorem dX12_notches_97 : decode cX12_notches 97 = .ok (.getfield 321, 3) := by decide +kernel
theorem dX12_notches_100 : decode cX12_notches 100 = .ok (.bipush 20, 2) := by decide +kernel
theorem dX12_notches_102 : decode cX12_notches 102 = .ok (.if_icmp .ne 6, 3) := by decide +kernel
theorem dX12_notches_105 : decode cX12_notches 105 = .ok (.iload 4, 2) := by decide +kernel
theorem dX12_notches_107 : decode cX12_notches 107 = .ok (.ireturn, 1) := by decide +kernel
theorem dX12_notches_108 : decode cX12_notches 108 = .ok (.bipush 60, 2) := by decide +kernel
theorem dX12_notches_110 : decode cX12_notches 110 = .ok (.iload_n 1, 1) := by decide +kernel
theorem dX12_notches_111 : decode cX12_notches 111 = .ok (.imul, 1) := by decide +kernel
theorem dX12_notches_112 : decode cX12_notches 112 = .ok (.lload 5, 2) := by decide +kernel
theorem dX12_notches_114 : decode cX12_notches 114 = .ok (.l2i, 1) := by decide +kernel
theorem dX12_notches_115 : decode cX12_notches 115 = .ok (.iadd, 1) := by decide +kernel
theorem dX12_notches_116 : decode cX12_notches 116 = .ok (.istore 7, 2) := by decide +kernel
theorem dX12_notches_118 : decode cX12_notches 118 = .ok (.aload_n 0, 1) := by decide +kernel
theorem dX12_notches_119 : decode cX12_notches 119 = .ok (.aload_n 0, 1) := by decide +kernel
theorem dX12_notches_120 : decode cX12_notches 120 = .ok (.getfield 100, 3) := by decide +kernel
theorem dX12_notches_123 : decode cX12_notches 123 = .ok (.iload 7, 2) := by decide +kernel
theorem dX12_notches_125 : decode cX12_notches 125 = .ok (.laload, 1) := by decide +kernel
theorem dX12_notches_126 : decode cX12_notches 126 = .ok (.l2i, 1) := by decide +kernel
theorem dX12_notches_127 : decode cX12_notches 127 = .ok (.aload_n 0, 1) := by decide +kernel
theorem dX12_notches_128 : decode cX12_notches 128 = .ok (.getfield 100, 3) := by decide +kernel
theorem dX12_notches_131 : decode cX12_notches 131 = .ok (.iload 7, 2) := by decide +kernel
theorem dX12_notches_133 : decode cX12_notches 133 = .ok (.iconst 1, 1) := by decide +kernel
theorem dX12_notches_134 : decode cX12_notches 134 = .ok (.iadd, 1) := by decide +kernel
theorem dX12_notches_135 : decode cX12_notches 135 = .ok (.laload, 1) := by decide +kernel
theorem dX12_notches_136 : decode cX12_notches 136 = .ok (.l2i, 1) := by decide +kernel
theorem dX12_notches_137 : decode cX12_notches 137 = .ok (.invokevirtual 324, 3) := by decide +kernel
theorem dX12_notches_140 : decode cX12_notches 140 = .ok (.ifCond .ne 6, 3) := by decide +kernel
theorem dX12_notches_143 : decode cX12_notches 143 = .ok (.iload 4, 2) := by decide +kernel
theorem dX12_notches_145 : decode cX12_notches 145 = .ok (.ireturn, 1) := by decide +kernel
theorem dX12_notches_146 : decode cX12_notches 146 = .ok (.aload_n 0, 1) := by decide +kernel
theorem dX12_notches_147 : decode cX12_notches 147 = .ok (.aload_n 0, 1) := by decide +kernel
theorem dX12_notches_148 : decode cX12_notches 148 = .ok (.getfield 100, 3) := by decide +kernel
theorem dX12_notches_151 : decode cX12_notches 151 = .ok (.iload 7, 2) := by decide +kernel
theorem dX12_notches_153 : decode cX12_notches 153 = .ok (.laload, 1) := by decide +kernel
theorem dX12_notches_154 : decode cX12_notches 154 = .ok (.l2i, 1) := by decide +kernel
theorem dX12_notches_155 : decode cX12_notches 155 = .ok (.aload_n 0, 1) := by decide +kernel
theorem dX12_notches_156 : decode cX12_notches 156 = .ok (.getfield 100, 3) := by decide +kernel
theorem dX12_notches_159 : decode cX12_notches 159 = .ok (.iload 7, 2) := by decide +kernel
theorem dX12_notches_161 : decode cX12_notches 161 = .ok (.iconst 1, 1) := by decide +kernel
theorem dX12_notches_162 : decode cX12_notches 162 = .ok (.iadd, 1) := by decide +kernel
theorem dX12_notches_163 : decode cX12_notches 163 = .ok (.laload, 1) := by decide +kernel
theorem dX12_notches_164 : decode cX12_notches 164 = .ok (.l2i, 1) := by decide +kernel
theorem dX12_notches_165 : decode cX12_notches 165 = .ok (.invokevirtual 327, 3) := by decide +kernel
theorem dX12_notches_168 : decode cX12_notches 168 = .ok (.iinc 4 1, 3) := by decide +kernel
theorem dX12_notches_171 : decode cX12_notches 171 = .ok (.goto (-113), 3) := by decide +kernel
theorem dX12_notches_174 : decode cX12_notches 174 = .ok (.iload_n 3, 1) := by decide +kernel
theorem dX12_notches_175 : decode cX12_notches 175 = .ok (.ireturn, 1) := by decide +kernel
theorem dX12_offOf_0 : decode cX12_offOf 0 = .ok (.iconst 0, 1) := by decide +kernel
theorem dX12_offOf_1 : decode cX12_offOf 1 = .ok (.istore_n 2, 1) := by decide +kernel
theorem dX12_offOf_2 : decode cX12_offOf 2 = .ok (.iconst 0, 1) := by decide +kernel
theorem dX12_offOf_3 : decode cX12_offOf 3 = .ok (.istore_n 3, 1) := by decide +kernel
theorem dX12_offOf_4 : decode cX12_offOf 4 = .ok (.iload_n 3, 1) := by decide +kernel
theorem dX12_offOf_5 : decode cX12_offOf 5 = .ok (.aload_n 0, 1) := by decide +kernel
theorem dX12_offOf_6 : decode cX12_offOf 6 = .ok (.getfield 321, 3) := by decide +kernel
theorem dX12_offOf_9 : decode cX12_offOf 9 = .ok (.if_icmp .ge 33, 3) := by decide +kernel
theorem dX12_offOf_12 : decode cX12_offOf 12 = .ok (.iload_n 2, 1) := by decide +kernel
theorem dX12_offOf_13 : decode cX12_offOf 13 = .ok (.aload_n 0, 1) := by decide +kernel
theorem dX12_offOf_14 : decode cX12_offOf 14 = .ok (.iload_n 1, 1) := by decide +kernel
theorem dX12_offOf_15 : decode cX12_offOf 15 = .ok (.aload_n 0, 1) := by decide +kernel
theorem dX12_offOf_16 : decode cX12_offOf 16 = .ok (.getfield 82, 3) := by decide +kernel
theorem dX12_offOf_19 : decode cX12_offOf 19 = .ok (.iload_n 3, 1) := by decide +kernel
theorem dX12_offOf_20 : decode cX12_offOf 20 = .ok (.iaload, 1) := by decide +kernel
theorem dX12_offOf_21 : decode cX12_offOf 21 = .ok (.invokevirtual 247, 3) := by decide +kernel
theorem dX12_offOf_24 : decode cX12_offOf 24 = .ok (.aload_n 0, 1) := by decide +kernel
theorem dX12_offOf_25 : decode cX12_offOf 25 = .ok (.getfield 85, 3) := by decide +kernel
theorem dX12_offOf_28 : decode cX12_offOf 28 = .ok (.iload_n 3, 1) := by decide +kernel
theorem dX12_offOf_29 : decode cX12_offOf 29 = .ok (.iaload, 1) := by decide +kernel
theorem dX12_offOf_30 : decode cX12_offOf 30 = .ok (.isub, 1) := by decide +kernel
theorem dX12_offOf_31 : decode cX12_offOf 31 = .ok (.invokestatic 318, 3) := by decide +kernel
theorem dX12_offOf_34 : decode cX12_offOf 34 = .ok (.iadd, 1) := by decide +kernel
theorem dX12_offOf_35 : decode cX12_offOf 35 = .ok (.istore_n 2, 1) := by decide +kernel
theorem dX12_offOf_36 : decode cX12_offOf 36 = .ok (.iinc 3 1, 3) := by decide +kernel
theorem dX12_offOf_39 : decode cX12_offOf 39 = .ok (.goto (-35), 3) := by decide +kernel
theorem dX12_offOf_42 : decode cX12_offOf 42 = .ok (.iload_n 2, 1) := by decide +kernel
theorem dX12_offOf_43 : decode cX12_offOf 43 = .ok (.ireturn, 1) := by decide +kernel
theorem dX12_off_0 : decode cX12_off 0 = .ok (.aload_n 0, 1) := by decide +kernel
theorem dX12_off_1 : decode cX12_off 1 = .ok (.iload_n 1, 1) := by decide +kernel
theorem dX12_off_2 : decode cX12_off 2 = .ok (.invokevirtual 229, 3) := by decide +kernel
theorem dX12_off_5 : decode cX12_off 5 = .ok (.ifCond .ne 7, 3) := by decide +kernel
theorem dX12_off_8 : decode cX12_off 8 = .ok (.iconst (-1), 1) := by decide +kernel
theorem dX12_off_9 : decode cX12_off 9 = .ok (.goto 20, 3) := by decide +kernel
theorem dX12_off_12 : decode cX12_off 12 = .ok (.aload_n 0, 1) := by decide +kernel
theorem dX12_off_13 : decode cX12_off 13 = .ok (.getfield 321, 3) := by decide +kernel
theorem dX12_off_16 : decode cX12_off 16 = .ok (.ifCond .ne 8, 3) := by decide +kernel
theorem dX12_off_19 : decode cX12_off 19 = .ok (.bipush (-5), 2) := by decide +kernel
theorem dX12_off_21 : decode cX12_off 21 = .ok (.goto 8, 3) := by decide +kernel
theorem dX12_off_24 : decode cX12_off 24 = .ok (.aload_n 0, 1) := by decide +kernel
theorem dX12_off_25 : decode cX12_off 25 = .ok (.iload_n 1, 1) := by decide +kernel
theorem dX12_off_26 : decode cX12_off 26 = .ok (.invokevirtual 333, 3) := by decide +kernel
theorem dX12_off_29 : decode cX12_off 29 = .ok (.ireturn, 1) := by decide +kernel
theorem dX12_fit_0 : decode cX12_fit 0 = .ok (.aload_n 0, 1) := by decide +kernel
theorem dX12_fit_1 : decode cX12_fit 1 = .ok (.getfield 321, 3) := by decide +kernel
theorem dX12_fit_4 : decode cX12_fit 4 = .ok (.ifCond .eq 10, 3) := by decide +kernel
theorem dX12_fit_7 : decode cX12_fit 7 = .ok (.aload_n 0, 1) := by decide +kernel
theorem dX12_fit_8 : decode cX12_fit 8 = .ok (.getfield 223, 3) := by decide +kernel
theorem dX12_fit_11 : decode cX12_fit 11 = .ok (.ifCond .ne 6, 3) := by decide +kernel
theorem dX12_fit_14 : decode cX12_fit 14 = .ok (.bipush (-5), 2) := by decide +kernel
theorem dX12_fit_16 : decode cX12_fit 16 = .ok (.ireturn, 1) := by decide +kernel
theorem dX12_fit_17 : decode cX12_fit 17 = .ok (.iconst 0, 1) := by decide +kernel
theorem dX12_fit_18 : decode cX12_fit 18 = .ok (.istore_n 1, 1) := by decide +kernel
theorem dX12_fit_19 : decode cX12_fit 19 = .ok (.iconst 1, 1) := by decide +kernel
theorem dX12_fit_20 : decode cX12_fit 20 = .ok (.istore_n 2, 1) := by decide +kernel
theorem dX12_fit_21 : decode cX12_fit 21 = .ok (.iload_n 2, 1) := by decide +kernel
theorem dX12_fit_22 : decode cX12_fit 22 = .ok (.aload_n 0, 1) := by decide +kernel
theorem dX12_fit_23 : decode cX12_fit 23 = .ok (.getfield 223, 3) := by decide +kernel
theorem dX12_fit_26 : decode cX12_fit 26 = .ok (.if_icmp .ge 24, 3) := by decide +kernel
theorem dX12_fit_29 : decode cX12_fit 29 = .ok (.aload_n 0, 1) := by decide +kernel
theorem dX12_fit_30 : decode cX12_fit 30 = .ok (.iload_n 2, 1) := by decide +kernel
theorem dX12_fit_31 : decode cX12_fit 31 = .ok (.invokevirtual 333, 3) := by decide +kernel
theorem dX12_fit_34 : decode cX12_fit 34 = .ok (.aload_n 0, 1) := by decide +kernel
theorem dX12_fit_35 : decode cX12_fit 35 = .ok (.iload_n 1, 1) := by decide +kernel
theorem dX12_fit_36 : decode cX12_fit 36 = .ok (.invokevirtual 333, 3) := by decide +kernel
theorem dX12_fit_39 : decode cX12_fit 39 = .ok (.if_icmp .ge 5, 3) := by decide +kernel
theorem dX12_fit_42 : decode cX12_fit 42 = .ok (.iload_n 2, 1) := by decide +kernel
theorem dX12_fit_43 : decode cX12_fit 43 = .ok (.istore_n 1, 1) := by decide +kernel
theorem dX12_fit_44 : decode cX12_fit 44 = .ok (.iinc 2 1, 3) := by decide +kernel
theorem dX12_fit_47 : decode cX12_fit 47 = .ok (.goto (-26), 3) := by decide +kernel
theorem dX12_fit_50 : decode cX12_fit 50 = .ok (.iload_n 1, 1) := by decide +kernel
theorem dX12_fit_51 : decode cX12_fit 51 = .ok (.ireturn, 1) := by decide +kernel
theorem dX12_isBody_0 : decode cX12_isBody 0 = .ok (.iload_n 1, 1) := by decide +kernel
theorem dX12_isBody_1 : decode cX12_isBody 1 = .ok (.iconst 0, 1) := by decide +kernel
theorem dX12_isBody_2 : decode cX12_isBody 2 = .ok (.aload_n 0, 1) := by decide +kernel
theorem dX12_isBody_3 : decode cX12_isBody 3 = .ok (.getfield 336, 3) := by decide +kernel
theorem dX12_isBody_6 : decode cX12_isBody 6 = .ok (.iconst 1, 1) := by decide +kernel
theorem dX12_isBody_7 : decode cX12_isBody 7 = .ok (.isub, 1) := by decide +kernel
theorem dX12_isBody_8 : decode cX12_isBody 8 = .ok (.invokestatic 110, 3) := by decide +kernel
theorem dX12_isBody_11 : decode cX12_isBody 11 = .ok (.ireturn, 1) := by decide +kernel
theorem dX12_ran_0 : decode cX12_ran 0 = .ok (.aload_n 0, 1) := by decide +kernel
theorem dX12_ran_1 : decode cX12_ran 1 = .ok (.getfield 339, 3) := by decide +kernel
theorem dX12_ran_4 : decode cX12_ran 4 = .ok (.bipush 24, 2) := by decide +kernel
theorem dX12_ran_6 : decode cX12_ran 6 = .ok (.if_icmp .ge 13, 3) := by decide +kernel
theorem dX12_ran_9 : decode cX12_ran 9 = .ok (.aload_n 0, 1) := by decide +kernel
theorem dX12_ran_10 : decode cX12_ran 10 = .ok (.getfield 91, 3) := by decide +kernel
theorem dX12_ran_13 : decode cX12_ran 13 = .ok (.aload_n 0, 1) := by decide +kernel
theorem dX12_ran_14 : decode cX12_ran 14 = .ok (.getfield 339, 3) := by decide +kernel
theorem dX12_ran_17 : decode cX12_ran 17 = .ok (.iload_n 1, 1) := by decide +kernel
theorem dX12_ran_18 : decode cX12_ran 18 = .ok (.iastore, 1) := by decide +kernel
theorem dX12_ran_19 : decode cX12_ran 19 = .ok (.aload_n 0, 1) := by decide +kernel
theorem dX12_ran_20 : decode cX12_ran 20 = .ok (.dup, 1) := by decide +kernel
theorem dX12_ran_21 : decode cX12_ran 21 = .ok (.getfield 339, 3) := by decide +kernel
theorem dX12_ran_24 : decode cX12_ran 24 = .ok (.iconst 1, 1) := by decide +kernel
theorem dX12_ran_25 : decode cX12_ran 25 = .ok (.iadd, 1) := by decide +kernel
theorem dX12_ran_26 : decode cX12_ran 26 = .ok (.putfield 339, 3) := by decide +kernel
theorem dX12_ran_29 : decode cX12_ran 29 = .ok (.return_, 1) := by decide +kernel
theorem dX12_trace_0 : decode cX12_trace 0 = .ok (.iload_n 1, 1) := by decide +kernel
theorem dX12_trace_1 : decode cX12_trace 1 = .ok (.ifCond .lt 26, 3) := by decide +kernel
theorem dX12_trace_4 : decode cX12_trace 4 = .ok (.iload_n 1, 1) := by decide +kernel
theorem dX12_trace_5 : decode cX12_trace 5 = .ok (.aload_n 0, 1) := by decide +kernel
theorem dX12_trace_6 : decode cX12_trace 6 = .ok (.getfield 339, 3) := by decide +kernel
theorem dX12_trace_9 : decode cX12_trace 9 = .ok (.if_icmp .ge 18, 3) := by decide +kernel
theorem dX12_trace_12 : decode cX12_trace 12 = .ok (.iload_n 1, 1) := by decide +kernel
theorem dX12_trace_13 : decode cX12_trace 13 = .ok (.bipush 24, 2) := by decide +kernel
theorem dX12_trace_15 : decode cX12_trace 15 = .ok (.if_icmp .ge 12, 3) := by decide +kernel
theorem dX12_trace_18 : decode cX12_trace 18 = .ok (.aload_n 0, 1) := by decide +kernel
theorem dX12_trace_19 : decode cX12_trace 19 = .ok (.getfield 91, 3) := by decide +kernel
theorem dX12_trace_22 : decode cX12_trace 22 = .ok (.iload_n 1, 1) := by decide +kernel
theorem dX12_trace_23 : decode cX12_trace 23 = .ok (.iaload, 1) := by decide +kernel
theorem dX12_trace_24 : decode cX12_trace 24 = .ok (.goto 4, 3) := by decide +kernel
theorem dX12_trace_27 : decode cX12_trace 27 = .ok (.iconst (-1), 1) := by decide +kernel
theorem dX12_trace_28 : decode cX12_trace 28 = .ok (.ireturn, 1) := by decide +kernel
theorem dX12_body_0 : decode cX12_body 0 = .ok (.iload_n 1, 1) := by decide +kernel
theorem dX12_body_1 : decode cX12_body 1 = .ok (.iconst 0, 1) := by decide +kernel
theorem dX12_body_2 : decode cX12_body 2 = .ok (.bipush 7, 2) := by decide +kernel
theorem dX12_body_4 : decode cX12_body 4 = .ok (.invokestatic 110, 3) := by decide +kernel
theorem dX12_body_7 : decode cX12_body 7 = .ok (.ifCond .ne 5, 3) := by decide +kernel
theorem dX12_body_10 : decode cX12_body 10 = .ok (.iconst (-1), 1) := by decide +kernel
theorem dX12_body_11 : decode cX12_body 11 = .ok (.ireturn, 1) := by decide +kernel
theorem dX12_body_12 : decode cX12_body 12 = .ok (.aload_n 0, 1) := by decide +kernel
theorem dX12_body_13 : decode cX12_body 13 = .ok (.getfield 336, 3) := by decide +kernel
theorem dX12_body_16 : decode cX12_body 16 = .ok (.bipush 50, 2) := by decide +kernel
theorem dX12_body_18 : decode cX12_body 18 = .ok (.if_icmp .ne 6, 3) := by decide +kernel
theorem dX12_body_21 : decode cX12_body 21 = .ok (.bipush (-3), 2) := by decide +kernel
theorem dX12_body_23 : decode cX12_body 23 = .ok (.ireturn, 1) := by decide +kernel
theorem dX12_body_24 : decode cX12_body 24 = .ok (.aload_n 0, 1) := by decide +kernel
theorem dX12_body_25 : decode cX12_body 25 = .ok (.getfield 88, 3) := by decide +kernel
theorem dX12_body_28 : decode cX12_body 28 = .ok (.aload_n 0, 1) := by decide +kernel
theorem dX12_body_29 : decode cX12_body 29 = .ok (.getfield 336, 3) := by decide +kernel
theorem dX12_body_32 : decode cX12_body 32 = .ok (.iload_n 1, 1) := by decide +kernel
theorem dX12_body_33 : decode cX12_body 33 = .ok (.iastore, 1) := by decide +kernel
theorem dX12_body_34 : decode cX12_body 34 = .ok (.aload_n 0, 1) := by decide +kernel
theorem dX12_body_35 : decode cX12_body 35 = .ok (.dup, 1) := by decide +kernel
theorem dX12_body_36 : decode cX12_body 36 = .ok (.getfield 336, 3) := by decide +kernel
theorem dX12_body_39 : decode cX12_body 39 = .ok (.iconst 1, 1) := by decide +kernel
theorem dX12_body_40 : decode cX12_body 40 = .ok (.iadd, 1) := by decide +kernel
theorem dX12_body_41 : decode cX12_body 41 = .ok (.putfield 336, 3) := by decide +kernel
theorem dX12_body_44 : decode cX12_body 44 = .ok (.aload_n 0, 1) := by decide +kernel
theorem dX12_body_45 : decode cX12_body 45 = .ok (.getfield 336, 3) := by decide +kernel
theorem dX12_body_48 : decode cX12_body 48 = .ok (.iconst 1, 1) := by decide +kernel
theorem dX12_body_49 : decode cX12_body 49 = .ok (.isub, 1) := by decide +kernel
theorem dX12_body_50 : decode cX12_body 50 = .ok (.ireturn, 1) := by decide +kernel
theorem dX12_isUnder_0 : decode cX12_isUnder 0 = .ok (.iload_n 1, 1) := by decide +kernel
theorem dX12_isUnder_1 : decode cX12_isUnder 1 = .ok (.ifCond .eq 55, 3) := by decide +kernel
theorem dX12_isUnder_4 : decode cX12_isUnder 4 = .ok (.iload_n 0, 1) := by decide +kernel
theorem dX12_isUnder_5 : decode cX12_isUnder 5 = .ok (.iload_n 1, 1) := by decide +kernel
theorem dX12_isUnder_6 : decode cX12_isUnder 6 = .ok (.if_icmp .eq 50, 3) := by decide +kernel
theorem dX12_isUnder_9 : decode cX12_isUnder 9 = .ok (.iload_n 1, 1) := by decide +kernel
theorem dX12_isUnder_10 : decode cX12_isUnder 10 = .ok (.iconst 1, 1) := by decide +kernel
theorem dX12_isUnder_11 : decode cX12_isUnder 11 = .ok (.if_icmp .ne 13, 3) := by decide +kernel
theorem dX12_isUnder_14 : decode cX12_isUnder 14 = .ok (.iload_n 0, 1) := by decide +kernel
theorem dX12_isUnder_15 : decode cX12_isUnder 15 = .ok (.iconst 4, 1) := by decide +kernel
theorem dX12_isUnder_16 : decode cX12_isUnder 16 = .ok (.if_icmp .eq 40, 3) := by decide +kernel
theorem dX12_isUnder_19 : decode cX12_isUnder 19 = .ok (.iload_n 0, 1) := by decide +kernel
theorem dX12_isUnder_20 : decode cX12_isUnder 20 = .ok (.iconst 5, 1) := by decide +kernel
theorem dX12_isUnder_21 : decode cX12_isUnder 21 = .ok (.if_icmp .eq 35, 3) := by decide +kernel
theorem dX12_isUnder_24 : decode cX12_isUnder 24 = .ok (.iload_n 1, 1) := by decide +kernel
theorem dX12_isUnder_25 : decode cX12_isUnder 25 = .ok (.iconst 2, 1) := by decide +kernel
theorem dX12_isUnder_26 : decode cX12_isUnder 26 = .ok (.if_icmp .ne 8, 3) := by decide +kernel
theorem dX12_isUnder_29 : decode cX12_isUnder 29 = .ok (.iload_n 0, 1) := by decide +kernel
theorem dX12_isUnder_30 : decode cX12_isUnder 30 = .ok (.iconst 3, 1) := by decide +kernel
theorem dX12_isUnder_31 : decode cX12_isUnder 31 = .ok (.if_icmp .eq 25, 3) := by decide +kernel
theorem dX12_isUnder_34 : decode cX12_isUnder 34 = .ok (.iload_n 1, 1) := by decide +kernel
theorem dX12_isUnder_35 : decode cX12_isUnder 35 = .ok (.iconst 4, 1) := by decide +kernel
theorem dX12_isUnder_36 : decode cX12_isUnder 36 = .ok (.if_icmp .ne 8, 3) := by decide +kernel
theorem dX12_isUnder_39 : decode cX12_isUnder 39 = .ok (.iload_n 0, 1) := by decide +kernel
theorem dX12_isUnder_40 : decode cX12_isUnder 40 = .ok (.iconst 5, 1) := by decide +kernel
theorem dX12_isUnder_41 : decode cX12_isUnder 41 = .ok (.if_icmp .eq 15, 3) := by decide +kernel
theorem dX12_isUnder_44 : decode cX12_isUnder 44 = .ok (.iload_n 1, 1) := by decide +kernel
theorem dX12_isUnder_45 : decode cX12_isUnder 45 = .ok (.bipush 6, 2) := by decide +kernel
theorem dX12_isUnder_47 : decode cX12_isUnder 47 = .ok (.if_icmp .ne 13, 3) := by decide +kernel
theorem dX12_isUnder_50 : decode cX12_isUnder 50 = .ok (.iload_n 0, 1) := by decide +kernel
theorem dX12_isUnder_51 : decode cX12_isUnder 51 = .ok (.bipush 7, 2) := by decide +kernel
theorem dX12_isUnder_53 : decode cX12_isUnder 53 = .ok (.if_icmp .ne 7, 3) := by decide +kernel
theorem dX12_isUnder_56 : decode cX12_isUnder 56 = .ok (.iconst 1, 1) := by decide +kernel
theorem dX12_isUnder_57 : decode cX12_isUnder 57 = .ok (.goto 4, 3) := by decide +kernel
theorem dX12_isUnder_60 : decode cX12_isUnder 60 = .ok (.iconst 0, 1) := by decide +kernel
theorem dX12_isUnder_61 : decode cX12_isUnder 61 = .ok (.ireturn, 1) := by decide +kernel
theorem dX12_plainStands_0 : decode cX12_plainStands 0 = .ok (.aload_n 0, 1) := by decide +kernel
theorem dX12_plainStands_1 : decode cX12_plainStands 1 = .ok (.iconst 1, 1) := by decide +kernel
theorem dX12_plainStands_2 : decode cX12_plainStands 2 = .ok (.invokevirtual 342, 3) := by decide +kernel
theorem dX12_plainStands_5 : decode cX12_plainStands 5 = .ok (.iload_n 2, 1) := by decide +kernel
theorem dX12_plainStands_6 : decode cX12_plainStands 6 = .ok (.iload_n 1, 1) := by decide +kernel
theorem dX12_plainStands_7 : decode cX12_plainStands 7 = .ok (.iadd, 1) := by decide +kernel
theorem dX12_plainStands_8 : decode cX12_plainStands 8 = .ok (.ireturn, 1) := by decide +kernel
theorem dX12_packedStands_0 : decode cX12_packedStands 0 = .ok (.aload_n 0, 1) := by decide +kernel
theorem dX12_packedStands_1 : decode cX12_packedStands 1 = .ok (.bipush 70, 2) := by decide +kernel
theorem dX12_packedStands_3 : decode cX12_packedStands 3 = .ok (.invokevirtual 342, 3) := by decide +kernel
theorem dX12_packedStands_6 : decode cX12_packedStands 6 = .ok (.aload_n 0, 1) := by decide +kernel
theorem dX12_packedStands_7 : decode cX12_packedStands 7 = .ok (.iload_n 1, 1) := by decide +kernel
theorem dX12_packedStands_8 : decode cX12_packedStands 8 = .ok (.iload_n 2, 1) := by decide +kernel
theorem dX12_packedStands_9 : decode cX12_packedStands 9 = .ok (.invokevirtual 345, 3) := by decide +kernel
theorem dX12_packedStands_12 : decode cX12_packedStands 12 = .ok (.iconst 2, 1) := by decide +kernel
theorem dX12_packedStands_13 : decode cX12_packedStands 13 = .ok (.imul, 1) := by decide +kernel
theorem dX12_packedStands_14 : decode cX12_packedStands 14 = .ok (.ireturn, 1) := by decide +kernel
theorem dX12_standing_0 : decode cX12_standing 0 = .ok (.aload_n 0, 1) := by decide +kernel
theorem dX12_standing_1 : decode cX12_standing 1 = .ok (.getfield 88, 3) := by decide +kernel
theorem dX12_standing_4 : decode cX12_standing 4 = .ok (.iload_n 1, 1) := by decide +kernel
theorem dX12_standing_5 : decode cX12_standing 5 = .ok (.iaload, 1) := by decide +kernel
theorem dX12_standing_6 : decode cX12_standing 6 = .ok (.iconst 1, 1) := by decide +kernel
theorem dX12_standing_7 : decode cX12_standing 7 = .ok (.invokestatic 348, 3) := by decide +kernel
theorem dX12_standing_10 : decode cX12_standing 10 = .ok (.ifCond .eq 18, 3) := by decide +kernel
theorem dX12_standing_13 : decode cX12_standing 13 = .ok (.aload_n 0, 1) := by decide +kernel
theorem dX12_standing_14 : decode cX12_standing 14 = .ok (.bipush 20, 2) := by decide +kernel
theorem dX12_standing_16 : decode cX12_standing 16 = .ok (.invokevirtual 342, 3) := by decide +kernel
theorem dX12_standing_19 : decode cX12_standing 19 = .ok (.aload_n 0, 1) := by decide +kernel
theorem dX12_standing_20 : decode cX12_standing 20 = .ok (.iload_n 1, 1) := by decide +kernel
theorem dX12_standing_21 : decode cX12_standing 21 = .ok (.iload_n 2, 1) := by decide +kernel
theorem dX12_standing_22 : decode cX12_standing 22 = .ok (.invokevirtual 345, 3) := by decide +kernel
theorem dX12_standing_25 : decode cX12_standing 25 = .ok (.iconst 3, 1) := by decide +kernel
theorem dX12_standing_26 : decode cX12_standing 26 = .ok (.iadd, 1) := by decide +kernel
theorem dX12_standing_27 : decode cX12_standing 27 = .ok (.ireturn, 1) := by decide +kernel
theorem dX12_standing_28 : decode cX12_standing 28 = .ok (.aload_n 0, 1) := by decide +kernel
theorem dX12_standing_29 : decode cX12_standing 29 = .ok (.getfield 88, 3) := by decide +kernel
theorem dX12_standing_32 : decode cX12_standing 32 = .ok (.iload_n 1, 1) := by decide +kernel
theorem dX12_standing_33 : decode cX12_standing 33 = .ok (.iaload, 1) := by decide +kernel
theorem dX12_standing_34 : decode cX12_standing 34 = .ok (.bipush 7, 2) := by decide +kernel
theorem dX12_standing_36 : decode cX12_standing 36 = .ok (.if_icmp .ne 18, 3) := by decide +kernel
theorem dX12_standing_39 : decode cX12_standing 39 = .ok (.aload_n 0, 1) := by decide +kernel
theorem dX12_standing_40 : decode cX12_standing 40 = .ok (.bipush 81, 2) := by decide +kernel
theorem dX12_standing_42 : decode cX12_standing 42 = .ok (.invokevirtual 342, 3) := by decide +kernel
theorem dX12_standing_45 : decode cX12_standing 45 = .ok (.aload_n 0, 1) := by decide +kernel
theorem dX12_standing_46 : decode cX12_standing 46 = .ok (.iload_n 1, 1) := by decide +kernel
theorem dX12_standing_47 : decode cX12_standing 47 = .ok (.iload_n 2, 1) := by decide +kernel
theorem dX12_standing_48 : decode cX12_standing 48 = .ok (.invokevirtual 351, 3) := by decide +kernel
theorem dX12_standing_51 : decode cX12_standing 51 = .ok (.iconst 1, 1) := by decide +kernel
theorem dX12_standing_52 : decode cX12_standing 52 = .ok (.isub, 1) := by decide +kernel
theorem dX12_standing_53 : decode cX12_standing 53 = .ok (.ireturn, 1) := by decide +kernel
theorem dX12_standing_54 : decode cX12_standing 54 = .ok (.aload_n 0, 1) := by decide +kernel
theorem dX12_standing_55 : decode cX12_standing 55 = .ok (.getfield 88, 3) := by decide +kernel
theorem dX12_standing_58 : decode cX12_standing 58 = .ok (.iload_n 1, 1) := by decide +kernel
theorem dX12_standing_59 : decode cX12_standing 59 = .ok (.iaload, 1) := by decide +kernel
theorem dX12_standing_60 : decode cX12_standing 60 = .ok (.bipush 6, 2) := by decide +kernel
theorem dX12_standing_62 : decode cX12_standing 62 = .ok (.if_icmp .ne 12, 3) := by decide +kernel
theorem dX12_standing_65 : decode cX12_standing 65 = .ok (.aload_n 0, 1) := by decide +kernel
theorem dX12_standing_66 : decode cX12_standing 66 = .ok (.iload_n 1, 1) := by decide +kernel
theorem dX12_standing_67 : decode cX12_standing 67 = .ok (.iload_n 2, 1) := by decide +kernel
theorem dX12_standing_68 : decode cX12_standing 68 = .ok (.invokevirtual 351, 3) := by decide +kernel
theorem dX12_standing_71 : decode cX12_standing 71 = .ok (.goto 9, 3) := by decide +kernel
theorem dX12_standing_74 : decode cX12_standing 74 = .ok (.aload_n 0, 1) := by decide +kernel
theorem dX12_standing_75 : decode cX12_standing 75 = .ok (.iload_n 1, 1) := by decide +kernel
theorem dX12_standing_76 : decode cX12_standing 76 = .ok (.iload_n 2, 1) := by decide +kernel
theorem dX12_standing_77 : decode cX12_standing 77 = .ok (.invokevirtual 345, 3) := by decide +kernel
theorem dX12_standing_80 : decode cX12_standing 80 = .ok (.ireturn, 1) := by decide +kernel
theorem dX12_plainSteps_0 : decode cX12_plainSteps 0 = .ok (.aload_n 0, 1) := by decide +kernel
theorem dX12_plainSteps_1 : decode cX12_plainSteps 1 = .ok (.bipush 10, 2) := by decide +kernel
theorem dX12_plainSteps_3 : decode cX12_plainSteps 3 = .ok (.invokevirtual 342, 3) := by decide +kernel
theorem dX12_plainSteps_6 : decode cX12_plainSteps 6 = .ok (.aload_n 0, 1) := by decide +kernel
theorem dX12_plainSteps_7 : decode cX12_plainSteps 7 = .ok (.iload_n 1, 1) := by decide +kernel
theorem dX12_plainSteps_8 : decode cX12_plainSteps 8 = .ok (.iload_n 2, 1) := by decide +kernel
theorem dX12_plainSteps_9 : decode cX12_plainSteps 9 = .ok (.invokevirtual 354, 3) := by decide +kernel
theorem dX12_plainSteps_12 : decode cX12_plainSteps 12 = .ok (.iconst 2, 1) := by decide +kernel
theorem dX12_plainSteps_13 : decode cX12_plainSteps 13 = .ok (.imul, 1) := by decide +kernel
theorem dX12_plainSteps_14 : decode cX12_plainSteps 14 = .ok (.ireturn, 1) := by decide +kernel
theorem dX12_rowedSteps_0 : decode cX12_rowedSteps 0 = .ok (.aload_n 0, 1) := by decide +kernel
theorem dX12_rowedSteps_1 : decode cX12_rowedSteps 1 = .ok (.bipush 30, 2) := by decide +kernel
theorem dX12_rowedSteps_3 : decode cX12_rowedSteps 3 = .ok (.invokevirtual 342, 3) := by decide +kernel
theorem dX12_rowedSteps_6 : decode cX12_rowedSteps 6 = .ok (.aload_n 0, 1) := by decide +kernel
theorem dX12_rowedSteps_7 : decode cX12_rowedSteps 7 = .ok (.iload_n 1, 1) := by decide +kernel
theorem dX12_rowedSteps_8 : decode cX12_rowedSteps 8 = .ok (.iload_n 2, 1) := by decide +kernel
theorem dX12_rowedSteps_9 : decode cX12_rowedSteps 9 = .ok (.invokevirtual 357, 3) := by decide +kernel
theorem dX12_rowedSteps_12 : decode cX12_rowedSteps 12 = .ok (.ineg, 1) := by decide +kernel
theorem dX12_rowedSteps_13 : decode cX12_rowedSteps 13 = .ok (.ireturn, 1) := by decide +kernel
theorem dX12_steps_0 : decode cX12_steps 0 = .ok (.aload_n 0, 1) := by decide +kernel
theorem dX12_steps_1 : decode cX12_steps 1 = .ok (.getfield 88, 3) := by decide +kernel
theorem dX12_steps_4 : decode cX12_steps 4 = .ok (.iload_n 1, 1) := by decide +kernel
theorem dX12_steps_5 : decode cX12_steps 5 = .ok (.iaload, 1) := by decide +kernel
theorem dX12_steps_6 : decode cX12_steps 6 = .ok (.iconst 3, 1) := by decide +kernel
theorem dX12_steps_7 : decode cX12_steps 7 = .ok (.if_icmp .ne 18, 3) := by decide +kernel
theorem dX12_steps_10 : decode cX12_steps 10 = .ok (.aload_n 0, 1) := by decide +kernel
theorem dX12_steps_11 : decode cX12_steps 11 = .ok (.bipush 41, 2) := by decide +kernel
theorem dX12_steps_13 : decode cX12_steps 13 = .ok (.invokevirtual 342, 3) := by decide +kernel
theorem dX12_steps_16 : decode cX12_steps 16 = .ok (.aload_n 0, 1) := by decide +kernel
theorem dX12_steps_17 : decode cX12_steps 17 = .ok (.iload_n 1, 1) := by decide +kernel
theorem dX12_steps_18 : decode cX12_steps 18 = .ok (.iload_n 2, 1) := by decide +kernel
theorem dX12_steps_19 : decode cX12_steps 19 = .ok (.iconst 1, 1) := by decide +kernel
theorem dX12_steps_20 : decode cX12_steps 20 = .ok (.iadd, 1) := by decide +kernel
theorem dX12_steps_21 : decode cX12_steps 21 = .ok (.invokevirtual 360, 3) := by decide +kernel
theorem dX12_steps_24 : decode cX12_steps 24 = .ok (.ireturn, 1) := by decide +kernel
theorem dX12_steps_25 : decode cX12_steps 25 = .ok (.aload_n 0, 1) := by decide +kernel
theorem dX12_steps_26 : decode cX12_steps 26 = .ok (.getfield 88, 3) := by decide +kernel
theorem dX12_steps_29 : decode cX12_steps 29 = .ok (.iload_n 1, 1) := by decide +kernel
theorem dX12_steps_30 : decode cX12_steps 30 = .ok (.iaload, 1) := by decide +kernel
theorem dX12_steps_31 : decode cX12_steps 31 = .ok (.bipush 7, 2) := by decide +kernel
theorem dX12_steps_33 : decode cX12_steps 33 = .ok (.if_icmp .ne 25, 3) := by decide +kernel
theorem dX12_steps_36 : decode cX12_steps 36 = .ok (.aload_n 0, 1) := by decide +kernel
theorem dX12_steps_37 : decode cX12_steps 37 = .ok (.bipush 80, 2) := by decide +kernel
theorem dX12_steps_39 : decode cX12_steps 39 = .ok (.invokevirtual 342, 3) := by decide +kernel
theorem dX12_steps_42 : decode cX12_steps 42 = .ok (.aload_n 0, 1) := by decide +kernel
theorem dX12_steps_43 : decode cX12_steps 43 = .ok (.iload_n 1, 1) := by decide +kernel
theorem dX12_steps_44 : decode cX12_steps 44 = .ok (.iload_n 2, 1) := by decide +kernel
theorem dX12_steps_45 : decode cX12_steps 45 = .ok (.invokevirtual 357, 3) := by decide +kernel
theorem dX12_steps_48 : decode cX12_steps 48 = .ok (.istore_n 3, 1) := by decide +kernel
theorem dX12_steps_49 : decode cX12_steps 49 = .ok (.iload_n 3, 1) := by decide +kernel
theorem dX12_steps_50 : decode cX12_steps 50 = .ok (.aload_n 0, 1) := by decide +kernel
theorem dX12_steps_51 : decode cX12_steps 51 = .ok (.iload_n 1, 1) := by decide +kernel
theorem dX12_steps_52 : decode cX12_steps 52 = .ok (.iconst 2, 1) := by decide +kernel
theorem dX12_steps_53 : decode cX12_steps 53 = .ok (.invokevirtual 363, 3) := by decide +kernel
theorem dX12_steps_56 : decode cX12_steps 56 = .ok (.iadd, 1) := by decide +kernel
theorem dX12_steps_57 : decode cX12_steps 57 = .ok (.ireturn, 1) := by decide +kernel
theorem dX12_steps_58 : decode cX12_steps 58 = .ok (.aload_n 0, 1) := by decide +kernel
theorem dX12_steps_59 : decode cX12_steps 59 = .ok (.getfield 88, 3) := by decide +kernel
theorem dX12_steps_62 : decode cX12_steps 62 = .ok (.iload_n 1, 1) := by decide +kernel
theorem dX12_steps_63 : decode cX12_steps 63 = .ok (.iaload, 1) := by decide +kernel
theorem dX12_steps_64 : decode cX12_steps 64 = .ok (.iconst 2, 1) := by decide +kernel
theorem dX12_steps_65 : decode cX12_steps 65 = .ok (.if_icmp .ne 12, 3) := by decide +kernel
theorem dX12_steps_68 : decode cX12_steps 68 = .ok (.aload_n 0, 1) := by decide +kernel
theorem dX12_steps_69 : decode cX12_steps 69 = .ok (.iload_n 1, 1) := by decide +kernel
theorem dX12_steps_70 : decode cX12_steps 70 = .ok (.iload_n 2, 1) := by decide +kernel
theorem dX12_steps_71 : decode cX12_steps 71 = .ok (.invokevirtual 360, 3) := by decide +kernel
theorem dX12_steps_74 : decode cX12_steps 74 = .ok (.goto 9, 3) := by decide +kernel
theorem dX12_steps_77 : decode cX12_steps 77 = .ok (.aload_n 0, 1) := by decide +kernel
theorem dX12_steps_78 : decode cX12_steps 78 = .ok (.iload_n 1, 1) := by decide +kernel
theorem dX12_steps_79 : decode cX12_steps 79 = .ok (.iload_n 2, 1) := by decide +kernel
theorem dX12_steps_80 : decode cX12_steps 80 = .ok (.invokevirtual 357, 3) := by decide +kernel
theorem dX12_steps_83 : decode cX12_steps 83 = .ok (.ireturn, 1) := by decide +kernel
theorem dX12_plainSweeps_0 : decode cX12_plainSweeps 0 = .ok (.aload_n 0, 1) := by decide +kernel
theorem dX12_plainSweeps_1 : decode cX12_plainSweeps 1 = .ok (.bipush 11, 2) := by decide +kernel
theorem dX12_plainSweeps_3 : decode cX12_plainSweeps 3 = .ok (.invokevirtual 342, 3) := by decide +kernel
theorem dX12_plainSweeps_6 : decode cX12_plainSweeps 6 = .ok (.iload_n 2, 1) := by decide +kernel
theorem dX12_plainSweeps_7 : decode cX12_plainSweeps 7 = .ok (.iload_n 1, 1) := by decide +kernel
theorem dX12_plainSweeps_8 : decode cX12_plainSweeps 8 = .ok (.ixor, 1) := by decide +kernel
theorem dX12_plainSweeps_9 : decode cX12_plainSweeps 9 = .ok (.ireturn, 1) := by decide +kernel
theorem dX12_sweeps_0 : decode cX12_sweeps 0 = .ok (.aload_n 0, 1) := by decide +kernel
theorem dX12_sweeps_1 : decode cX12_sweeps 1 = .ok (.getfield 88, 3) := by decide +kernel
theorem dX12_sweeps_4 : decode cX12_sweeps 4 = .ok (.iload_n 1, 1) := by decide +kernel
theorem dX12_sweeps_5 : decode cX12_sweeps 5 = .ok (.iaload, 1) := by decide +kernel
theorem dX12_sweeps_6 : decode cX12_sweeps 6 = .ok (.iconst 3, 1) := by decide +kernel
theorem dX12_sweeps_7 : decode cX12_sweeps 7 = .ok (.if_icmp .ne 18, 3) := by decide +kernel
theorem dX12_sweeps_10 : decode cX12_sweeps 10 = .ok (.aload_n 0, 1) := by decide +kernel
theorem dX12_sweeps_11 : decode cX12_sweeps 11 = .ok (.bipush 40, 2) := by decide +kernel
theorem dX12_sweeps_13 : decode cX12_sweeps 13 = .ok (.invokevirtual 342, 3) := by decide +kernel
theorem dX12_sweeps_16 : decode cX12_sweeps 16 = .ok (.aload_n 0, 1) := by decide +kernel
theorem dX12_sweeps_17 : decode cX12_sweeps 17 = .ok (.iload_n 1, 1) := by decide +kernel
theorem dX12_sweeps_18 : decode cX12_sweeps 18 = .ok (.iload_n 2, 1) := by decide +kernel
theorem dX12_sweeps_19 : decode cX12_sweeps 19 = .ok (.invokevirtual 366, 3) := by decide +kernel
theorem dX12_sweeps_22 : decode cX12_sweeps 22 = .ok (.iconst 3, 1) := by decide +kernel
theorem dX12_sweeps_23 : decode cX12_sweeps 23 = .ok (.imul, 1) := by decide +kernel
theorem dX12_sweeps_24 : decode cX12_sweeps 24 = .ok (.ireturn, 1) := by decide +kernel
theorem dX12_sweeps_25 : decode cX12_sweeps 25 = .ok (.aload_n 0, 1) := by decide +kernel
theorem dX12_sweeps_26 : decode cX12_sweeps 26 = .ok (.getfield 88, 3) := by decide +kernel
theorem dX12_sweeps_29 : decode cX12_sweeps 29 = .ok (.iload_n 1, 1) := by decide +kernel
theorem dX12_sweeps_30 : decode cX12_sweeps 30 = .ok (.iaload, 1) := by decide +kernel
theorem dX12_sweeps_31 : decode cX12_sweeps 31 = .ok (.iconst 5, 1) := by decide +kernel
theorem dX12_sweeps_32 : decode cX12_sweeps 32 = .ok (.if_icmp .ne 25, 3) := by decide +kernel
theorem dX12_sweeps_35 : decode cX12_sweeps 35 = .ok (.aload_n 0, 1) := by decide +kernel
theorem dX12_sweeps_36 : decode cX12_sweeps 36 = .ok (.bipush 60, 2) := by decide +kernel
theorem dX12_sweeps_38 : decode cX12_sweeps 38 = .ok (.invokevirtual 342, 3) := by decide +kernel
theorem dX12_sweeps_41 : decode cX12_sweeps 41 = .ok (.aload_n 0, 1) := by decide +kernel
theorem dX12_sweeps_42 : decode cX12_sweeps 42 = .ok (.iload_n 1, 1) := by decide +kernel
theorem dX12_sweeps_43 : decode cX12_sweeps 43 = .ok (.iload_n 2, 1) := by decide +kernel
theorem dX12_sweeps_44 : decode cX12_sweeps 44 = .ok (.invokevirtual 366, 3) := by decide +kernel
theorem dX12_sweeps_47 : decode cX12_sweeps 47 = .ok (.istore_n 3, 1) := by decide +kernel
theorem dX12_sweeps_48 : decode cX12_sweeps 48 = .ok (.iload_n 3, 1) := by decide +kernel
theorem dX12_sweeps_49 : decode cX12_sweeps 49 = .ok (.aload_n 0, 1) := by decide +kernel
theorem dX12_sweeps_50 : decode cX12_sweeps 50 = .ok (.iload_n 1, 1) := by decide +kernel
theorem dX12_sweeps_51 : decode cX12_sweeps 51 = .ok (.iconst 2, 1) := by decide +kernel
theorem dX12_sweeps_52 : decode cX12_sweeps 52 = .ok (.invokevirtual 354, 3) := by decide +kernel
theorem dX12_sweeps_55 : decode cX12_sweeps 55 = .ok (.isub, 1) := by decide +kernel
theorem dX12_sweeps_56 : decode cX12_sweeps 56 = .ok (.ireturn, 1) := by decide +kernel
theorem dX12_sweeps_57 : decode cX12_sweeps 57 = .ok (.aload_n 0, 1) := by decide +kernel
theorem dX12_sweeps_58 : decode cX12_sweeps 58 = .ok (.iload_n 1, 1) := by decide +kernel
theorem dX12_sweeps_59 : decode cX12_sweeps 59 = .ok (.iload_n 2, 1) := by decide +kernel
theorem dX12_sweeps_60 : decode cX12_sweeps 60 = .ok (.invokevirtual 366, 3) := by decide +kernel
theorem dX12_sweeps_63 : decode cX12_sweeps 63 = .ok (.ireturn, 1) := by decide +kernel
theorem dX12_plainSinks_0 : decode cX12_plainSinks 0 = .ok (.aload_n 0, 1) := by decide +kernel
theorem dX12_plainSinks_1 : decode cX12_plainSinks 1 = .ok (.iconst 2, 1) := by decide +kernel
theorem dX12_plainSinks_2 : decode cX12_plainSinks 2 = .ok (.invokevirtual 342, 3) := by decide +kernel
theorem dX12_plainSinks_5 : decode cX12_plainSinks 5 = .ok (.aload_n 0, 1) := by decide +kernel
theorem dX12_plainSinks_6 : decode cX12_plainSinks 6 = .ok (.iload_n 1, 1) := by decide +kernel
theorem dX12_plainSinks_7 : decode cX12_plainSinks 7 = .ok (.iload_n 2, 1) := by decide +kernel
theorem dX12_plainSinks_8 : decode cX12_plainSinks 8 = .ok (.invokevirtual 369, 3) := by decide +kernel
theorem dX12_plainSinks_11 : decode cX12_plainSinks 11 = .ok (.istore_n 3, 1) := by decide +kernel
theorem dX12_plainSinks_12 : decode cX12_plainSinks 12 = .ok (.iload_n 3, 1) := by decide +kernel
theorem dX12_plainSinks_13 : decode cX12_plainSinks 13 = .ok (.aload_n 0, 1) := by decide +kernel
theorem dX12_plainSinks_14 : decode cX12_plainSinks 14 = .ok (.iload_n 1, 1) := by decide +kernel
theorem dX12_plainSinks_15 : decode cX12_plainSinks 15 = .ok (.iconst 1, 1) := by decide +kernel
theorem dX12_plainSinks_16 : decode cX12_plainSinks 16 = .ok (.invokevirtual 363, 3) := by decide +kernel
theorem dX12_plainSinks_19 : decode cX12_plainSinks 19 = .ok (.isub, 1) := by decide +kernel
theorem dX12_plainSinks_20 : decode cX12_plainSinks 20 = .ok (.ireturn, 1) := by decide +kernel
theorem dX12_linedSinks_0 : decode cX12_linedSinks 0 = .ok (.aload_n 0, 1) := by decide +kernel
theorem dX12_linedSinks_1 : decode cX12_linedSinks 1 = .ok (.bipush 50, 2) := by decide +kernel
theorem dX12_linedSinks_3 : decode cX12_linedSinks 3 = .ok (.invokevirtual 342, 3) := by decide +kernel
theorem dX12_linedSinks_6 : decode cX12_linedSinks 6 = .ok (.aload_n 0, 1) := by decide +kernel
theorem dX12_linedSinks_7 : decode cX12_linedSinks 7 = .ok (.iload_n 1, 1) := by decide +kernel
theorem dX12_linedSinks_8 : decode cX12_linedSinks 8 = .ok (.iload_n 2, 1) := by decide +kernel
theorem dX12_linedSinks_9 : decode cX12_linedSinks 9 = .ok (.invokevirtual 372, 3) := by decide +kernel
theorem dX12_linedSinks_12 : decode cX12_linedSinks 12 = .ok (.iconst 5, 1) := by decide +kernel
theorem dX12_linedSinks_13 : decode cX12_linedSinks 13 = .ok (.ixor, 1) := by decide +kernel
theorem dX12_linedSinks_14 : decode cX12_linedSinks 14 = .ok (.ireturn, 1) := by decide +kernel
theorem dX12_sinks_0 : decode cX12_sinks 0 = .ok (.aload_n 0, 1) := by decide +kernel
theorem dX12_sinks_1 : decode cX12_sinks 1 = .ok (.getfield 88, 3) := by decide +kernel
theorem dX12_sinks_4 : decode cX12_sinks 4 = .ok (.iload_n 1, 1) := by decide +kernel
theorem dX12_sinks_5 : decode cX12_sinks 5 = .ok (.iaload, 1) := by decide +kernel
theorem dX12_sinks_6 : decode cX12_sinks 6 = .ok (.iconst 5, 1) := by decide +kernel
theorem dX12_sinks_7 : decode cX12_sinks 7 = .ok (.if_icmp .ne 18, 3) := by decide +kernel
theorem dX12_sinks_10 : decode cX12_sinks 10 = .ok (.aload_n 0, 1) := by decide +kernel
theorem dX12_sinks_11 : decode cX12_sinks 11 = .ok (.bipush 61, 2) := by decide +kernel
theorem dX12_sinks_13 : decode cX12_sinks 13 = .ok (.invokevirtual 342, 3) := by decide +kernel
theorem dX12_sinks_16 : decode cX12_sinks 16 = .ok (.aload_n 0, 1) := by decide +kernel
theorem dX12_sinks_17 : decode cX12_sinks 17 = .ok (.iload_n 1, 1) := by decide +kernel
theorem dX12_sinks_18 : decode cX12_sinks 18 = .ok (.iload_n 2, 1) := by decide +kernel
theorem dX12_sinks_19 : decode cX12_sinks 19 = .ok (.invokevirtual 375, 3) := by decide +kernel
theorem dX12_sinks_22 : decode cX12_sinks 22 = .ok (.iconst 1, 1) := by decide +kernel
theorem dX12_sinks_23 : decode cX12_sinks 23 = .ok (.iadd, 1) := by decide +kernel
theorem dX12_sinks_24 : decode cX12_sinks 24 = .ok (.ireturn, 1) := by decide +kernel
theorem dX12_sinks_25 : decode cX12_sinks 25 = .ok (.aload_n 0, 1) := by decide +kernel
theorem dX12_sinks_26 : decode cX12_sinks 26 = .ok (.getfield 88, 3) := by decide +kernel
theorem dX12_sinks_29 : decode cX12_sinks 29 = .ok (.iload_n 1, 1) := by decide +kernel
theorem dX12_sinks_30 : decode cX12_sinks 30 = .ok (.iaload, 1) := by decide +kernel
theorem dX12_sinks_31 : decode cX12_sinks 31 = .ok (.iconst 4, 1) := by decide +kernel
theorem dX12_sinks_32 : decode cX12_sinks 32 = .ok (.if_icmp .ne 12, 3) := by decide +kernel
theorem dX12_sinks_35 : decode cX12_sinks 35 = .ok (.aload_n 0, 1) := by decide +kernel
theorem dX12_sinks_36 : decode cX12_sinks 36 = .ok (.iload_n 1, 1) := by decide +kernel
theorem dX12_sinks_37 : decode cX12_sinks 37 = .ok (.iload_n 2, 1) := by decide +kernel
theorem dX12_sinks_38 : decode cX12_sinks 38 = .ok (.invokevirtual 375, 3) := by decide +kernel
theorem dX12_sinks_41 : decode cX12_sinks 41 = .ok (.goto 9, 3) := by decide +kernel
theorem dX12_sinks_44 : decode cX12_sinks 44 = .ok (.aload_n 0, 1) := by decide +kernel
theorem dX12_sinks_45 : decode cX12_sinks 45 = .ok (.iload_n 1, 1) := by decide +kernel
theorem dX12_sinks_46 : decode cX12_sinks 46 = .ok (.iload_n 2, 1) := by decide +kernel
theorem dX12_sinks_47 : decode cX12_sinks 47 = .ok (.invokevirtual 372, 3) := by decide +kernel
theorem dX12_sinks_50 : decode cX12_sinks 50 = .ok (.ireturn, 1) := by decide +kernel
theorem dX12_act_0 : decode cX12_act 0 = .ok (.aload_n 0, 1) := by decide +kernel
theorem dX12_act_1 : decode cX12_act 1 = .ok (.iconst 0, 1) := by decide +kernel
theorem dX12_act_2 : decode cX12_act 2 = .ok (.putfield 339, 3) := by decide +kernel
theorem dX12_act_5 : decode cX12_act 5 = .ok (.aload_n 0, 1) := by decide +kernel
theorem dX12_act_6 : decode cX12_act 6 = .ok (.iload_n 1, 1) := by decide +kernel
theorem dX12_act_7 : decode cX12_act 7 = .ok (.invokevirtual 378, 3) := by decide +kernel
theorem dX12_act_10 : decode cX12_act 10 = .ok (.ifCond .eq 12, 3) := by decide +kernel
theorem dX12_act_13 : decode cX12_act 13 = .ok (.iload_n 2, 1) := by decide +kernel
theorem dX12_act_14 : decode cX12_act 14 = .ok (.iconst 0, 1) := by decide +kernel
theorem dX12_act_15 : decode cX12_act 15 = .ok (.iconst 3, 1) := by decide +kernel
theorem dX12_act_16 : decode cX12_act 16 = .ok (.invokestatic 110, 3) := by decide +kernel
theorem dX12_act_19 : decode cX12_act 19 = .ok (.ifCond .ne 5, 3) := by decide +kernel
theorem dX12_act_22 : decode cX12_act 22 = .ok (.iconst 0, 1) := by decide +kernel
theorem dX12_act_23 : decode cX12_act 23 = .ok (.ireturn, 1) := by decide +kernel
theorem dX12_act_24 : decode cX12_act 24 = .ok (.iload_n 2, 1) := by decide +kernel
theorem dX12_act_25 : decode cX12_act 25 = .ok (.ifCond .ne 12, 3) := by decide +kernel
theorem dX12_act_28 : decode cX12_act 28 = .ok (.aload_n 0, 1) := by decide +kernel
theorem dX12_act_29 : decode cX12_act 29 = .ok (.iload_n 1, 1) := by decide +kernel
theorem dX12_act_30 : decode cX12_act 30 = .ok (.iload_n 3, 1) := by decide +kernel
theorem dX12_act_31 : decode cX12_act 31 = .ok (.invokevirtual 354, 3) := by decide +kernel
theorem dX12_act_34 : decode cX12_act 34 = .ok (.goto 37, 3) := by decide +kernel
theorem dX12_act_37 : decode cX12_act 37 = .ok (.iload_n 2, 1) := by decide +kernel
theorem dX12_act_38 : decode cX12_act 38 = .ok (.iconst 1, 1) := by decide +kernel
theorem dX12_act_39 : decode cX12_act 39 = .ok (.if_icmp .ne 12, 3) := by decide +kernel
theorem dX12_act_42 : decode cX12_act 42 = .ok (.aload_n 0, 1) := by decide +kernel
theorem dX12_act_43 : decode cX12_act 43 = .ok (.iload_n 1, 1) := by decide +kernel
theorem dX12_act_44 : decode cX12_act 44 = .ok (.iload_n 3, 1) := by decide +kernel
theorem dX12_act_45 : decode cX12_act 45 = .ok (.invokevirtual 369, 3) := by decide +kernel
theorem dX12_act_48 : decode cX12_act 48 = .ok (.goto 23, 3) := by decide +kernel
theorem dX12_act_51 : decode cX12_act 51 = .ok (.iload_n 2, 1) := by decide +kernel
theorem dX12_act_52 : decode cX12_act 52 = .ok (.iconst 2, 1) := by decide +kernel
theorem dX12_act_53 : decode cX12_act 53 = .ok (.if_icmp .ne 12, 3) := by decide +kernel
theorem dX12_act_56 : decode cX12_act 56 = .ok (.aload_n 0, 1) := by decide +kernel
theorem dX12_act_57 : decode cX12_act 57 = .ok (.iload_n 1, 1) := by decide +kernel
theorem dX12_act_58 : decode cX12_act 58 = .ok (.iload_n 3, 1) := by decide +kernel
theorem dX12_act_59 : decode cX12_act 59 = .ok (.invokevirtual 363, 3) := by decide +kernel
theorem dX12_act_62 : decode cX12_act 62 = .ok (.goto 9, 3) := by decide +kernel
theorem dX12_act_65 : decode cX12_act 65 = .ok (.aload_n 0, 1) := by decide +kernel
theorem dX12_act_66 : decode cX12_act 66 = .ok (.iload_n 1, 1) := by decide +kernel
theorem dX12_act_67 : decode cX12_act 67 = .ok (.iload_n 3, 1) := by decide +kernel
theorem dX12_act_68 : decode cX12_act 68 = .ok (.invokevirtual 381, 3) := by decide +kernel
theorem dX12_act_71 : decode cX12_act 71 = .ok (.ireturn, 1) := by decide +kernel
theorem dX12_count_0 : decode cX12_count 0 = .ok (.iload_n 1, 1) := by decide +kernel
theorem dX12_count_1 : decode cX12_count 1 = .ok (.tableswitch 87 0 7 #[47, 52, 57, 62, 67, 72, 77, 82], 47) := by decide +kernel
theorem dX12_count_48 : decode cX12_count 48 = .ok (.aload_n 0, 1) := by decide +kernel
theorem dX12_count_49 : decode cX12_count 49 = .ok (.getfield 117, 3) := by decide +kernel
theorem dX12_count_52 : decode cX12_count 52 = .ok (.ireturn, 1) := by decide +kernel
theorem dX12_count_53 : decode cX12_count 53 = .ok (.aload_n 0, 1) := by decide +kernel
theorem dX12_count_54 : decode cX12_count 54 = .ok (.getfield 223, 3) := by decide +kernel
theorem dX12_count_57 : decode cX12_count 57 = .ok (.ireturn, 1) := by decide +kernel
theorem dX12_count_58 : decode cX12_count 58 = .ok (.aload_n 0, 1) := by decide +kernel
theorem dX12_count_59 : decode cX12_count 59 = .ok (.getfield 257, 3) := by decide +kernel
theorem dX12_count_62 : decode cX12_count 62 = .ok (.ireturn, 1) := by decide +kernel
theorem dX12_count_63 : decode cX12_count 63 = .ok (.aload_n 0, 1) := by decide +kernel
theorem dX12_count_64 : decode cX12_count 64 = .ok (.getfield 321, 3) := by decide +kernel
theorem dX12_count_67 : decode cX12_count 67 = .ok (.ireturn, 1) := by decide +kernel
theorem dX12_count_68 : decode cX12_count 68 = .ok (.aload_n 0, 1) := by decide +kernel
theorem dX12_count_69 : decode cX12_count 69 = .ok (.getfield 114, 3) := by decide +kernel
theorem dX12_count_72 : decode cX12_count 72 = .ok (.ireturn, 1) := by decide +kernel
theorem dX12_count_73 : decode cX12_count 73 = .ok (.aload_n 0, 1) := by decide +kernel
theorem dX12_count_74 : decode cX12_count 74 = .ok (.getfield 154, 3) := by decide +kernel
theorem dX12_count_77 : decode cX12_count 77 = .ok (.ireturn, 1) := by decide +kernel
theorem dX12_count_78 : decode cX12_count 78 = .ok (.aload_n 0, 1) := by decide +kernel
theorem dX12_count_79 : decode cX12_count 79 = .ok (.getfield 336, 3) := by decide +kernel
theorem dX12_count_82 : decode cX12_count 82 = .ok (.ireturn, 1) := by decide +kernel
theorem dX12_count_83 : decode cX12_count 83 = .ok (.aload_n 0, 1) := by decide +kernel
theorem dX12_count_84 : decode cX12_count 84 = .ok (.getfield 339, 3) := by decide +kernel
theorem dX12_count_87 : decode cX12_count 87 = .ok (.ireturn, 1) := by decide +kernel
theorem dX12_count_88 : decode cX12_count 88 = .ok (.iconst (-1), 1) := by decide +kernel
theorem dX12_count_89 : decode cX12_count 89 = .ok (.ireturn, 1) := by decide +kernel
theorem dX12_isShelf_0 : decode cX12_isShelf 0 = .ok (.iload_n 0, 1) := by decide +kernel
theorem dX12_isShelf_1 : decode cX12_isShelf 1 = .ok (.iconst 0, 1) := by decide +kernel
theorem dX12_isShelf_2 : decode cX12_isShelf 2 = .ok (.iconst 5, 1) := by decide +kernel
theorem dX12_isShelf_3 : decode cX12_isShelf 3 = .ok (.invokestatic 110, 3) := by decide +kernel
theorem dX12_isShelf_6 : decode cX12_isShelf 6 = .ok (.ireturn, 1) := by decide +kernel
theorem dX12_keep_0 : decode cX12_keep 0 = .ok (.iload_n 1, 1) := by decide +kernel
theorem dX12_keep_1 : decode cX12_keep 1 = .ok (.invokestatic 330, 3) := by decide +kernel
theorem dX12_keep_4 : decode cX12_keep 4 = .ok (.ifCond .eq 16, 3) := by decide +kernel
theorem dX12_keep_7 : decode cX12_keep 7 = .ok (.iload_n 2, 1) := by decide +kernel
theorem dX12_keep_8 : decode cX12_keep 8 = .ok (.iconst (-1), 1) := by decide +kernel
theorem dX12_keep_9 : decode cX12_keep 9 = .ok (.if_icmp .eq 13, 3) := by decide +kernel
theorem dX12_keep_12 : decode cX12_keep 12 = .ok (.aload_n 0, 1) := by decide +kernel
theorem dX12_keep_13 : decode cX12_keep 13 = .ok (.iload_n 2, 1) := by decide +kernel
theorem dX12_keep_14 : decode cX12_keep 14 = .ok (.invokevirtual 378, 3) := by decide +kernel
theorem dX12_keep_17 : decode cX12_keep 17 = .ok (.ifCond .ne 5, 3) := by decide +kernel
theorem dX12_keep_20 : decode cX12_keep 20 = .ok (.iconst (-1), 1) := by decide +kernel
theorem dX12_keep_21 : decode cX12_keep 21 = .ok (.ireturn, 1) := by decide +kernel
theorem dX12_keep_22 : decode cX12_keep 22 = .ok (.aload_n 0, 1) := by decide +kernel
theorem dX12_keep_23 : decode cX12_keep 23 = .ok (.getfield 94, 3) := by decide +kernel
theorem dX12_keep_26 : decode cX12_keep 26 = .ok (.iload_n 1, 1) := by decide +kernel
theorem dX12_keep_27 : decode cX12_keep 27 = .ok (.iload_n 2, 1) := by decide +kernel
theorem dX12_keep_28 : decode cX12_keep 28 = .ok (.iastore, 1) := by decide +kernel
theorem dX12_keep_29 : decode cX12_keep 29 = .ok (.iconst 1, 1) := by decide +kernel
theorem dX12_keep_30 : decode cX12_keep 30 = .ok (.ireturn, 1) := by decide +kernel
theorem dX12_row_0 : decode cX12_row 0 = .ok (.iload_n 1, 1) := by decide +kernel
theorem dX12_row_1 : decode cX12_row 1 = .ok (.invokestatic 330, 3) := by decide +kernel
theorem dX12_row_4 : decode cX12_row 4 = .ok (.ifCond .eq 18, 3) := by decide +kernel
theorem dX12_row_7 : decode cX12_row 7 = .ok (.iload_n 2, 1) := by decide +kernel
theorem dX12_row_8 : decode cX12_row 8 = .ok (.iconst 0, 1) := by decide +kernel
theorem dX12_row_9 : decode cX12_row 9 = .ok (.iconst 4, 1) := by decide +kernel
theorem dX12_row_10 : decode cX12_row 10 = .ok (.invokestatic 110, 3) := by decide +kernel
theorem dX12_row_13 : decode cX12_row 13 = .ok (.ifCond .eq 9, 3) := by decide +kernel
theorem dX12_row_16 : decode cX12_row 16 = .ok (.iload_n 3, 1) := by decide +kernel
theorem dX12_row_17 : decode cX12_row 17 = .ok (.bipush 60, 2) := by decide +kernel
theorem dX12_row_19 : decode cX12_row 19 = .ok (.if_icmp .le 5, 3) := by decide +kernel
theorem dX12_row_22 : decode cX12_row 22 = .ok (.iconst (-1), 1) := by decide +kernel
theorem dX12_row_23 : decode cX12_row 23 = .ok (.ireturn, 1) := by decide +kernel
theorem dX12_row_24 : decode cX12_row 24 = .ok (.iload_n 3, 1) := by decide +kernel
theorem dX12_row_25 : decode cX12_row 25 = .ok (.ifCond .ge 6, 3) := by decide +kernel
theorem dX12_row_28 : decode cX12_row 28 = .ok (.bipush (-14), 2) := by decide +kernel
theorem dX12_row_30 : decode cX12_row 30 = .ok (.ireturn, 1) := by decide +kernel
theorem dX12_row_31 : decode cX12_row 31 = .ok (.aload_n 0, 1) := by decide +kernel
theorem dX12_row_32 : decode cX12_row 32 = .ok (.getfield 94, 3) := by decide +kernel
theorem dX12_row_35 : decode cX12_row 35 = .ok (.iload_n 1, 1) := by decide +kernel
theorem dX12_row_36 : decode cX12_row 36 = .ok (.bipush (-2), 2) := by decide +kernel
theorem dX12_row_38 : decode cX12_row 38 = .ok (.iload_n 2, 1) := by decide +kernel
theorem dX12_row_39 : decode cX12_row 39 = .ok (.isub, 1) := by decide +kernel
theorem dX12_row_40 : decode cX12_row 40 = .ok (.iastore, 1) := by decide +kernel
theorem dX12_row_41 : decode cX12_row 41 = .ok (.aload_n 0, 1) := by decide +kernel
theorem dX12_row_42 : decode cX12_row 42 = .ok (.getfield 97, 3) := by decide +kernel
theorem dX12_row_45 : decode cX12_row 45 = .ok (.iload_n 1, 1) := by decide +kernel
theorem dX12_row_46 : decode cX12_row 46 = .ok (.iload_n 3, 1) := by decide +kernel
theorem dX12_row_47 : decode cX12_row 47 = .ok (.iastore, 1) := by decide +kernel
theorem dX12_row_48 : decode cX12_row 48 = .ok (.bipush 60, 2) := by decide +kernel
theorem dX12_row_50 : decode cX12_row 50 = .ok (.iload_n 1, 1) := by decide +kernel
theorem dX12_row_51 : decode cX12_row 51 = .ok (.imul, 1) := by decide +kernel
theorem dX12_row_52 : decode cX12_row 52 = .ok (.istore 4, 2) := by decide +kernel
theorem dX12_row_54 : decode cX12_row 54 = .ok (.iload 4, 2) := by decide +kernel
theorem dX12_row_56 : decode cX12_row 56 = .ok (.bipush 60, 2) := by decide +kernel
theorem dX12_row_58 : decode cX12_row 58 = .ok (.iload_n 1, 1) := by decide +kernel
theorem dX12_row_59 : decode cX12_row 59 = .ok (.imul, 1) := by decide +kernel
theorem dX12_row_60 : decode cX12_row 60 = .ok (.bipush 60, 2) := by decide +kernel
theorem dX12_row_62 : decode cX12_row 62 = .ok (.iadd, 1) := by decide +kernel
theorem dX12_row_63 : decode cX12_row 63 = .ok (.if_icmp .ge 17, 3) := by decide +kernel
theorem dX12_row_66 : decode cX12_row 66 = .ok (.aload_n 0, 1) := by decide +kernel
theorem dX12_row_67 : decode cX12_row 67 = .ok (.getfield 100, 3) := by decide +kernel
theorem dX12_row_70 : decode cX12_row 70 = .ok (.iload 4, 2) := by decide +kernel
theorem dX12_row_72 : decode cX12_row 72 = .ok (.lconst 0, 1) := by decide +kernel
theorem dX12_row_73 : decode cX12_row 73 = .ok (.lastore, 1) := by decide +kernel
theorem dX12_row_74 : decode cX12_row 74 = .ok (.iinc 4 1, 3) := by decide +kernel
theorem dX12_row_77 : decode cX12_row 77 = .ok (.goto (-23), 3) := by decide +kernel
theorem dX12_row_80 : decode cX12_row 80 = .ok (.iconst 1, 1) := by decide +kernel
theorem dX12_row_81 : decode cX12_row 81 = .ok (.ireturn, 1) := by decide +kernel
theorem dX12_whyNoPlace_0 : decode cX12_whyNoPlace 0 = .ok (.iload_n 1, 1) := by decide +kernel
theorem dX12_whyNoPlace_1 : decode cX12_whyNoPlace 1 = .ok (.invokestatic 330, 3) := by decide +kernel
theorem dX12_whyNoPlace_4 : decode cX12_whyNoPlace 4 = .ok (.ifCond .ne 5, 3) := by decide +kernel
theorem dX12_whyNoPlace_7 : decode cX12_whyNoPlace 7 = .ok (.iconst (-1), 1) := by decide +kernel
theorem dX12_whyNoPlace_8 : decode cX12_whyNoPlace 8 = .ok (.ireturn, 1) := by decide +kernel
theorem dX12_whyNoPlace_9 : decode cX12_whyNoPlace 9 = .ok (.aload_n 0, 1) := by decide +kernel
theorem dX12_whyNoPlace_10 : decode cX12_whyNoPlace 10 = .ok (.getfield 94, 3) := by decide +kernel
theorem dX12_whyNoPlace_13 : decode cX12_whyNoPlace 13 = .ok (.iload_n 1, 1) := by decide +kernel
theorem dX12_whyNoPlace_14 : decode cX12_whyNoPlace 14 = .ok (.iaload, 1) := by decide +kernel
theorem dX12_whyNoPlace_15 : decode cX12_whyNoPlace 15 = .ok (.iconst (-1), 1) := by decide +kernel
theorem dX12_whyNoPlace_16 : decode cX12_whyNoPlace 16 = .ok (.if_icmp .ne 6, 3) := by decide +kernel
theorem dX12_whyNoPlace_19 : decode cX12_whyNoPlace 19 = .ok (.bipush (-11), 2) := by decide +kernel
theorem dX12_whyNoPlace_21 : decode cX12_whyNoPlace 21 = .ok (.ireturn, 1) := by decide +kernel
theorem dX12_whyNoPlace_22 : decode cX12_whyNoPlace 22 = .ok (.aload_n 0, 1) := by decide +kernel
theorem dX12_whyNoPlace_23 : decode cX12_whyNoPlace 23 = .ok (.getfield 94, 3) := by decide +kernel
theorem dX12_whyNoPlace_26 : decode cX12_whyNoPlace 26 = .ok (.iload_n 1, 1) := by decide +kernel
theorem dX12_whyNoPlace_27 : decode cX12_whyNoPlace 27 = .ok (.iaload, 1) := by decide +kernel
theorem dX12_whyNoPlace_28 : decode cX12_whyNoPlace 28 = .ok (.ifCond .lt 6, 3) := by decide +kernel
theorem dX12_whyNoPlace_31 : decode cX12_whyNoPlace 31 = .ok (.bipush (-12), 2) := by decide +kernel
theorem dX12_whyNoPlace_33 : decode cX12_whyNoPlace 33 = .ok (.ireturn, 1) := by decide +kernel
theorem dX12_whyNoPlace_34 : decode cX12_whyNoPlace 34 = .ok (.iload_n 2, 1) := by decide +kernel
theorem dX12_whyNoPlace_35 : decode cX12_whyNoPlace 35 = .ok (.iconst 0, 1) := by decide +kernel
theorem dX12_whyNoPlace_36 : decode cX12_whyNoPlace 36 = .ok (.aload_n 0, 1) := by decide +kernel
theorem dX12_whyNoPlace_37 : decode cX12_whyNoPlace 37 = .ok (.getfield 97, 3) := by decide +kernel
theorem dX12_whyNoPlace_40 : decode cX12_whyNoPlace 40 = .ok (.iload_n 1, 1) := by decide +kernel
theorem dX12_whyNoPlace_41 : decode cX12_whyNoPlace 41 = .ok (.iaload, 1) := by decide +kernel
theorem dX12_whyNoPlace_42 : decode cX12_whyNoPlace 42 = .ok (.iconst 1, 1) := by decide +kernel
theorem dX12_whyNoPlace_43 : decode cX12_whyNoPlace 43 = .ok (.isub, 1) := by decide +kernel
theorem dX12_whyNoPlace_44 : decode cX12_whyNoPlace 44 = .ok (.invokestatic 110, 3) := by decide +kernel
theorem dX12_whyNoPlace_47 : decode cX12_whyNoPlace 47 = .ok (.ifCond .eq 7, 3) := by decide +kernel
theorem dX12_whyNoPlace_50 : decode cX12_whyNoPlace 50 = .ok (.iconst 0, 1) := by decide +kernel
theorem dX12_whyNoPlace_51 : decode cX12_whyNoPlace 51 = .ok (.goto 5, 3) := by decide +kernel
theorem dX12_whyNoPlace_54 : decode cX12_whyNoPlace 54 = .ok (.bipush (-13), 2) := by decide +kernel
theorem dX12_whyNoPlace_56 : decode cX12_whyNoPlace 56 = .ok (.ireturn, 1) := by decide +kernel
theorem dX12_put_0 : decode cX12_put 0 = .ok (.aload_n 0, 1) := by decide +kernel
theorem dX12_put_1 : decode cX12_put 1 = .ok (.iload_n 1, 1) := by decide +kernel
theorem dX12_put_2 : decode cX12_put 2 = .ok (.iload_n 2, 1) := by decide +kernel
theorem dX12_put_3 : decode cX12_put 3 = .ok (.invokevirtual 384, 3) := by decide +kernel
theorem dX12_put_6 : decode cX12_put 6 = .ok (.istore 5, 2) := by decide +kernel
theorem dX12_put_8 : decode cX12_put 8 = .ok (.iload 5, 2) := by decide +kernel
theorem dX12_put_10 : decode cX12_put 10 = .ok (.ifCond .ge 6, 3) := by decide +kernel
theorem dX12_put_13 : decode cX12_put 13 = .ok (.iload 5, 2) := by decide +kernel
theorem dX12_put_15 : decode cX12_put 15 = .ok (.ireturn, 1) := by decide +kernel
theorem dX12_put_16 : decode cX12_put 16 = .ok (.bipush (-2), 2) := by decide +kernel
theorem dX12_put_18 : decode cX12_put 18 = .ok (.aload_n 0, 1) := by decide +kernel
theorem dX12_put_19 : decode cX12_put 19 = .ok (.getfield 94, 3) := by decide +kernel
theorem dX12_put_22 : decode cX12_put 22 = .ok (.iload_n 1, 1) := by decide +kernel
theorem dX12_put_23 : decode cX12_put 23 = .ok (.iaload, 1) := by decide +kernel
theorem dX12_put_24 : decode cX12_put 24 = .ok (.isub, 1) := by decide +kernel
theorem dX12_put_25 : decode cX12_put 25 = .ok (.istore 6, 2) := by decide +kernel
theorem dX12_put_27 : decode cX12_put 27 = .ok (.aload_n 0, 1) := by decide +kernel
theorem dX12_put_28 : decode cX12_put 28 = .ok (.getfield 100, 3) := by decide +kernel
theorem dX12_put_31 : decode cX12_put 31 = .ok (.bipush 60, 2) := by decide +kernel
theorem dX12_put_33 : decode cX12_put 33 = .ok (.iload_n 1, 1) := by decide +kernel
theorem dX12_put_34 : decode cX12_put 34 = .ok (.imul, 1) := by decide +kernel
theorem dX12_put_35 : decode cX12_put 35 = .ok (.iload_n 2, 1) := by decide +kernel
theorem dX12_put_36 : decode cX12_put 36 = .ok (.iadd, 1) := by decide +kernel
theorem dX12_put_37 : decode cX12_put 37 = .ok (.iload 6, 2) := by decide +kernel
theorem dX12_put_39 : decode cX12_put 39 = .ok (.ifCond .ne 10, 3) := by decide +kernel
theorem dX12_put_42 : decode cX12_put 42 = .ok (.lload_n 3, 1) := by decide +kernel
theorem dX12_put_43 : decode cX12_put 43 = .ok (.l2i, 1) := by decide +kernel
theorem dX12_put_44 : decode cX12_put 44 = .ok (.i2b, 1) := by decide +kernel
theorem dX12_put_45 : decode cX12_put 45 = .ok (.i2l, 1) := by decide +kernel
theorem dX12_put_46 : decode cX12_put 46 = .ok (.goto 49, 3) := by decide +kernel
theorem dX12_put_49 : decode cX12_put 49 = .ok (.iload 6, 2) := by decide +kernel
theorem dX12_put_51 : decode cX12_put 51 = .ok (.iconst 1, 1) := by decide +kernel
theorem dX12_put_52 : decode cX12_put 52 = .ok (.if_icmp .ne 10, 3) := by decide +kernel
theorem dX12_put_55 : decode cX12_put 55 = .ok (.lload_n 3, 1) := by decide +kernel
theorem dX12_put_56 : decode cX12_put 56 = .ok (.l2i, 1) := by decide +kernel
theorem dX12_put_57 : decode cX12_put 57 = .ok (.i2s, 1) := by decide +kernel
theorem dX12_put_58 : decode cX12_put 58 = .ok (.i2l, 1) := by decide +kernel
theorem dX12_put_59 : decode cX12_put 59 = .ok (.goto 36, 3) := by decide +kernel
theorem dX12_put_62 : decode cX12_put 62 = .ok (.iload 6, 2) := by decide +kernel
theorem dX12_put_64 : decode cX12_put 64 = .ok (.iconst 2, 1) := by decide +kernel
theorem dX12_put_65 : decode cX12_put 65 = .ok (.if_icmp .ne 9, 3) := by decide +kernel
theorem dX12_put_68 : decode cX12_put 68 = .ok (.lload_n 3, 1) := by decide +kernel
theorem dX12_put_69 : decode cX12_put 69 = .ok (.l2i, 1) := by decide +kernel
theorem dX12_put_70 : decode cX12_put 70 = .ok (.i2l, 1) := by decide +kernel
theorem dX12_put_71 : decode cX12_put 71 = .ok (.goto 24, 3) := by decide +kernel
theorem dX12_put_74 : decode cX12_put 74 = .ok (.iload 6, 2) := by decide +kernel
theorem dX12_put_76 : decode cX12_put 76 = .ok (.iconst 3, 1) := by decide +kernel
theorem dX12_put_77 : decode cX12_put 77 = .ok (.if_icmp .ne 7, 3) := by decide +kernel
theorem dX12_put_80 : decode cX12_put 80 = .ok (.lload_n 3, 1) := by decide +kernel
theorem dX12_put_81 : decode cX12_put 81 = .ok (.goto 14, 3) := by decide +kernel
theorem dX12_put_84 : decode cX12_put 84 = .ok (.lload_n 3, 1) := by decide +kernel
theorem dX12_put_85 : decode cX12_put 85 = .ok (.lconst 0, 1) := by decide +kernel
theorem dX12_put_86 : decode cX12_put 86 = .ok (.lcmp, 1) := by decide +kernel
theorem dX12_put_87 : decode cX12_put 87 = .ok (.ifCond .eq 7, 3) := by decide +kernel
theorem dX12_put_90 : decode cX12_put 90 = .ok (.lconst 1, 1) := by decide +kernel
theorem dX12_put_91 : decode cX12_put 91 = .ok (.goto 4, 3) := by decide +kernel
theorem dX12_put_94 : decode cX12_put 94 = .ok (.lconst 0, 1) := by decide +kernel
theorem dX12_put_95 : decode cX12_put 95 = .ok (.lastore, 1) := by decide +kernel
theorem dX12_put_96 : decode cX12_put 96 = .ok (.iconst 1, 1) := by decide +kernel
theorem dX12_put_97 : decode cX12_put 97 = .ok (.ireturn, 1) := by decide +kernel
theorem dX12_element_0 : decode cX12_element 0 = .ok (.aload_n 0, 1) := by decide +kernel
theorem dX12_element_1 : decode cX12_element 1 = .ok (.iload_n 1, 1) := by decide +kernel
theorem dX12_element_2 : decode cX12_element 2 = .ok (.iload_n 2, 1) := by decide +kernel
theorem dX12_element_3 : decode cX12_element 3 = .ok (.invokevirtual 384, 3) := by decide +kernel
theorem dX12_element_6 : decode cX12_element 6 = .ok (.ifCond .ge 9, 3) := by decide +kernel
theorem dX12_element_9 : decode cX12_element 9 = .ok (.ldc2_w 389, 3) := by decide +kernel
theorem dX12_element_12 : decode cX12_element 12 = .ok (.goto 14, 3) := by decide +kernel
theorem dX12_element_15 : decode cX12_element 15 = .ok (.aload_n 0, 1) := by decide +kernel
theorem dX12_element_16 : decode cX12_element 16 = .ok (.getfield 100, 3) := by decide +kernel
theorem dX12_element_19 : decode cX12_element 19 = .ok (.bipush 60, 2) := by decide +kernel
theorem dX12_element_21 : decode cX12_element 21 = .ok (.iload_n 1, 1) := by decide +kernel
theorem dX12_element_22 : decode cX12_element 22 = .ok (.imul, 1) := by decide +kernel
theorem dX12_element_23 : decode cX12_element 23 = .ok (.iload_n 2, 1) := by decide +kernel
theorem dX12_element_24 : decode cX12_element 24 = .ok (.iadd, 1) := by decide +kernel
theorem dX12_element_25 : decode cX12_element 25 = .ok (.laload, 1) := by decide +kernel
theorem dX12_element_26 : decode cX12_element 26 = .ok (.lreturn, 1) := by decide +kernel
theorem dX12_shift_0 : decode cX12_shift 0 = .ok (.iload_n 1, 1) := by decide +kernel
theorem dX12_shift_1 : decode cX12_shift 1 = .ok (.invokestatic 330, 3) := by decide +kernel
theorem dX12_shift_4 : decode cX12_shift 4 = .ok (.ifCond .eq 10, 3) := by decide +kernel
theorem dX12_shift_7 : decode cX12_shift 7 = .ok (.iload_n 3, 1) := by decide +kernel
theorem dX12_shift_8 : decode cX12_shift 8 = .ok (.invokestatic 330, 3) := by decide +kernel
theorem dX12_shift_11 : decode cX12_shift 11 = .ok (.ifCond .ne 5, 3) := by decide +kernel
theorem dX12_shift_14 : decode cX12_shift 14 = .ok (.iconst (-1), 1) := by decide +kernel
theorem dX12_shift_15 : decode cX12_shift 15 = .ok (.ireturn, 1) := by decide +kernel
theorem dX12_shift_16 : decode cX12_shift 16 = .ok (.aload_n 0, 1) := by decide +kernel
theorem dX12_shift_17 : decode cX12_shift 17 = .ok (.getfield 94, 3) := by decide +kernel
theorem dX12_shift_20 : decode cX12_shift 20 = .ok (.iload_n 1, 1) := by decide +kernel
theorem dX12_shift_21 : decode cX12_shift 21 = .ok (.iaload, 1) := by decide +kernel
theorem dX12_shift_22 : decode cX12_shift 22 = .ok (.iconst (-1), 1) := by decide +kernel
theorem dX12_shift_23 : decode cX12_shift 23 = .ok (.if_icmp .eq 13, 3) := by decide +kernel
theorem dX12_shift_26 : decode cX12_shift 26 = .ok (.aload_n 0, 1) := by decide +kernel
theorem dX12_shift_27 : decode cX12_shift 27 = .ok (.getfield 94, 3) := by decide +kernel
theorem dX12_shift_30 : decode cX12_shift 30 = .ok (.iload_n 3, 1) := by decide +kernel
theorem dX12_shift_31 : decode cX12_shift 31 = .ok (.iaload, 1) := by decide +kernel
theorem dX12_shift_32 : decode cX12_shift 32 = .ok (.iconst (-1), 1) := by decide +kernel
theorem dX12_shift_33 : decode cX12_shift 33 = .ok (.if_icmp .ne 6, 3) := by decide +kernel
theorem dX12_shift_36 : decode cX12_shift 36 = .ok (.bipush (-11), 2) := by decide +kernel
theorem dX12_shift_38 : decode cX12_shift 38 = .ok (.ireturn, 1) := by decide +kernel
theorem dX12_shift_39 : decode cX12_shift 39 = .ok (.aload_n 0, 1) := by decide +kernel
theorem dX12_shift_40 : decode cX12_shift 40 = .ok (.getfield 94, 3) := by decide +kernel
theorem dX12_shift_43 : decode cX12_shift 43 = .ok (.iload_n 1, 1) := by decide +kernel
theorem dX12_shift_44 : decode cX12_shift 44 = .ok (.iaload, 1) := by decide +kernel
theorem dX12_shift_45 : decode cX12_shift 45 = .ok (.ifCond .ge 18, 3) := by decide +kernel
theorem dX12_shift_48 : decode cX12_shift 48 = .ok (.aload_n 0, 1) := by decide +kernel
theorem dX12_shift_49 : decode cX12_shift 49 = .ok (.getfield 94, 3) := by decide +kernel
theorem dX12_shift_52 : decode cX12_shift 52 = .ok (.iload_n 1, 1) := by decide +kernel
theorem dX12_shift_53 : decode cX12_shift 53 = .ok (.iaload, 1) := by decide +kernel
theorem dX12_shift_54 : decode cX12_shift 54 = .ok (.aload_n 0, 1) := by decide +kernel
theorem dX12_shift_55 : decode cX12_shift 55 = .ok (.getfield 94, 3) := by decide +kernel
theorem dX12_shift_58 : decode cX12_shift 58 = .ok (.iload_n 3, 1) := by decide +kernel
theorem dX12_shift_59 : decode cX12_shift 59 = .ok (.iaload, 1) := by decide +kernel
theorem dX12_shift_60 : decode cX12_shift 60 = .ok (.if_icmp .eq 6, 3) := by decide +kernel
theorem dX12_shift_63 : decode cX12_shift 63 = .ok (.bipush (-12), 2) := by decide +kernel
theorem dX12_shift_65 : decode cX12_shift 65 = .ok (.ireturn, 1) := by decide +kernel
theorem dX12_shift_66 : decode cX12_shift 66 = .ok (.iload 5, 2) := by decide +kernel
theorem dX12_shift_68 : decode cX12_shift 68 = .ok (.ifCond .lt 39, 3) := by decide +kernel
theorem dX12_shift_71 : decode cX12_shift 71 = .ok (.iload_n 2, 1) := by decide +kernel
theorem dX12_shift_72 : decode cX12_shift 72 = .ok (.ifCond .lt 35, 3) := by decide +kernel
theorem dX12_shift_75 : decode cX12_shift 75 = .ok (.iload 4, 2) := by decide +kernel
theorem dX12_shift_77 : decode cX12_shift 77 = .ok (.ifCond .lt 30, 3) := by decide +kernel
theorem dX12_shift_80 : decode cX12_shift 80 = .ok (.iload_n 2, 1) := by decide +kernel
theorem dX12_shift_81 : decode cX12_shift 81 = .ok (.aload_n 0, 1) := by decide +kernel
theorem dX12_shift_82 : decode cX12_shift 82 = .ok (.getfield 97, 3) := by decide +kernel
theorem dX12_shift_85 : decode cX12_shift 85 = .ok (.iload_n 1, 1) := by decide +kernel
theorem dX12_shift_86 : decode cX12_shift 86 = .ok (.iaload, 1) := by decide +kernel
theorem dX12_shift_87 : decode cX12_shift 87 = .ok (.iload 5, 2) := by decide +kernel
theorem dX12_shift_89 : decode cX12_shift 89 = .ok (.isub, 1) := by decide +kernel
theorem dX12_shift_90 : decode cX12_shift 90 = .ok (.if_icmp .gt 17, 3) := by decide +kernel
theorem dX12_shift_93 : decode cX12_shift 93 = .ok (.iload 4, 2) := by decide +kernel
theorem dX12_shift_95 : decode cX12_shift 95 = .ok (.aload_n 0, 1) := by decide +kernel
theorem dX12_shift_96 : decode cX12_shift 96 = .ok (.getfield 97, 3) := by decide +kernel
theorem dX12_shift_99 : decode cX12_shift 99 = .ok (.iload_n 3, 1) := by decide +kernel
theorem dX12_shift_100 : decode cX12_shift 100 = .ok (.iaload, 1) := by decide +kernel
theorem dX12_shift_101 : decode cX12_shift 101 = .ok (.iload 5, 2) := by decide +kernel
theorem dX12_shift_103 : decode cX12_shift 103 = .ok (.isub, 1) := by decide +kernel
theorem dX12_shift_104 : decode cX12_shift 104 = .ok (.if_icmp .le 6, 3) := by decide +kernel
theorem dX12_shift_107 : decode cX12_shift 107 = .ok (.bipush (-13), 2) := by decide +kernel
theorem dX12_shift_109 : decode cX12_shift 109 = .ok (.ireturn, 1) := by decide +kernel
theorem dX12_shift_110 : decode cX12_shift 110 = .ok (.iconst 0, 1) := by decide +kernel
theorem dX12_shift_111 : decode cX12_shift 111 = .ok (.istore 6, 2) := by decide +kernel
theorem dX12_shift_113 : decode cX12_shift 113 = .ok (.iload 6, 2) := by decide +kernel
theorem dX12_shift_115 : decode cX12_shift 115 = .ok (.iload 5, 2) := by decide +kernel
theorem dX12_shift_117 : decode cX12_shift 117 = .ok (.if_icmp .ge 30, 3) := by decide +kernel
theorem dX12_shift_120 : decode cX12_shift 120 = .ok (.aload_n 0, 1) := by decide +kernel
theorem dX12_shift_121 : decode cX12_shift 121 = .ok (.getfield 104, 3) := by decide +kernel
theorem dX12_shift_124 : decode cX12_shift 124 = .ok (.iload 6, 2) := by decide +kernel
theorem dX12_shift_126 : decode cX12_shift 126 = .ok (.aload_n 0, 1) := by decide +kernel
theorem dX12_shift_127 : decode cX12_shift 127 = .ok (.getfield 100, 3) := by decide +kernel
theorem dX12_shift_130 : decode cX12_shift 130 = .ok (.bipush 60, 2) := by decide +kernel
theorem dX12_shift_132 : decode cX12_shift 132 = .ok (.iload_n 1, 1) := by decide +kernel
theorem dX12_shift_133 : decode cX12_shift 133 = .ok (.imul, 1) := by decide +kernel
theorem dX12_shift_134 : decode cX12_shift 134 = .ok (.iload_n 2, 1) := by decide +kernel
theorem dX12_shift_135 : decode cX12_shift 135 = .ok (.iadd, 1) := by decide +kernel
theorem dX12_shift_136 : decode cX12_shift 136 = .ok (.iload 6, 2) := by decide +kernel
theorem dX12_shift_138 : decode cX12_shift 138 = .ok (.iadd, 1) := by decide +kernel
theorem dX12_shift_139 : decode cX12_shift 139 = .ok (.laload, 1) := by decide +kernel
theorem dX12_shift_140 : decode cX12_shift 140 = .ok (.lastore, 1) := by decide +kernel
theorem dX12_shift_141 : decode cX12_shift 141 = .ok (.iinc 6 1, 3) := by decide +kernel
theorem dX12_shift_144 : decode cX12_shift 144 = .ok (.goto (-31), 3) := by decide +kernel
theorem dX12_shift_147 : decode cX12_shift 147 = .ok (.iconst 0, 1) := by decide +kernel
theorem dX12_shift_148 : decode cX12_shift 148 = .ok (.istore 6, 2) := by decide +kernel
theorem dX12_shift_150 : decode cX12_shift 150 = .ok (.iload 6, 2) := by decide +kernel
theorem dX12_shift_152 : decode cX12_shift 152 = .ok (.iload 5, 2) := by decide +kernel
theorem dX12_shift_154 : decode cX12_shift 154 = .ok (.if_icmp .ge 31, 3) := by decide +kernel
theorem dX12_shift_157 : decode cX12_shift 157 = .ok (.aload_n 0, 1) := by decide +kernel
theorem dX12_shift_158 : decode cX12_shift 158 = .ok (.getfield 100, 3) := by decide +kernel
theorem dX12_shift_161 : decode cX12_shift 161 = .ok (.bipush 60, 2) := by decide +kernel
theorem dX12_shift_163 : decode cX12_shift 163 = .ok (.iload_n 3, 1) := by decide +kernel
theorem dX12_shift_164 : decode cX12_shift 164 = .ok (.imul, 1) := by decide +kernel
theorem dX12_shift_165 : decode cX12_shift 165 = .ok (.iload 4, 2) := by decide +kernel
theorem dX12_shift_167 : decode cX12_shift 167 = .ok (.iadd, 1) := by decide +kernel
theorem dX12_shift_168 : decode cX12_shift 168 = .ok (.iload 6, 2) := by decide +kernel
theorem dX12_shift_170 : decode cX12_shift 170 = .ok (.iadd, 1) := by decide +kernel
theorem dX12_shift_171 : decode cX12_shift 171 = .ok (.aload_n 0, 1) := by decide +kernel
theorem dX12_shift_172 : decode cX12_shift 172 = .ok (.getfield 104, 3) := by decide +kernel
theorem dX12_shift_175 : decode cX12_shift 175 = .ok (.iload 6, 2) := by decide +kernel
theorem dX12_shift_177 : decode cX12_shift 177 = .ok (.laload, 1) := by decide +kernel
theorem dX12_shift_178 : decode cX12_shift 178 = .ok (.lastore, 1) := by decide +kernel
theorem dX12_shift_179 : decode cX12_shift 179 = .ok (.iinc 6 1, 3) := by decide +kernel
theorem dX12_shift_182 : decode cX12_shift 182 = .ok (.goto (-32), 3) := by decide +kernel
theorem dX12_shift_185 : decode cX12_shift 185 = .ok (.iload 5, 2) := by decide +kernel
theorem dX12_shift_187 : decode cX12_shift 187 = .ok (.ireturn, 1) := by decide +kernel
theorem dX12_taken_0 : decode cX12_taken 0 = .ok (.iload_n 1, 1) := by decide +kernel
theorem dX12_taken_1 : decode cX12_taken 1 = .ok (.invokestatic 330, 3) := by decide +kernel
theorem dX12_taken_4 : decode cX12_taken 4 = .ok (.ifCond .eq 13, 3) := by decide +kernel
theorem dX12_taken_7 : decode cX12_taken 7 = .ok (.iload_n 2, 1) := by decide +kernel
theorem dX12_taken_8 : decode cX12_taken 8 = .ok (.iconst 0, 1) := by decide +kernel
theorem dX12_taken_9 : decode cX12_taken 9 = .ok (.bipush 7, 2) := by decide +kernel
theorem dX12_taken_11 : decode cX12_taken 11 = .ok (.invokestatic 110, 3) := by decide +kernel
theorem dX12_taken_14 : decode cX12_taken 14 = .ok (.ifCond .ne 5, 3) := by decide +kernel
theorem dX12_taken_17 : decode cX12_taken 17 = .ok (.iconst (-1), 1) := by decide +kernel
theorem dX12_taken_18 : decode cX12_taken 18 = .ok (.ireturn, 1) := by decide +kernel
theorem dX12_taken_19 : decode cX12_taken 19 = .ok (.aload_n 0, 1) := by decide +kernel
theorem dX12_taken_20 : decode cX12_taken 20 = .ok (.getfield 94, 3) := by decide +kernel
theorem dX12_taken_23 : decode cX12_taken 23 = .ok (.iload_n 1, 1) := by decide +kernel
theorem dX12_taken_24 : decode cX12_taken 24 = .ok (.iaload, 1) := by decide +kernel
theorem dX12_taken_25 : decode cX12_taken 25 = .ok (.iconst (-1), 1) := by decide +kernel
theorem dX12_taken_26 : decode cX12_taken 26 = .ok (.if_icmp .ne 6, 3) := by decide +kernel
theorem dX12_taken_29 : decode cX12_taken 29 = .ok (.bipush (-11), 2) := by decide +kernel
theorem dX12_taken_31 : decode cX12_taken 31 = .ok (.ireturn, 1) := by decide +kernel
theorem dX12_taken_32 : decode cX12_taken 32 = .ok (.aload_n 0, 1) := by decide +kernel
theorem dX12_taken_33 : decode cX12_taken 33 = .ok (.getfield 94, 3) := by decide +kernel
theorem dX12_taken_36 : decode cX12_taken 36 = .ok (.iload_n 1, 1) := by decide +kernel
theorem dX12_taken_37 : decode cX12_taken 37 = .ok (.iaload, 1) := by decide +kernel
theorem dX12_taken_38 : decode cX12_taken 38 = .ok (.ifCond .lt 35, 3) := by decide +kernel
theorem dX12_taken_41 : decode cX12_taken 41 = .ok (.aload_n 0, 1) := by decide +kernel
theorem dX12_taken_42 : decode cX12_taken 42 = .ok (.getfield 88, 3) := by decide +kernel
theorem dX12_taken_45 : decode cX12_taken 45 = .ok (.aload_n 0, 1) := by decide +kernel
theorem dX12_taken_46 : decode cX12_taken 46 = .ok (.getfield 94, 3) := by decide +kernel
theorem dX12_taken_49 : decode cX12_taken 49 = .ok (.iload_n 1, 1) := by decide +kernel
theorem dX12_taken_50 : decode cX12_taken 50 = .ok (.iaload, 1) := by decide +kernel
theorem dX12_taken_51 : decode cX12_taken 51 = .ok (.iaload, 1) := by decide +kernel
theorem dX12_taken_52 : decode cX12_taken 52 = .ok (.iload_n 2, 1) := by decide +kernel
theorem dX12_taken_53 : decode cX12_taken 53 = .ok (.invokestatic 348, 3) := by decide +kernel
theorem dX12_taken_56 : decode cX12_taken 56 = .ok (.ifCond .eq 17, 3) := by decide +kernel
theorem dX12_taken_59 : decode cX12_taken 59 = .ok (.aload_n 0, 1) := by decide +kernel
theorem dX12_taken_60 : decode cX12_taken 60 = .ok (.getfield 88, 3) := by decide +kernel
theorem dX12_taken_63 : decode cX12_taken 63 = .ok (.aload_n 0, 1) := by decide +kernel
theorem dX12_taken_64 : decode cX12_taken 64 = .ok (.getfield 94, 3) := by decide +kernel
theorem dX12_taken_67 : decode cX12_taken 67 = .ok (.iload_n 1, 1) := by decide +kernel
theorem dX12_taken_68 : decode cX12_taken 68 = .ok (.iaload, 1) := by decide +kernel
theorem dX12_taken_69 : decode cX12_taken 69 = .ok (.iaload, 1) := by decide +kernel
theorem dX12_taken_70 : decode cX12_taken 70 = .ok (.goto 5, 3) := by decide +kernel
theorem dX12_taken_73 : decode cX12_taken 73 = .ok (.bipush (-12), 2) := by decide +kernel
theorem dX12_taken_75 : decode cX12_taken 75 = .ok (.ireturn, 1) := by decide +kernel
