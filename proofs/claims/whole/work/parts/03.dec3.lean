theorem dX7_feed_17 : decode cX7_feed 17 = .ok (.ldc 70, 2) := by decide +kernel
theorem dX7_feed_19 : decode cX7_feed 19 = .ok (.ireturn, 1) := by decide +kernel
theorem dX7_feed_20 : decode cX7_feed 20 = .ok (.aload_n 0, 1) := by decide +kernel
theorem dX7_feed_21 : decode cX7_feed 21 = .ok (.getfield 77, 3) := by decide +kernel
theorem dX7_feed_24 : decode cX7_feed 24 = .ok (.bipush 120, 2) := by decide +kernel
theorem dX7_feed_26 : decode cX7_feed 26 = .ok (.if_icmp .ne 6, 3) := by decide +kernel
theorem dX7_feed_29 : decode cX7_feed 29 = .ok (.ldc 80, 2) := by decide +kernel
theorem dX7_feed_31 : decode cX7_feed 31 = .ok (.ireturn, 1) := by decide +kernel
theorem dX7_feed_32 : decode cX7_feed 32 = .ok (.aload_n 0, 1) := by decide +kernel
theorem dX7_feed_33 : decode cX7_feed 33 = .ok (.getfield 31, 3) := by decide +kernel
theorem dX7_feed_36 : decode cX7_feed 36 = .ok (.aload_n 0, 1) := by decide +kernel
theorem dX7_feed_37 : decode cX7_feed 37 = .ok (.getfield 77, 3) := by decide +kernel
theorem dX7_feed_40 : decode cX7_feed 40 = .ok (.iload_n 1, 1) := by decide +kernel
theorem dX7_feed_41 : decode cX7_feed 41 = .ok (.iastore, 1) := by decide +kernel
theorem dX7_feed_42 : decode cX7_feed 42 = .ok (.aload_n 0, 1) := by decide +kernel
theorem dX7_feed_43 : decode cX7_feed 43 = .ok (.dup, 1) := by decide +kernel
theorem dX7_feed_44 : decode cX7_feed 44 = .ok (.getfield 77, 3) := by decide +kernel
theorem dX7_feed_47 : decode cX7_feed 47 = .ok (.iconst 1, 1) := by decide +kernel
theorem dX7_feed_48 : decode cX7_feed 48 = .ok (.iadd, 1) := by decide +kernel
theorem dX7_feed_49 : decode cX7_feed 49 = .ok (.putfield 77, 3) := by decide +kernel
theorem dX7_feed_52 : decode cX7_feed 52 = .ok (.aload_n 0, 1) := by decide +kernel
theorem dX7_feed_53 : decode cX7_feed 53 = .ok (.getfield 77, 3) := by decide +kernel
theorem dX7_feed_56 : decode cX7_feed 56 = .ok (.ireturn, 1) := by decide +kernel
theorem dX7_bad_0 : decode cX7_bad 0 = .ok (.aload_n 0, 1) := by decide +kernel
theorem dX7_bad_1 : decode cX7_bad 1 = .ok (.getfield 81, 3) := by decide +kernel
theorem dX7_bad_4 : decode cX7_bad 4 = .ok (.ifCond .ne 16, 3) := by decide +kernel
theorem dX7_bad_7 : decode cX7_bad 7 = .ok (.aload_n 0, 1) := by decide +kernel
theorem dX7_bad_8 : decode cX7_bad 8 = .ok (.iload_n 1, 1) := by decide +kernel
theorem dX7_bad_9 : decode cX7_bad 9 = .ok (.putfield 81, 3) := by decide +kernel
theorem dX7_bad_12 : decode cX7_bad 12 = .ok (.aload_n 0, 1) := by decide +kernel
theorem dX7_bad_13 : decode cX7_bad 13 = .ok (.aload_n 0, 1) := by decide +kernel
theorem dX7_bad_14 : decode cX7_bad 14 = .ok (.getfield 84, 3) := by decide +kernel
theorem dX7_bad_17 : decode cX7_bad 17 = .ok (.putfield 87, 3) := by decide +kernel
theorem dX7_bad_20 : decode cX7_bad 20 = .ok (.return_, 1) := by decide +kernel
theorem dX7_nextToken_0 : decode cX7_nextToken 0 = .ok (.aload_n 0, 1) := by decide +kernel
theorem dX7_nextToken_1 : decode cX7_nextToken 1 = .ok (.aload_n 0, 1) := by decide +kernel
theorem dX7_nextToken_2 : decode cX7_nextToken 2 = .ok (.getfield 90, 3) := by decide +kernel
theorem dX7_nextToken_5 : decode cX7_nextToken 5 = .ok (.putfield 84, 3) := by decide +kernel
theorem dX7_nextToken_8 : decode cX7_nextToken 8 = .ok (.aload_n 0, 1) := by decide +kernel
theorem dX7_nextToken_9 : decode cX7_nextToken 9 = .ok (.aload_n 0, 1) := by decide +kernel
theorem dX7_nextToken_10 : decode cX7_nextToken 10 = .ok (.getfield 90, 3) := by decide +kernel
theorem dX7_nextToken_13 : decode cX7_nextToken 13 = .ok (.aload_n 0, 1) := by decide +kernel
theorem dX7_nextToken_14 : decode cX7_nextToken 14 = .ok (.getfield 77, 3) := by decide +kernel
theorem dX7_nextToken_17 : decode cX7_nextToken 17 = .ok (.if_icmp .ge 15, 3) := by decide +kernel
theorem dX7_nextToken_20 : decode cX7_nextToken 20 = .ok (.aload_n 0, 1) := by decide +kernel
theorem dX7_nextToken_21 : decode cX7_nextToken 21 = .ok (.getfield 31, 3) := by decide +kernel
theorem dX7_nextToken_24 : decode cX7_nextToken 24 = .ok (.aload_n 0, 1) := by decide +kernel
theorem dX7_nextToken_25 : decode cX7_nextToken 25 = .ok (.getfield 90, 3) := by decide +kernel
theorem dX7_nextToken_28 : decode cX7_nextToken 28 = .ok (.iaload, 1) := by decide +kernel
theorem dX7_nextToken_29 : decode cX7_nextToken 29 = .ok (.goto 5, 3) := by decide +kernel
theorem dX7_nextToken_32 : decode cX7_nextToken 32 = .ok (.ldc 93, 2) := by decide +kernel
theorem dX7_nextToken_34 : decode cX7_nextToken 34 = .ok (.putfield 94, 3) := by decide +kernel
theorem dX7_nextToken_37 : decode cX7_nextToken 37 = .ok (.aload_n 0, 1) := by decide +kernel
theorem dX7_nextToken_38 : decode cX7_nextToken 38 = .ok (.aload_n 0, 1) := by decide +kernel
theorem dX7_nextToken_39 : decode cX7_nextToken 39 = .ok (.getfield 90, 3) := by decide +kernel
theorem dX7_nextToken_42 : decode cX7_nextToken 42 = .ok (.aload_n 0, 1) := by decide +kernel
theorem dX7_nextToken_43 : decode cX7_nextToken 43 = .ok (.getfield 77, 3) := by decide +kernel
theorem dX7_nextToken_46 : decode cX7_nextToken 46 = .ok (.if_icmp .ne 7, 3) := by decide +kernel
theorem dX7_nextToken_49 : decode cX7_nextToken 49 = .ok (.iconst 1, 1) := by decide +kernel
theorem dX7_nextToken_50 : decode cX7_nextToken 50 = .ok (.goto 68, 3) := by decide +kernel
theorem dX7_nextToken_53 : decode cX7_nextToken 53 = .ok (.aload_n 0, 1) := by decide +kernel
theorem dX7_nextToken_54 : decode cX7_nextToken 54 = .ok (.getfield 94, 3) := by decide +kernel
theorem dX7_nextToken_57 : decode cX7_nextToken 57 = .ok (.i2l, 1) := by decide +kernel
theorem dX7_nextToken_58 : decode cX7_nextToken 58 = .ok (.ldc2_w 97, 3) := by decide +kernel
theorem dX7_nextToken_61 : decode cX7_nextToken 61 = .ok (.ldc2_w 99, 3) := by decide +kernel
theorem dX7_nextToken_64 : decode cX7_nextToken 64 = .ok (.invokestatic 60, 3) := by decide +kernel
theorem dX7_nextToken_67 : decode cX7_nextToken 67 = .ok (.ifCond .eq 7, 3) := by decide +kernel
theorem dX7_nextToken_70 : decode cX7_nextToken 70 = .ok (.iconst 2, 1) := by decide +kernel
theorem dX7_nextToken_71 : decode cX7_nextToken 71 = .ok (.goto 47, 3) := by decide +kernel
theorem dX7_nextToken_74 : decode cX7_nextToken 74 = .ok (.aload_n 0, 1) := by decide +kernel
theorem dX7_nextToken_75 : decode cX7_nextToken 75 = .ok (.getfield 94, 3) := by decide +kernel
theorem dX7_nextToken_78 : decode cX7_nextToken 78 = .ok (.i2l, 1) := by decide +kernel
theorem dX7_nextToken_79 : decode cX7_nextToken 79 = .ok (.ldc2_w 101, 3) := by decide +kernel
theorem dX7_nextToken_82 : decode cX7_nextToken 82 = .ok (.ldc2_w 103, 3) := by decide +kernel
theorem dX7_nextToken_85 : decode cX7_nextToken 85 = .ok (.invokestatic 60, 3) := by decide +kernel
theorem dX7_nextToken_88 : decode cX7_nextToken 88 = .ok (.ifCond .eq 7, 3) := by decide +kernel
theorem dX7_nextToken_91 : decode cX7_nextToken 91 = .ok (.iconst 3, 1) := by decide +kernel
theorem dX7_nextToken_92 : decode cX7_nextToken 92 = .ok (.goto 26, 3) := by decide +kernel
theorem dX7_nextToken_95 : decode cX7_nextToken 95 = .ok (.aload_n 0, 1) := by decide +kernel
theorem dX7_nextToken_96 : decode cX7_nextToken 96 = .ok (.getfield 94, 3) := by decide +kernel
theorem dX7_nextToken_99 : decode cX7_nextToken 99 = .ok (.bipush 44, 2) := by decide +kernel
theorem dX7_nextToken_101 : decode cX7_nextToken 101 = .ok (.if_icmp .eq 12, 3) := by decide +kernel
theorem dX7_nextToken_104 : decode cX7_nextToken 104 = .ok (.aload_n 0, 1) := by decide +kernel
theorem dX7_nextToken_105 : decode cX7_nextToken 105 = .ok (.getfield 94, 3) := by decide +kernel
theorem dX7_nextToken_108 : decode cX7_nextToken 108 = .ok (.bipush 59, 2) := by decide +kernel
theorem dX7_nextToken_110 : decode cX7_nextToken 110 = .ok (.if_icmp .ne 7, 3) := by decide +kernel
theorem dX7_nextToken_113 : decode cX7_nextToken 113 = .ok (.iconst 4, 1) := by decide +kernel
theorem dX7_nextToken_114 : decode cX7_nextToken 114 = .ok (.goto 4, 3) := by decide +kernel
theorem dX7_nextToken_117 : decode cX7_nextToken 117 = .ok (.iconst 0, 1) := by decide +kernel
theorem dX7_nextToken_118 : decode cX7_nextToken 118 = .ok (.putfield 105, 3) := by decide +kernel
theorem dX7_nextToken_121 : decode cX7_nextToken 121 = .ok (.aload_n 0, 1) := by decide +kernel
theorem dX7_nextToken_122 : decode cX7_nextToken 122 = .ok (.dup, 1) := by decide +kernel
theorem dX7_nextToken_123 : decode cX7_nextToken 123 = .ok (.getfield 90, 3) := by decide +kernel
theorem dX7_nextToken_126 : decode cX7_nextToken 126 = .ok (.aload_n 0, 1) := by decide +kernel
theorem dX7_nextToken_127 : decode cX7_nextToken 127 = .ok (.getfield 90, 3) := by decide +kernel
theorem dX7_nextToken_130 : decode cX7_nextToken 130 = .ok (.aload_n 0, 1) := by decide +kernel
theorem dX7_nextToken_131 : decode cX7_nextToken 131 = .ok (.getfield 77, 3) := by decide +kernel
theorem dX7_nextToken_134 : decode cX7_nextToken 134 = .ok (.if_icmp .ge 7, 3) := by decide +kernel
theorem dX7_nextToken_137 : decode cX7_nextToken 137 = .ok (.iconst 1, 1) := by decide +kernel
theorem dX7_nextToken_138 : decode cX7_nextToken 138 = .ok (.goto 4, 3) := by decide +kernel
theorem dX7_nextToken_141 : decode cX7_nextToken 141 = .ok (.iconst 0, 1) := by decide +kernel
theorem dX7_nextToken_142 : decode cX7_nextToken 142 = .ok (.iadd, 1) := by decide +kernel
theorem dX7_nextToken_143 : decode cX7_nextToken 143 = .ok (.putfield 90, 3) := by decide +kernel
theorem dX7_nextToken_146 : decode cX7_nextToken 146 = .ok (.aload_n 0, 1) := by decide +kernel
theorem dX7_nextToken_147 : decode cX7_nextToken 147 = .ok (.getfield 105, 3) := by decide +kernel
theorem dX7_nextToken_150 : decode cX7_nextToken 150 = .ok (.iconst 3, 1) := by decide +kernel
theorem dX7_nextToken_151 : decode cX7_nextToken 151 = .ok (.if_icmp .ne 126, 3) := by decide +kernel
theorem dX7_nextToken_154 : decode cX7_nextToken 154 = .ok (.aload_n 0, 1) := by decide +kernel
theorem dX7_nextToken_155 : decode cX7_nextToken 155 = .ok (.dup, 1) := by decide +kernel
theorem dX7_nextToken_156 : decode cX7_nextToken 156 = .ok (.getfield 94, 3) := by decide +kernel
theorem dX7_nextToken_159 : decode cX7_nextToken 159 = .ok (.bipush 48, 2) := by decide +kernel
theorem dX7_nextToken_161 : decode cX7_nextToken 161 = .ok (.isub, 1) := by decide +kernel
theorem dX7_nextToken_162 : decode cX7_nextToken 162 = .ok (.putfield 94, 3) := by decide +kernel
theorem dX7_nextToken_165 : decode cX7_nextToken 165 = .ok (.aload_n 0, 1) := by decide +kernel
theorem dX7_nextToken_166 : decode cX7_nextToken 166 = .ok (.getfield 90, 3) := by decide +kernel
theorem dX7_nextToken_169 : decode cX7_nextToken 169 = .ok (.aload_n 0, 1) := by decide +kernel
theorem dX7_nextToken_170 : decode cX7_nextToken 170 = .ok (.getfield 77, 3) := by decide +kernel
theorem dX7_nextToken_173 : decode cX7_nextToken 173 = .ok (.if_icmp .ge 82, 3) := by decide +kernel
theorem dX7_nextToken_176 : decode cX7_nextToken 176 = .ok (.aload_n 0, 1) := by decide +kernel
theorem dX7_nextToken_177 : decode cX7_nextToken 177 = .ok (.getfield 31, 3) := by decide +kernel
theorem dX7_nextToken_180 : decode cX7_nextToken 180 = .ok (.aload_n 0, 1) := by decide +kernel
theorem dX7_nextToken_181 : decode cX7_nextToken 181 = .ok (.getfield 90, 3) := by decide +kernel
theorem dX7_nextToken_184 : decode cX7_nextToken 184 = .ok (.iaload, 1) := by decide +kernel
theorem dX7_nextToken_185 : decode cX7_nextToken 185 = .ok (.i2l, 1) := by decide +kernel
theorem dX7_nextToken_186 : decode cX7_nextToken 186 = .ok (.ldc2_w 101, 3) := by decide +kernel
theorem dX7_nextToken_189 : decode cX7_nextToken 189 = .ok (.ldc2_w 103, 3) := by decide +kernel
theorem dX7_nextToken_192 : decode cX7_nextToken 192 = .ok (.invokestatic 60, 3) := by decide +kernel
theorem dX7_nextToken_195 : decode cX7_nextToken 195 = .ok (.ifCond .eq 60, 3) := by decide +kernel
theorem dX7_nextToken_198 : decode cX7_nextToken 198 = .ok (.aload_n 0, 1) := by decide +kernel
theorem dX7_nextToken_199 : decode cX7_nextToken 199 = .ok (.aload_n 0, 1) := by decide +kernel
theorem dX7_nextToken_200 : decode cX7_nextToken 200 = .ok (.getfield 90, 3) := by decide +kernel
theorem dX7_nextToken_203 : decode cX7_nextToken 203 = .ok (.aload_n 0, 1) := by decide +kernel
theorem dX7_nextToken_204 : decode cX7_nextToken 204 = .ok (.getfield 84, 3) := by decide +kernel
theorem dX7_nextToken_207 : decode cX7_nextToken 207 = .ok (.isub, 1) := by decide +kernel
theorem dX7_nextToken_208 : decode cX7_nextToken 208 = .ok (.iconst 2, 1) := by decide +kernel
theorem dX7_nextToken_209 : decode cX7_nextToken 209 = .ok (.if_icmp .ge 26, 3) := by decide +kernel
theorem dX7_nextToken_212 : decode cX7_nextToken 212 = .ok (.bipush 10, 2) := by decide +kernel
theorem dX7_nextToken_214 : decode cX7_nextToken 214 = .ok (.aload_n 0, 1) := by decide +kernel
theorem dX7_nextToken_215 : decode cX7_nextToken 215 = .ok (.getfield 94, 3) := by decide +kernel
theorem dX7_nextToken_218 : decode cX7_nextToken 218 = .ok (.imul, 1) := by decide +kernel
theorem dX7_nextToken_219 : decode cX7_nextToken 219 = .ok (.aload_n 0, 1) := by decide +kernel
theorem dX7_nextToken_220 : decode cX7_nextToken 220 = .ok (.getfield 31, 3) := by decide +kernel
theorem dX7_nextToken_223 : decode cX7_nextToken 223 = .ok (.aload_n 0, 1) := by decide +kernel
theorem dX7_nextToken_224 : decode cX7_nextToken 224 = .ok (.getfield 90, 3) := by decide +kernel
theorem dX7_nextToken_227 : decode cX7_nextToken 227 = .ok (.iaload, 1) := by decide +kernel
theorem dX7_nextToken_228 : decode cX7_nextToken 228 = .ok (.iadd, 1) := by decide +kernel
theorem dX7_nextToken_229 : decode cX7_nextToken 229 = .ok (.bipush 48, 2) := by decide +kernel
theorem dX7_nextToken_231 : decode cX7_nextToken 231 = .ok (.isub, 1) := by decide +kernel
theorem dX7_nextToken_232 : decode cX7_nextToken 232 = .ok (.goto 7, 3) := by decide +kernel
theorem dX7_nextToken_235 : decode cX7_nextToken 235 = .ok (.aload_n 0, 1) := by decide +kernel
theorem dX7_nextToken_236 : decode cX7_nextToken 236 = .ok (.getfield 94, 3) := by decide +kernel
theorem dX7_nextToken_239 : decode cX7_nextToken 239 = .ok (.putfield 94, 3) := by decide +kernel
theorem dX7_nextToken_242 : decode cX7_nextToken 242 = .ok (.aload_n 0, 1) := by decide +kernel
theorem dX7_nextToken_243 : decode cX7_nextToken 243 = .ok (.dup, 1) := by decide +kernel
theorem dX7_nextToken_244 : decode cX7_nextToken 244 = .ok (.getfield 90, 3) := by decide +kernel
theorem dX7_nextToken_247 : decode cX7_nextToken 247 = .ok (.iconst 1, 1) := by decide +kernel
theorem dX7_nextToken_248 : decode cX7_nextToken 248 = .ok (.iadd, 1) := by decide +kernel
theorem dX7_nextToken_249 : decode cX7_nextToken 249 = .ok (.putfield 90, 3) := by decide +kernel
theorem dX7_nextToken_252 : decode cX7_nextToken 252 = .ok (.goto (-87), 3) := by decide +kernel
theorem dX7_nextToken_255 : decode cX7_nextToken 255 = .ok (.aload_n 0, 1) := by decide +kernel
theorem dX7_nextToken_256 : decode cX7_nextToken 256 = .ok (.aload_n 0, 1) := by decide +kernel
theorem dX7_nextToken_257 : decode cX7_nextToken 257 = .ok (.getfield 90, 3) := by decide +kernel
theorem dX7_nextToken_260 : decode cX7_nextToken 260 = .ok (.aload_n 0, 1) := by decide +kernel
theorem dX7_nextToken_261 : decode cX7_nextToken 261 = .ok (.getfield 84, 3) := by decide +kernel
theorem dX7_nextToken_264 : decode cX7_nextToken 264 = .ok (.isub, 1) := by decide +kernel
theorem dX7_nextToken_265 : decode cX7_nextToken 265 = .ok (.iconst 2, 1) := by decide +kernel
theorem dX7_nextToken_266 : decode cX7_nextToken 266 = .ok (.if_icmp .le 7, 3) := by decide +kernel
theorem dX7_nextToken_269 : decode cX7_nextToken 269 = .ok (.iconst 0, 1) := by decide +kernel
theorem dX7_nextToken_270 : decode cX7_nextToken 270 = .ok (.goto 4, 3) := by decide +kernel
theorem dX7_nextToken_273 : decode cX7_nextToken 273 = .ok (.iconst 3, 1) := by decide +kernel
theorem dX7_nextToken_274 : decode cX7_nextToken 274 = .ok (.putfield 105, 3) := by decide +kernel
theorem dX7_nextToken_277 : decode cX7_nextToken 277 = .ok (.return_, 1) := by decide +kernel
theorem dX7_must_0 : decode cX7_must 0 = .ok (.iload_n 1, 1) := by decide +kernel
theorem dX7_must_1 : decode cX7_must 1 = .ok (.ifCond .ne 8, 3) := by decide +kernel
theorem dX7_must_4 : decode cX7_must 4 = .ok (.aload_n 0, 1) := by decide +kernel
theorem dX7_must_5 : decode cX7_must 5 = .ok (.iconst 1, 1) := by decide +kernel
theorem dX7_must_6 : decode cX7_must 6 = .ok (.invokevirtual 108, 3) := by decide +kernel
theorem dX7_must_9 : decode cX7_must 9 = .ok (.aload_n 0, 1) := by decide +kernel
theorem dX7_must_10 : decode cX7_must 10 = .ok (.getfield 81, 3) := by decide +kernel
theorem dX7_must_13 : decode cX7_must 13 = .ok (.ifCond .ne 7, 3) := by decide +kernel
theorem dX7_must_16 : decode cX7_must 16 = .ok (.aload_n 0, 1) := by decide +kernel
theorem dX7_must_17 : decode cX7_must 17 = .ok (.invokevirtual 112, 3) := by decide +kernel
theorem dX7_must_20 : decode cX7_must 20 = .ok (.return_, 1) := by decide +kernel
theorem dX7_isLetter_0 : decode cX7_isLetter 0 = .ok (.aload_n 0, 1) := by decide +kernel
theorem dX7_isLetter_1 : decode cX7_isLetter 1 = .ok (.getfield 81, 3) := by decide +kernel
theorem dX7_isLetter_4 : decode cX7_isLetter 4 = .ok (.ifCond .ne 23, 3) := by decide +kernel
theorem dX7_isLetter_7 : decode cX7_isLetter 7 = .ok (.aload_n 0, 1) := by decide +kernel
theorem dX7_isLetter_8 : decode cX7_isLetter 8 = .ok (.getfield 105, 3) := by decide +kernel
theorem dX7_isLetter_11 : decode cX7_isLetter 11 = .ok (.iconst 2, 1) := by decide +kernel
theorem dX7_isLetter_12 : decode cX7_isLetter 12 = .ok (.if_icmp .ne 15, 3) := by decide +kernel
theorem dX7_isLetter_15 : decode cX7_isLetter 15 = .ok (.aload_n 0, 1) := by decide +kernel
theorem dX7_isLetter_16 : decode cX7_isLetter 16 = .ok (.getfield 94, 3) := by decide +kernel
theorem dX7_isLetter_19 : decode cX7_isLetter 19 = .ok (.iload_n 1, 1) := by decide +kernel
theorem dX7_isLetter_20 : decode cX7_isLetter 20 = .ok (.if_icmp .ne 7, 3) := by decide +kernel
theorem dX7_isLetter_23 : decode cX7_isLetter 23 = .ok (.iconst 1, 1) := by decide +kernel
theorem dX7_isLetter_24 : decode cX7_isLetter 24 = .ok (.goto 4, 3) := by decide +kernel
theorem dX7_isLetter_27 : decode cX7_isLetter 27 = .ok (.iconst 0, 1) := by decide +kernel
theorem dX7_isLetter_28 : decode cX7_isLetter 28 = .ok (.ireturn, 1) := by decide +kernel
theorem dX7_number_0 : decode cX7_number 0 = .ok (.aload_n 0, 1) := by decide +kernel
theorem dX7_number_1 : decode cX7_number 1 = .ok (.getfield 81, 3) := by decide +kernel
theorem dX7_number_4 : decode cX7_number 4 = .ok (.ifCond .ne 16, 3) := by decide +kernel
theorem dX7_number_7 : decode cX7_number 7 = .ok (.aload_n 0, 1) := by decide +kernel
theorem dX7_number_8 : decode cX7_number 8 = .ok (.getfield 105, 3) := by decide +kernel
theorem dX7_number_11 : decode cX7_number 11 = .ok (.iconst 3, 1) := by decide +kernel
theorem dX7_number_12 : decode cX7_number 12 = .ok (.if_icmp .eq 8, 3) := by decide +kernel
theorem dX7_number_15 : decode cX7_number 15 = .ok (.aload_n 0, 1) := by decide +kernel
theorem dX7_number_16 : decode cX7_number 16 = .ok (.iconst 1, 1) := by decide +kernel
theorem dX7_number_17 : decode cX7_number 17 = .ok (.invokevirtual 108, 3) := by decide +kernel
theorem dX7_number_20 : decode cX7_number 20 = .ok (.aload_n 0, 1) := by decide +kernel
theorem dX7_number_21 : decode cX7_number 21 = .ok (.getfield 81, 3) := by decide +kernel
theorem dX7_number_24 : decode cX7_number 24 = .ok (.ifCond .ne 23, 3) := by decide +kernel
theorem dX7_number_27 : decode cX7_number 27 = .ok (.aload_n 0, 1) := by decide +kernel
theorem dX7_number_28 : decode cX7_number 28 = .ok (.getfield 94, 3) := by decide +kernel
theorem dX7_number_31 : decode cX7_number 31 = .ok (.i2l, 1) := by decide +kernel
theorem dX7_number_32 : decode cX7_number 32 = .ok (.iload_n 1, 1) := by decide +kernel
theorem dX7_number_33 : decode cX7_number 33 = .ok (.i2l, 1) := by decide +kernel
theorem dX7_number_34 : decode cX7_number 34 = .ok (.iload_n 2, 1) := by decide +kernel
theorem dX7_number_35 : decode cX7_number 35 = .ok (.i2l, 1) := by decide +kernel
theorem dX7_number_36 : decode cX7_number 36 = .ok (.invokestatic 60, 3) := by decide +kernel
theorem dX7_number_39 : decode cX7_number 39 = .ok (.ifCond .ne 8, 3) := by decide +kernel
theorem dX7_number_42 : decode cX7_number 42 = .ok (.aload_n 0, 1) := by decide +kernel
theorem dX7_number_43 : decode cX7_number 43 = .ok (.iconst 2, 1) := by decide +kernel
theorem dX7_number_44 : decode cX7_number 44 = .ok (.invokevirtual 108, 3) := by decide +kernel
theorem dX7_number_47 : decode cX7_number 47 = .ok (.aload_n 0, 1) := by decide +kernel
theorem dX7_number_48 : decode cX7_number 48 = .ok (.getfield 81, 3) := by decide +kernel
theorem dX7_number_51 : decode cX7_number 51 = .ok (.ifCond .ne 10, 3) := by decide +kernel
theorem dX7_number_54 : decode cX7_number 54 = .ok (.aload_n 0, 1) := by decide +kernel
theorem dX7_number_55 : decode cX7_number 55 = .ok (.getfield 94, 3) := by decide +kernel
theorem dX7_number_58 : decode cX7_number 58 = .ok (.goto 4, 3) := by decide +kernel
theorem dX7_number_61 : decode cX7_number 61 = .ok (.iload_n 1, 1) := by decide +kernel
theorem dX7_number_62 : decode cX7_number 62 = .ok (.istore_n 3, 1) := by decide +kernel
theorem dX7_number_63 : decode cX7_number 63 = .ok (.aload_n 0, 1) := by decide +kernel
theorem dX7_number_64 : decode cX7_number 64 = .ok (.iconst 1, 1) := by decide +kernel
theorem dX7_number_65 : decode cX7_number 65 = .ok (.invokevirtual 115, 3) := by decide +kernel
theorem dX7_number_68 : decode cX7_number 68 = .ok (.iload_n 3, 1) := by decide +kernel
theorem dX7_number_69 : decode cX7_number 69 = .ok (.ireturn, 1) := by decide +kernel
theorem dX7_mustSign_0 : decode cX7_mustSign 0 = .ok (.aload_n 0, 1) := by decide +kernel
theorem dX7_mustSign_1 : decode cX7_mustSign 1 = .ok (.aload_n 0, 1) := by decide +kernel
theorem dX7_mustSign_2 : decode cX7_mustSign 2 = .ok (.getfield 105, 3) := by decide +kernel
theorem dX7_mustSign_5 : decode cX7_mustSign 5 = .ok (.iconst 4, 1) := by decide +kernel
theorem dX7_mustSign_6 : decode cX7_mustSign 6 = .ok (.if_icmp .ne 15, 3) := by decide +kernel
theorem dX7_mustSign_9 : decode cX7_mustSign 9 = .ok (.aload_n 0, 1) := by decide +kernel
theorem dX7_mustSign_10 : decode cX7_mustSign 10 = .ok (.getfield 94, 3) := by decide +kernel
theorem dX7_mustSign_13 : decode cX7_mustSign 13 = .ok (.iload_n 1, 1) := by decide +kernel
theorem dX7_mustSign_14 : decode cX7_mustSign 14 = .ok (.if_icmp .ne 7, 3) := by decide +kernel
theorem dX7_mustSign_17 : decode cX7_mustSign 17 = .ok (.iconst 1, 1) := by decide +kernel
theorem dX7_mustSign_18 : decode cX7_mustSign 18 = .ok (.goto 4, 3) := by decide +kernel
theorem dX7_mustSign_21 : decode cX7_mustSign 21 = .ok (.iconst 0, 1) := by decide +kernel
theorem dX7_mustSign_22 : decode cX7_mustSign 22 = .ok (.invokevirtual 115, 3) := by decide +kernel
theorem dX7_mustSign_25 : decode cX7_mustSign 25 = .ok (.return_, 1) := by decide +kernel
theorem dX7_begin_0 : decode cX7_begin 0 = .ok (.aload_n 0, 1) := by decide +kernel
theorem dX7_begin_1 : decode cX7_begin 1 = .ok (.iconst 0, 1) := by decide +kernel
theorem dX7_begin_2 : decode cX7_begin 2 = .ok (.putfield 90, 3) := by decide +kernel
theorem dX7_begin_5 : decode cX7_begin 5 = .ok (.aload_n 0, 1) := by decide +kernel
theorem dX7_begin_6 : decode cX7_begin 6 = .ok (.iconst 0, 1) := by decide +kernel
theorem dX7_begin_7 : decode cX7_begin 7 = .ok (.putfield 81, 3) := by decide +kernel
theorem dX7_begin_10 : decode cX7_begin 10 = .ok (.aload_n 0, 1) := by decide +kernel
theorem dX7_begin_11 : decode cX7_begin 11 = .ok (.invokevirtual 112, 3) := by decide +kernel
theorem dX7_begin_14 : decode cX7_begin 14 = .ok (.return_, 1) := by decide +kernel
theorem dX7_failed_0 : decode cX7_failed 0 = .ok (.aload_n 0, 1) := by decide +kernel
theorem dX7_failed_1 : decode cX7_failed 1 = .ok (.getfield 81, 3) := by decide +kernel
theorem dX7_failed_4 : decode cX7_failed 4 = .ok (.ifCond .ne 16, 3) := by decide +kernel
theorem dX7_failed_7 : decode cX7_failed 7 = .ok (.aload_n 0, 1) := by decide +kernel
theorem dX7_failed_8 : decode cX7_failed 8 = .ok (.getfield 105, 3) := by decide +kernel
theorem dX7_failed_11 : decode cX7_failed 11 = .ok (.iconst 1, 1) := by decide +kernel
theorem dX7_failed_12 : decode cX7_failed 12 = .ok (.if_icmp .eq 8, 3) := by decide +kernel
theorem dX7_failed_15 : decode cX7_failed 15 = .ok (.aload_n 0, 1) := by decide +kernel
theorem dX7_failed_16 : decode cX7_failed 16 = .ok (.iconst 1, 1) := by decide +kernel
theorem dX7_failed_17 : decode cX7_failed 17 = .ok (.invokevirtual 108, 3) := by decide +kernel
theorem dX7_failed_20 : decode cX7_failed 20 = .ok (.aload_n 0, 1) := by decide +kernel
theorem dX7_failed_21 : decode cX7_failed 21 = .ok (.iconst 0, 1) := by decide +kernel
theorem dX7_failed_22 : decode cX7_failed 22 = .ok (.putfield 77, 3) := by decide +kernel
theorem dX7_failed_25 : decode cX7_failed 25 = .ok (.aload_n 0, 1) := by decide +kernel
theorem dX7_failed_26 : decode cX7_failed 26 = .ok (.aload_n 0, 1) := by decide +kernel
theorem dX7_failed_27 : decode cX7_failed 27 = .ok (.getfield 81, 3) := by decide +kernel
theorem dX7_failed_30 : decode cX7_failed 30 = .ok (.ifCond .le 10, 3) := by decide +kernel
theorem dX7_failed_33 : decode cX7_failed 33 = .ok (.aload_n 0, 1) := by decide +kernel
theorem dX7_failed_34 : decode cX7_failed 34 = .ok (.getfield 81, 3) := by decide +kernel
theorem dX7_failed_37 : decode cX7_failed 37 = .ok (.goto 7, 3) := by decide +kernel
theorem dX7_failed_40 : decode cX7_failed 40 = .ok (.aload_n 0, 1) := by decide +kernel
theorem dX7_failed_41 : decode cX7_failed 41 = .ok (.getfield 119, 3) := by decide +kernel
theorem dX7_failed_44 : decode cX7_failed 44 = .ok (.putfield 119, 3) := by decide +kernel
theorem dX7_failed_47 : decode cX7_failed 47 = .ok (.aload_n 0, 1) := by decide +kernel
theorem dX7_failed_48 : decode cX7_failed 48 = .ok (.getfield 81, 3) := by decide +kernel
theorem dX7_failed_51 : decode cX7_failed 51 = .ok (.ifCond .le 7, 3) := by decide +kernel
theorem dX7_failed_54 : decode cX7_failed 54 = .ok (.iconst 1, 1) := by decide +kernel
theorem dX7_failed_55 : decode cX7_failed 55 = .ok (.goto 4, 3) := by decide +kernel
theorem dX7_failed_58 : decode cX7_failed 58 = .ok (.iconst 0, 1) := by decide +kernel
theorem dX7_failed_59 : decode cX7_failed 59 = .ok (.ireturn, 1) := by decide +kernel
theorem dX7_fault_0 : decode cX7_fault 0 = .ok (.aload_n 0, 1) := by decide +kernel
theorem dX7_fault_1 : decode cX7_fault 1 = .ok (.iconst 0, 1) := by decide +kernel
theorem dX7_fault_2 : decode cX7_fault 2 = .ok (.putfield 50, 3) := by decide +kernel
theorem dX7_fault_5 : decode cX7_fault 5 = .ok (.aload_n 0, 1) := by decide +kernel
theorem dX7_fault_6 : decode cX7_fault 6 = .ok (.getfield 119, 3) := by decide +kernel
theorem dX7_fault_9 : decode cX7_fault 9 = .ok (.ireturn, 1) := by decide +kernel
theorem dX7_kindBy_0 : decode cX7_kindBy 0 = .ok (.iload_n 0, 1) := by decide +kernel
theorem dX7_kindBy_1 : decode cX7_kindBy 1 = .ok (.bipush 104, 2) := by decide +kernel
theorem dX7_kindBy_3 : decode cX7_kindBy 3 = .ok (.if_icmp .ne 7, 3) := by decide +kernel
theorem dX7_kindBy_6 : decode cX7_kindBy 6 = .ok (.iconst 1, 1) := by decide +kernel
theorem dX7_kindBy_7 : decode cX7_kindBy 7 = .ok (.goto 45, 3) := by decide +kernel
theorem dX7_kindBy_10 : decode cX7_kindBy 10 = .ok (.iload_n 0, 1) := by decide +kernel
theorem dX7_kindBy_11 : decode cX7_kindBy 11 = .ok (.bipush 98, 2) := by decide +kernel
theorem dX7_kindBy_13 : decode cX7_kindBy 13 = .ok (.if_icmp .ne 7, 3) := by decide +kernel
theorem dX7_kindBy_16 : decode cX7_kindBy 16 = .ok (.iconst 2, 1) := by decide +kernel
theorem dX7_kindBy_17 : decode cX7_kindBy 17 = .ok (.goto 35, 3) := by decide +kernel
theorem dX7_kindBy_20 : decode cX7_kindBy 20 = .ok (.iload_n 0, 1) := by decide +kernel
theorem dX7_kindBy_21 : decode cX7_kindBy 21 = .ok (.bipush 100, 2) := by decide +kernel
theorem dX7_kindBy_23 : decode cX7_kindBy 23 = .ok (.if_icmp .ne 7, 3) := by decide +kernel
theorem dX7_kindBy_26 : decode cX7_kindBy 26 = .ok (.iconst 3, 1) := by decide +kernel
theorem dX7_kindBy_27 : decode cX7_kindBy 27 = .ok (.goto 25, 3) := by decide +kernel
theorem dX7_kindBy_30 : decode cX7_kindBy 30 = .ok (.iload_n 0, 1) := by decide +kernel
theorem dX7_kindBy_31 : decode cX7_kindBy 31 = .ok (.bipush 116, 2) := by decide +kernel
theorem dX7_kindBy_33 : decode cX7_kindBy 33 = .ok (.if_icmp .ne 7, 3) := by decide +kernel
theorem dX7_kindBy_36 : decode cX7_kindBy 36 = .ok (.iconst 4, 1) := by decide +kernel
theorem dX7_kindBy_37 : decode cX7_kindBy 37 = .ok (.goto 15, 3) := by decide +kernel
theorem dX7_kindBy_40 : decode cX7_kindBy 40 = .ok (.iload_n 0, 1) := by decide +kernel
theorem dX7_kindBy_41 : decode cX7_kindBy 41 = .ok (.bipush 110, 2) := by decide +kernel
theorem dX7_kindBy_43 : decode cX7_kindBy 43 = .ok (.if_icmp .ne 7, 3) := by decide +kernel
theorem dX7_kindBy_46 : decode cX7_kindBy 46 = .ok (.iconst 5, 1) := by decide +kernel
theorem dX7_kindBy_47 : decode cX7_kindBy 47 = .ok (.goto 5, 3) := by decide +kernel
theorem dX7_kindBy_50 : decode cX7_kindBy 50 = .ok (.ldc 93, 2) := by decide +kernel
theorem dX7_kindBy_52 : decode cX7_kindBy 52 = .ok (.ireturn, 1) := by decide +kernel
theorem dX7_isSort_0 : decode cX7_isSort 0 = .ok (.aload_n 0, 1) := by decide +kernel
theorem dX7_isSort_1 : decode cX7_isSort 1 = .ok (.getfield 81, 3) := by decide +kernel
theorem dX7_isSort_4 : decode cX7_isSort 4 = .ok (.ifCond .ne 27, 3) := by decide +kernel
theorem dX7_isSort_7 : decode cX7_isSort 7 = .ok (.aload_n 0, 1) := by decide +kernel
theorem dX7_isSort_8 : decode cX7_isSort 8 = .ok (.getfield 105, 3) := by decide +kernel
theorem dX7_isSort_11 : decode cX7_isSort 11 = .ok (.iconst 2, 1) := by decide +kernel
theorem dX7_isSort_12 : decode cX7_isSort 12 = .ok (.if_icmp .ne 19, 3) := by decide +kernel
theorem dX7_isSort_15 : decode cX7_isSort 15 = .ok (.aload_n 0, 1) := by decide +kernel
theorem dX7_isSort_16 : decode cX7_isSort 16 = .ok (.getfield 94, 3) := by decide +kernel
theorem dX7_isSort_19 : decode cX7_isSort 19 = .ok (.invokestatic 122, 3) := by decide +kernel
theorem dX7_isSort_22 : decode cX7_isSort 22 = .ok (.ldc 93, 2) := by decide +kernel
theorem dX7_isSort_24 : decode cX7_isSort 24 = .ok (.if_icmp .eq 7, 3) := by decide +kernel
theorem dX7_isSort_27 : decode cX7_isSort 27 = .ok (.iconst 1, 1) := by decide +kernel
theorem dX7_isSort_28 : decode cX7_isSort 28 = .ok (.goto 4, 3) := by decide +kernel
theorem dX7_isSort_31 : decode cX7_isSort 31 = .ok (.iconst 0, 1) := by decide +kernel
theorem dX7_isSort_32 : decode cX7_isSort 32 = .ok (.ireturn, 1) := by decide +kernel
theorem dX7_readStone_0 : decode cX7_readStone 0 = .ok (.aload_n 0, 1) := by decide +kernel
theorem dX7_readStone_1 : decode cX7_readStone 1 = .ok (.getfield 22, 3) := by decide +kernel
theorem dX7_readStone_4 : decode cX7_readStone 4 = .ok (.iconst 2, 1) := by decide +kernel
theorem dX7_readStone_5 : decode cX7_readStone 5 = .ok (.iaload, 1) := by decide +kernel
theorem dX7_readStone_6 : decode cX7_readStone 6 = .ok (.bipush 6, 2) := by decide +kernel
theorem dX7_readStone_8 : decode cX7_readStone 8 = .ok (.if_icmp .ne 8, 3) := by decide +kernel
theorem dX7_readStone_11 : decode cX7_readStone 11 = .ok (.aload_n 0, 1) := by decide +kernel
theorem dX7_readStone_12 : decode cX7_readStone 12 = .ok (.iconst 3, 1) := by decide +kernel
theorem dX7_readStone_13 : decode cX7_readStone 13 = .ok (.invokevirtual 108, 3) := by decide +kernel
theorem dX7_readStone_16 : decode cX7_readStone 16 = .ok (.aload_n 0, 1) := by decide +kernel
theorem dX7_readStone_17 : decode cX7_readStone 17 = .ok (.iconst 1, 1) := by decide +kernel
theorem dX7_readStone_18 : decode cX7_readStone 18 = .ok (.invokevirtual 115, 3) := by decide +kernel
theorem dX7_readStone_21 : decode cX7_readStone 21 = .ok (.aload_n 0, 1) := by decide +kernel
theorem dX7_readStone_22 : decode cX7_readStone 22 = .ok (.iconst 0, 1) := by decide +kernel
theorem dX7_readStone_23 : decode cX7_readStone 23 = .ok (.bipush 99, 2) := by decide +kernel
theorem dX7_readStone_25 : decode cX7_readStone 25 = .ok (.invokevirtual 125, 3) := by decide +kernel
theorem dX7_readStone_28 : decode cX7_readStone 28 = .ok (.istore_n 1, 1) := by decide +kernel
theorem dX7_readStone_29 : decode cX7_readStone 29 = .ok (.aload_n 0, 1) := by decide +kernel
theorem dX7_readStone_30 : decode cX7_readStone 30 = .ok (.bipush 59, 2) := by decide +kernel
theorem dX7_readStone_32 : decode cX7_readStone 32 = .ok (.invokevirtual 129, 3) := by decide +kernel
theorem dX7_readStone_35 : decode cX7_readStone 35 = .ok (.aload_n 0, 1) := by decide +kernel
theorem dX7_readStone_36 : decode cX7_readStone 36 = .ok (.getfield 81, 3) := by decide +kernel
theorem dX7_readStone_39 : decode cX7_readStone 39 = .ok (.ifCond .ne 27, 3) := by decide +kernel
theorem dX7_readStone_42 : decode cX7_readStone 42 = .ok (.aload_n 0, 1) := by decide +kernel
theorem dX7_readStone_43 : decode cX7_readStone 43 = .ok (.getfield 22, 3) := by decide +kernel
theorem dX7_readStone_46 : decode cX7_readStone 46 = .ok (.iconst 5, 1) := by decide +kernel
theorem dX7_readStone_47 : decode cX7_readStone 47 = .ok (.aload_n 0, 1) := by decide +kernel
theorem dX7_readStone_48 : decode cX7_readStone 48 = .ok (.getfield 22, 3) := by decide +kernel
theorem dX7_readStone_51 : decode cX7_readStone 51 = .ok (.iconst 2, 1) := by decide +kernel
theorem dX7_readStone_52 : decode cX7_readStone 52 = .ok (.iaload, 1) := by decide +kernel
theorem dX7_readStone_53 : decode cX7_readStone 53 = .ok (.iadd, 1) := by decide +kernel
theorem dX7_readStone_54 : decode cX7_readStone 54 = .ok (.iload_n 1, 1) := by decide +kernel
theorem dX7_readStone_55 : decode cX7_readStone 55 = .ok (.iastore, 1) := by decide +kernel
theorem dX7_readStone_56 : decode cX7_readStone 56 = .ok (.aload_n 0, 1) := by decide +kernel
theorem dX7_readStone_57 : decode cX7_readStone 57 = .ok (.getfield 22, 3) := by decide +kernel
theorem dX7_readStone_60 : decode cX7_readStone 60 = .ok (.iconst 2, 1) := by decide +kernel
theorem dX7_readStone_61 : decode cX7_readStone 61 = .ok (.dup2, 1) := by decide +kernel
theorem dX7_readStone_62 : decode cX7_readStone 62 = .ok (.iaload, 1) := by decide +kernel
theorem dX7_readStone_63 : decode cX7_readStone 63 = .ok (.iconst 1, 1) := by decide +kernel
theorem dX7_readStone_64 : decode cX7_readStone 64 = .ok (.iadd, 1) := by decide +kernel
theorem dX7_readStone_65 : decode cX7_readStone 65 = .ok (.iastore, 1) := by decide +kernel
theorem dX7_readStone_66 : decode cX7_readStone 66 = .ok (.return_, 1) := by decide +kernel
theorem dX7_readWitness_0 : decode cX7_readWitness 0 = .ok (.aload_n 0, 1) := by decide +kernel
theorem dX7_readWitness_1 : decode cX7_readWitness 1 = .ok (.getfield 94, 3) := by decide +kernel
theorem dX7_readWitness_4 : decode cX7_readWitness 4 = .ok (.invokestatic 122, 3) := by decide +kernel
theorem dX7_readWitness_7 : decode cX7_readWitness 7 = .ok (.istore_n 1, 1) := by decide +kernel
theorem dX7_readWitness_8 : decode cX7_readWitness 8 = .ok (.aload_n 0, 1) := by decide +kernel
theorem dX7_readWitness_9 : decode cX7_readWitness 9 = .ok (.getfield 22, 3) := by decide +kernel
theorem dX7_readWitness_12 : decode cX7_readWitness 12 = .ok (.iconst 3, 1) := by decide +kernel
theorem dX7_readWitness_13 : decode cX7_readWitness 13 = .ok (.iaload, 1) := by decide +kernel
theorem dX7_readWitness_14 : decode cX7_readWitness 14 = .ok (.bipush 6, 2) := by decide +kernel
theorem dX7_readWitness_16 : decode cX7_readWitness 16 = .ok (.if_icmp .ne 8, 3) := by decide +kernel
theorem dX7_readWitness_19 : decode cX7_readWitness 19 = .ok (.aload_n 0, 1) := by decide +kernel
theorem dX7_readWitness_20 : decode cX7_readWitness 20 = .ok (.iconst 3, 1) := by decide +kernel
theorem dX7_readWitness_21 : decode cX7_readWitness 21 = .ok (.invokevirtual 108, 3) := by decide +kernel
theorem dX7_readWitness_24 : decode cX7_readWitness 24 = .ok (.aload_n 0, 1) := by decide +kernel
theorem dX7_readWitness_25 : decode cX7_readWitness 25 = .ok (.iconst 1, 1) := by decide +kernel
theorem dX7_readWitness_26 : decode cX7_readWitness 26 = .ok (.invokevirtual 115, 3) := by decide +kernel
theorem dX7_readWitness_29 : decode cX7_readWitness 29 = .ok (.aload_n 0, 1) := by decide +kernel
theorem dX7_readWitness_30 : decode cX7_readWitness 30 = .ok (.iconst 0, 1) := by decide +kernel
theorem dX7_readWitness_31 : decode cX7_readWitness 31 = .ok (.bipush 60, 2) := by decide +kernel
theorem dX7_readWitness_33 : decode cX7_readWitness 33 = .ok (.invokevirtual 125, 3) := by decide +kernel
theorem dX7_readWitness_36 : decode cX7_readWitness 36 = .ok (.istore_n 2, 1) := by decide +kernel
theorem dX7_readWitness_37 : decode cX7_readWitness 37 = .ok (.aload_n 0, 1) := by decide +kernel
theorem dX7_readWitness_38 : decode cX7_readWitness 38 = .ok (.bipush 44, 2) := by decide +kernel
theorem dX7_readWitness_40 : decode cX7_readWitness 40 = .ok (.invokevirtual 129, 3) := by decide +kernel
theorem dX7_readWitness_43 : decode cX7_readWitness 43 = .ok (.aload_n 0, 1) := by decide +kernel
theorem dX7_readWitness_44 : decode cX7_readWitness 44 = .ok (.iload_n 2, 1) := by decide +kernel
theorem dX7_readWitness_45 : decode cX7_readWitness 45 = .ok (.iconst 1, 1) := by decide +kernel
theorem dX7_readWitness_46 : decode cX7_readWitness 46 = .ok (.iadd, 1) := by decide +kernel
theorem dX7_readWitness_47 : decode cX7_readWitness 47 = .ok (.bipush 99, 2) := by decide +kernel
theorem dX7_readWitness_49 : decode cX7_readWitness 49 = .ok (.invokevirtual 125, 3) := by decide +kernel
theorem dX7_readWitness_52 : decode cX7_readWitness 52 = .ok (.istore_n 3, 1) := by decide +kernel
theorem dX7_readWitness_53 : decode cX7_readWitness 53 = .ok (.aload_n 0, 1) := by decide +kernel
theorem dX7_readWitness_54 : decode cX7_readWitness 54 = .ok (.bipush 59, 2) := by decide +kernel
theorem dX7_readWitness_56 : decode cX7_readWitness 56 = .ok (.invokevirtual 129, 3) := by decide +kernel
theorem dX7_readWitness_59 : decode cX7_readWitness 59 = .ok (.aload_n 0, 1) := by decide +kernel
theorem dX7_readWitness_60 : decode cX7_readWitness 60 = .ok (.getfield 81, 3) := by decide +kernel
theorem dX7_readWitness_63 : decode cX7_readWitness 63 = .ok (.ifCond .ne 54, 3) := by decide +kernel
theorem dX7_readWitness_66 : decode cX7_readWitness 66 = .ok (.bipush 11, 2) := by decide +kernel
theorem dX7_readWitness_68 : decode cX7_readWitness 68 = .ok (.iconst 4, 1) := by decide +kernel
theorem dX7_readWitness_69 : decode cX7_readWitness 69 = .ok (.aload_n 0, 1) := by decide +kernel
theorem dX7_readWitness_70 : decode cX7_readWitness 70 = .ok (.getfield 22, 3) := by decide +kernel
theorem dX7_readWitness_73 : decode cX7_readWitness 73 = .ok (.iconst 3, 1) := by decide +kernel
theorem dX7_readWitness_74 : decode cX7_readWitness 74 = .ok (.iaload, 1) := by decide +kernel
theorem dX7_readWitness_75 : decode cX7_readWitness 75 = .ok (.imul, 1) := by decide +kernel
theorem dX7_readWitness_76 : decode cX7_readWitness 76 = .ok (.iadd, 1) := by decide +kernel
theorem dX7_readWitness_77 : decode cX7_readWitness 77 = .ok (.istore 4, 2) := by decide +kernel
theorem dX7_readWitness_79 : decode cX7_readWitness 79 = .ok (.aload_n 0, 1) := by decide +kernel
theorem dX7_readWitness_80 : decode cX7_readWitness 80 = .ok (.getfield 22, 3) := by decide +kernel
theorem dX7_readWitness_83 : decode cX7_readWitness 83 = .ok (.iload 4, 2) := by decide +kernel
theorem dX7_readWitness_85 : decode cX7_readWitness 85 = .ok (.iload_n 1, 1) := by decide +kernel
theorem dX7_readWitness_86 : decode cX7_readWitness 86 = .ok (.iastore, 1) := by decide +kernel
theorem dX7_readWitness_87 : decode cX7_readWitness 87 = .ok (.aload_n 0, 1) := by decide +kernel
theorem dX7_readWitness_88 : decode cX7_readWitness 88 = .ok (.getfield 22, 3) := by decide +kernel
theorem dX7_readWitness_91 : decode cX7_readWitness 91 = .ok (.iload 4, 2) := by decide +kernel
theorem dX7_readWitness_93 : decode cX7_readWitness 93 = .ok (.iconst 1, 1) := by decide +kernel
theorem dX7_readWitness_94 : decode cX7_readWitness 94 = .ok (.iadd, 1) := by decide +kernel
theorem dX7_readWitness_95 : decode cX7_readWitness 95 = .ok (.iload_n 2, 1) := by decide +kernel
theorem dX7_readWitness_96 : decode cX7_readWitness 96 = .ok (.iastore, 1) := by decide +kernel
theorem dX7_readWitness_97 : decode cX7_readWitness 97 = .ok (.aload_n 0, 1) := by decide +kernel
theorem dX7_readWitness_98 : decode cX7_readWitness 98 = .ok (.getfield 22, 3) := by decide +kernel
theorem dX7_readWitness_101 : decode cX7_readWitness 101 = .ok (.iload 4, 2) := by decide +kernel
theorem dX7_readWitness_103 : decode cX7_readWitness 103 = .ok (.iconst 2, 1) := by decide +kernel
theorem dX7_readWitness_104 : decode cX7_readWitness 104 = .ok (.iadd, 1) := by decide +kernel
theorem dX7_readWitness_105 : decode cX7_readWitness 105 = .ok (.iload_n 3, 1) := by decide +kernel
theorem dX7_readWitness_106 : decode cX7_readWitness 106 = .ok (.iastore, 1) := by decide +kernel
theorem dX7_readWitness_107 : decode cX7_readWitness 107 = .ok (.aload_n 0, 1) := by decide +kernel
theorem dX7_readWitness_108 : decode cX7_readWitness 108 = .ok (.getfield 22, 3) := by decide +kernel
theorem dX7_readWitness_111 : decode cX7_readWitness 111 = .ok (.iconst 3, 1) := by decide +kernel
theorem dX7_readWitness_112 : decode cX7_readWitness 112 = .ok (.dup2, 1) := by decide +kernel
theorem dX7_readWitness_113 : decode cX7_readWitness 113 = .ok (.iaload, 1) := by decide +kernel
theorem dX7_readWitness_114 : decode cX7_readWitness 114 = .ok (.iconst 1, 1) := by decide +kernel
theorem dX7_readWitness_115 : decode cX7_readWitness 115 = .ok (.iadd, 1) := by decide +kernel
theorem dX7_readWitness_116 : decode cX7_readWitness 116 = .ok (.iastore, 1) := by decide +kernel
theorem dX7_readWitness_117 : decode cX7_readWitness 117 = .ok (.return_, 1) := by decide +kernel
theorem dX7_parish_0 : decode cX7_parish 0 = .ok (.aload_n 0, 1) := by decide +kernel
theorem dX7_parish_1 : decode cX7_parish 1 = .ok (.iconst 0, 1) := by decide +kernel
theorem dX7_parish_2 : decode cX7_parish 2 = .ok (.putfield 50, 3) := by decide +kernel
theorem dX7_parish_5 : decode cX7_parish 5 = .ok (.aload_n 0, 1) := by decide +kernel
theorem dX7_parish_6 : decode cX7_parish 6 = .ok (.invokevirtual 132, 3) := by decide +kernel
theorem dX7_parish_9 : decode cX7_parish 9 = .ok (.iconst 0, 1) := by decide +kernel
theorem dX7_parish_10 : decode cX7_parish 10 = .ok (.istore_n 1, 1) := by decide +kernel
theorem dX7_parish_11 : decode cX7_parish 11 = .ok (.iload_n 1, 1) := by decide +kernel
theorem dX7_parish_12 : decode cX7_parish 12 = .ok (.sipush 143, 3) := by decide +kernel
theorem dX7_parish_15 : decode cX7_parish 15 = .ok (.if_icmp .ge 27, 3) := by decide +kernel
theorem dX7_parish_18 : decode cX7_parish 18 = .ok (.aload_n 0, 1) := by decide +kernel
theorem dX7_parish_19 : decode cX7_parish 19 = .ok (.getfield 22, 3) := by decide +kernel
theorem dX7_parish_22 : decode cX7_parish 22 = .ok (.iload_n 1, 1) := by decide +kernel
theorem dX7_parish_23 : decode cX7_parish 23 = .ok (.iload_n 1, 1) := by decide +kernel
theorem dX7_parish_24 : decode cX7_parish 24 = .ok (.bipush 35, 2) := by decide +kernel
theorem dX7_parish_26 : decode cX7_parish 26 = .ok (.if_icmp .lt 8, 3) := by decide +kernel
theorem dX7_parish_29 : decode cX7_parish 29 = .ok (.ldc 93, 2) := by decide +kernel
theorem dX7_parish_31 : decode cX7_parish 31 = .ok (.goto 4, 3) := by decide +kernel
theorem dX7_parish_34 : decode cX7_parish 34 = .ok (.iconst 0, 1) := by decide +kernel
theorem dX7_parish_35 : decode cX7_parish 35 = .ok (.iastore, 1) := by decide +kernel
theorem dX7_parish_36 : decode cX7_parish 36 = .ok (.iinc 1 1, 3) := by decide +kernel
theorem dX7_parish_39 : decode cX7_parish 39 = .ok (.goto (-28), 3) := by decide +kernel
theorem dX7_parish_42 : decode cX7_parish 42 = .ok (.aload_n 0, 1) := by decide +kernel
theorem dX7_parish_43 : decode cX7_parish 43 = .ok (.aload_n 0, 1) := by decide +kernel
theorem dX7_parish_44 : decode cX7_parish 44 = .ok (.bipush 119, 2) := by decide +kernel
theorem dX7_parish_46 : decode cX7_parish 46 = .ok (.invokevirtual 135, 3) := by decide +kernel
theorem dX7_parish_49 : decode cX7_parish 49 = .ok (.invokevirtual 115, 3) := by decide +kernel
theorem dX7_parish_52 : decode cX7_parish 52 = .ok (.aload_n 0, 1) := by decide +kernel
theorem dX7_parish_53 : decode cX7_parish 53 = .ok (.getfield 22, 3) := by decide +kernel
theorem dX7_parish_56 : decode cX7_parish 56 = .ok (.iconst 0, 1) := by decide +kernel
theorem dX7_parish_57 : decode cX7_parish 57 = .ok (.aload_n 0, 1) := by decide +kernel
theorem dX7_parish_58 : decode cX7_parish 58 = .ok (.iconst 1, 1) := by decide +kernel
theorem dX7_parish_59 : decode cX7_parish 59 = .ok (.bipush 30, 2) := by decide +kernel
theorem dX7_parish_61 : decode cX7_parish 61 = .ok (.invokevirtual 125, 3) := by decide +kernel
theorem dX7_parish_64 : decode cX7_parish 64 = .ok (.iastore, 1) := by decide +kernel
theorem dX7_parish_65 : decode cX7_parish 65 = .ok (.aload_n 0, 1) := by decide +kernel
theorem dX7_parish_66 : decode cX7_parish 66 = .ok (.bipush 44, 2) := by decide +kernel
theorem dX7_parish_68 : decode cX7_parish 68 = .ok (.invokevirtual 129, 3) := by decide +kernel
theorem dX7_parish_71 : decode cX7_parish 71 = .ok (.aload_n 0, 1) := by decide +kernel
theorem dX7_parish_72 : decode cX7_parish 72 = .ok (.getfield 22, 3) := by decide +kernel
theorem dX7_parish_75 : decode cX7_parish 75 = .ok (.iconst 1, 1) := by decide +kernel
theorem dX7_parish_76 : decode cX7_parish 76 = .ok (.aload_n 0, 1) := by decide +kernel
theorem dX7_parish_77 : decode cX7_parish 77 = .ok (.iconst 1, 1) := by decide +kernel
theorem dX7_parish_78 : decode cX7_parish 78 = .ok (.bipush 30, 2) := by decide +kernel
theorem dX7_parish_80 : decode cX7_parish 80 = .ok (.invokevirtual 125, 3) := by decide +kernel
theorem dX7_parish_83 : decode cX7_parish 83 = .ok (.iastore, 1) := by decide +kernel
theorem dX7_parish_84 : decode cX7_parish 84 = .ok (.aload_n 0, 1) := by decide +kernel
theorem dX7_parish_85 : decode cX7_parish 85 = .ok (.bipush 59, 2) := by decide +kernel
theorem dX7_parish_87 : decode cX7_parish 87 = .ok (.invokevirtual 129, 3) := by decide +kernel
theorem dX7_parish_90 : decode cX7_parish 90 = .ok (.aload_n 0, 1) := by decide +kernel
theorem dX7_parish_91 : decode cX7_parish 91 = .ok (.bipush 115, 2) := by decide +kernel
theorem dX7_parish_93 : decode cX7_parish 93 = .ok (.invokevirtual 135, 3) := by decide +kernel
theorem dX7_parish_96 : decode cX7_parish 96 = .ok (.ifCond .ne 8, 3) := by decide +kernel
theorem dX7_parish_99 : decode cX7_parish 99 = .ok (.aload_n 0, 1) := by decide +kernel
theorem dX7_parish_100 : decode cX7_parish 100 = .ok (.iconst 1, 1) := by decide +kernel
theorem dX7_parish_101 : decode cX7_parish 101 = .ok (.invokevirtual 108, 3) := by decide +kernel
theorem dX7_parish_104 : decode cX7_parish 104 = .ok (.aload_n 0, 1) := by decide +kernel
theorem dX7_parish_105 : decode cX7_parish 105 = .ok (.bipush 115, 2) := by decide +kernel
theorem dX7_parish_107 : decode cX7_parish 107 = .ok (.invokevirtual 135, 3) := by decide +kernel
theorem dX7_parish_110 : decode cX7_parish 110 = .ok (.ifCond .eq 10, 3) := by decide +kernel
theorem dX7_parish_113 : decode cX7_parish 113 = .ok (.aload_n 0, 1) := by decide +kernel
theorem dX7_parish_114 : decode cX7_parish 114 = .ok (.invokevirtual 138, 3) := by decide +kernel
theorem dX7_parish_117 : decode cX7_parish 117 = .ok (.goto (-13), 3) := by decide +kernel
theorem dX7_parish_120 : decode cX7_parish 120 = .ok (.aload_n 0, 1) := by decide +kernel
theorem dX7_parish_121 : decode cX7_parish 121 = .ok (.invokevirtual 141, 3) := by decide +kernel
theorem dX7_parish_124 : decode cX7_parish 124 = .ok (.ifCond .ne 8, 3) := by decide +kernel
theorem dX7_parish_127 : decode cX7_parish 127 = .ok (.aload_n 0, 1) := by decide +kernel
theorem dX7_parish_128 : decode cX7_parish 128 = .ok (.iconst 1, 1) := by decide +kernel
theorem dX7_parish_129 : decode cX7_parish 129 = .ok (.invokevirtual 108, 3) := by decide +kernel
theorem dX7_parish_132 : decode cX7_parish 132 = .ok (.aload_n 0, 1) := by decide +kernel
theorem dX7_parish_133 : decode cX7_parish 133 = .ok (.invokevirtual 141, 3) := by decide +kernel
theorem dX7_parish_136 : decode cX7_parish 136 = .ok (.ifCond .eq 10, 3) := by decide +kernel
theorem dX7_parish_139 : decode cX7_parish 139 = .ok (.aload_n 0, 1) := by decide +kernel
theorem dX7_parish_140 : decode cX7_parish 140 = .ok (.invokevirtual 145, 3) := by decide +kernel
theorem dX7_parish_143 : decode cX7_parish 143 = .ok (.goto (-11), 3) := by decide +kernel
theorem dX7_parish_146 : decode cX7_parish 146 = .ok (.aload_n 0, 1) := by decide +kernel
theorem dX7_parish_147 : decode cX7_parish 147 = .ok (.invokevirtual 148, 3) := by decide +kernel
theorem dX7_parish_150 : decode cX7_parish 150 = .ok (.ifCond .eq 11, 3) := by decide +kernel
theorem dX7_parish_153 : decode cX7_parish 153 = .ok (.ldc 151, 2) := by decide +kernel
theorem dX7_parish_155 : decode cX7_parish 155 = .ok (.aload_n 0, 1) := by decide +kernel
theorem dX7_parish_156 : decode cX7_parish 156 = .ok (.getfield 87, 3) := by decide +kernel
theorem dX7_parish_159 : decode cX7_parish 159 = .ok (.isub, 1) := by decide +kernel
theorem dX7_parish_160 : decode cX7_parish 160 = .ok (.ireturn, 1) := by decide +kernel
theorem dX7_parish_161 : decode cX7_parish 161 = .ok (.aload_n 0, 1) := by decide +kernel
theorem dX7_parish_162 : decode cX7_parish 162 = .ok (.iconst 0, 1) := by decide +kernel
theorem dX7_parish_163 : decode cX7_parish 163 = .ok (.putfield 152, 3) := by decide +kernel
theorem dX7_parish_166 : decode cX7_parish 166 = .ok (.iconst 0, 1) := by decide +kernel
theorem dX7_parish_167 : decode cX7_parish 167 = .ok (.istore_n 1, 1) := by decide +kernel
theorem dX7_parish_168 : decode cX7_parish 168 = .ok (.iload_n 1, 1) := by decide +kernel
theorem dX7_parish_169 : decode cX7_parish 169 = .ok (.sipush 143, 3) := by decide +kernel
theorem dX7_parish_172 : decode cX7_parish 172 = .ok (.if_icmp .ge 21, 3) := by decide +kernel
theorem dX7_parish_175 : decode cX7_parish 175 = .ok (.aload_n 0, 1) := by decide +kernel
theorem dX7_parish_176 : decode cX7_parish 176 = .ok (.getfield 19, 3) := by decide +kernel
theorem dX7_parish_179 : decode cX7_parish 179 = .ok (.iload_n 1, 1) := by decide +kernel
theorem dX7_parish_180 : decode cX7_parish 180 = .ok (.aload_n 0, 1) := by decide +kernel
theorem dX7_parish_181 : decode cX7_parish 181 = .ok (.getfield 22, 3) := by decide +kernel
theorem dX7_parish_184 : decode cX7_parish 184 = .ok (.iload_n 1, 1) := by decide +kernel
theorem dX7_parish_185 : decode cX7_parish 185 = .ok (.iaload, 1) := by decide +kernel
theorem dX7_parish_186 : decode cX7_parish 186 = .ok (.iastore, 1) := by decide +kernel
theorem dX7_parish_187 : decode cX7_parish 187 = .ok (.iinc 1 1, 3) := by decide +kernel
theorem dX7_parish_190 : decode cX7_parish 190 = .ok (.goto (-22), 3) := by decide +kernel
theorem dX7_parish_193 : decode cX7_parish 193 = .ok (.aload_n 0, 1) := by decide +kernel
theorem dX7_parish_194 : decode cX7_parish 194 = .ok (.getfield 19, 3) := by decide +kernel
theorem dX7_parish_197 : decode cX7_parish 197 = .ok (.iconst 3, 1) := by decide +kernel
theorem dX7_parish_198 : decode cX7_parish 198 = .ok (.iaload, 1) := by decide +kernel
theorem dX7_parish_199 : decode cX7_parish 199 = .ok (.ireturn, 1) := by decide +kernel
theorem dX7_isThere_0 : decode cX7_isThere 0 = .ok (.aload_n 0, 1) := by decide +kernel
theorem dX7_isThere_1 : decode cX7_isThere 1 = .ok (.getfield 19, 3) := by decide +kernel
theorem dX7_isThere_4 : decode cX7_isThere 4 = .ok (.iconst 2, 1) := by decide +kernel
theorem dX7_isThere_5 : decode cX7_isThere 5 = .ok (.iaload, 1) := by decide +kernel
theorem dX7_isThere_6 : decode cX7_isThere 6 = .ok (.ifCond .le 7, 3) := by decide +kernel
theorem dX7_isThere_9 : decode cX7_isThere 9 = .ok (.iconst 1, 1) := by decide +kernel
theorem dX7_isThere_10 : decode cX7_isThere 10 = .ok (.goto 4, 3) := by decide +kernel
theorem dX7_isThere_13 : decode cX7_isThere 13 = .ok (.iconst 0, 1) := by decide +kernel
theorem dX7_isThere_14 : decode cX7_isThere 14 = .ok (.ireturn, 1) := by decide +kernel
theorem dX7_isStone_0 : decode cX7_isStone 0 = .ok (.iload_n 1, 1) := by decide +kernel
theorem dX7_isStone_1 : decode cX7_isStone 1 = .ok (.i2l, 1) := by decide +kernel
theorem dX7_isStone_2 : decode cX7_isStone 2 = .ok (.lconst 0, 1) := by decide +kernel
theorem dX7_isStone_3 : decode cX7_isStone 3 = .ok (.aload_n 0, 1) := by decide +kernel
theorem dX7_isStone_4 : decode cX7_isStone 4 = .ok (.getfield 19, 3) := by decide +kernel
theorem dX7_isStone_7 : decode cX7_isStone 7 = .ok (.iconst 2, 1) := by decide +kernel
theorem dX7_isStone_8 : decode cX7_isStone 8 = .ok (.iaload, 1) := by decide +kernel
theorem dX7_isStone_9 : decode cX7_isStone 9 = .ok (.iconst 1, 1) := by decide +kernel
theorem dX7_isStone_10 : decode cX7_isStone 10 = .ok (.isub, 1) := by decide +kernel
theorem dX7_isStone_11 : decode cX7_isStone 11 = .ok (.i2l, 1) := by decide +kernel
theorem dX7_isStone_12 : decode cX7_isStone 12 = .ok (.invokestatic 60, 3) := by decide +kernel
theorem dX7_isStone_15 : decode cX7_isStone 15 = .ok (.ireturn, 1) := by decide +kernel
theorem dX7_isWitness_0 : decode cX7_isWitness 0 = .ok (.iload_n 1, 1) := by decide +kernel
theorem dX7_isWitness_1 : decode cX7_isWitness 1 = .ok (.i2l, 1) := by decide +kernel
theorem dX7_isWitness_2 : decode cX7_isWitness 2 = .ok (.lconst 0, 1) := by decide +kernel
theorem dX7_isWitness_3 : decode cX7_isWitness 3 = .ok (.aload_n 0, 1) := by decide +kernel
theorem dX7_isWitness_4 : decode cX7_isWitness 4 = .ok (.getfield 19, 3) := by decide +kernel
theorem dX7_isWitness_7 : decode cX7_isWitness 7 = .ok (.iconst 3, 1) := by decide +kernel
theorem dX7_isWitness_8 : decode cX7_isWitness 8 = .ok (.iaload, 1) := by decide +kernel
theorem dX7_isWitness_9 : decode cX7_isWitness 9 = .ok (.iconst 1, 1) := by decide +kernel
theorem dX7_isWitness_10 : decode cX7_isWitness 10 = .ok (.isub, 1) := by decide +kernel
theorem dX7_isWitness_11 : decode cX7_isWitness 11 = .ok (.i2l, 1) := by decide +kernel
theorem dX7_isWitness_12 : decode cX7_isWitness 12 = .ok (.invokestatic 60, 3) := by decide +kernel
theorem dX7_isWitness_15 : decode cX7_isWitness 15 = .ok (.ireturn, 1) := by decide +kernel
theorem dX7_everybody_0 : decode cX7_everybody 0 = .ok (.iconst 1, 1) := by decide +kernel
theorem dX7_everybody_1 : decode cX7_everybody 1 = .ok (.aload_n 0, 1) := by decide +kernel
theorem dX7_everybody_2 : decode cX7_everybody 2 = .ok (.getfield 19, 3) := by decide +kernel
theorem dX7_everybody_5 : decode cX7_everybody 5 = .ok (.iconst 3, 1) := by decide +kernel
theorem dX7_everybody_6 : decode cX7_everybody 6 = .ok (.iaload, 1) := by decide +kernel
theorem dX7_everybody_7 : decode cX7_everybody 7 = .ok (.ishl, 1) := by decide +kernel
theorem dX7_everybody_8 : decode cX7_everybody 8 = .ok (.iconst 1, 1) := by decide +kernel
theorem dX7_everybody_9 : decode cX7_everybody 9 = .ok (.isub, 1) := by decide +kernel
theorem dX7_everybody_10 : decode cX7_everybody 10 = .ok (.ireturn, 1) := by decide +kernel
theorem dX7_bits_0 : decode cX7_bits 0 = .ok (.iconst 0, 1) := by decide +kernel
theorem dX7_bits_1 : decode cX7_bits 1 = .ok (.istore_n 1, 1) := by decide +kernel
theorem dX7_bits_2 : decode cX7_bits 2 = .ok (.iconst 0, 1) := by decide +kernel
theorem dX7_bits_3 : decode cX7_bits 3 = .ok (.istore_n 2, 1) := by decide +kernel
theorem dX7_bits_4 : decode cX7_bits 4 = .ok (.iload_n 2, 1) := by decide +kernel
theorem dX7_bits_5 : decode cX7_bits 5 = .ok (.bipush 6, 2) := by decide +kernel
theorem dX7_bits_7 : decode cX7_bits 7 = .ok (.if_icmp .ge 17, 3) := by decide +kernel
theorem dX7_bits_10 : decode cX7_bits 10 = .ok (.iload_n 1, 1) := by decide +kernel
theorem dX7_bits_11 : decode cX7_bits 11 = .ok (.iload_n 0, 1) := by decide +kernel
theorem dX7_bits_12 : decode cX7_bits 12 = .ok (.iload_n 2, 1) := by decide +kernel
theorem dX7_bits_13 : decode cX7_bits 13 = .ok (.ishr, 1) := by decide +kernel
theorem dX7_bits_14 : decode cX7_bits 14 = .ok (.iconst 1, 1) := by decide +kernel
theorem dX7_bits_15 : decode cX7_bits 15 = .ok (.iand, 1) := by decide +kernel
theorem dX7_bits_16 : decode cX7_bits 16 = .ok (.iadd, 1) := by decide +kernel
theorem dX7_bits_17 : decode cX7_bits 17 = .ok (.istore_n 1, 1) := by decide +kernel
theorem dX7_bits_18 : decode cX7_bits 18 = .ok (.iinc 2 1, 3) := by decide +kernel
theorem dX7_bits_21 : decode cX7_bits 21 = .ok (.goto (-17), 3) := by decide +kernel
theorem dX7_bits_24 : decode cX7_bits 24 = .ok (.iload_n 1, 1) := by decide +kernel
theorem dX7_bits_25 : decode cX7_bits 25 = .ok (.ireturn, 1) := by decide +kernel
theorem dX7_has_0 : decode cX7_has 0 = .ok (.iload_n 0, 1) := by decide +kernel
theorem dX7_has_1 : decode cX7_has 1 = .ok (.iload_n 1, 1) := by decide +kernel
theorem dX7_has_2 : decode cX7_has 2 = .ok (.ishr, 1) := by decide +kernel
theorem dX7_has_3 : decode cX7_has 3 = .ok (.iconst 1, 1) := by decide +kernel
theorem dX7_has_4 : decode cX7_has 4 = .ok (.iand, 1) := by decide +kernel
theorem dX7_has_5 : decode cX7_has 5 = .ok (.iconst 1, 1) := by decide +kernel
theorem dX7_has_6 : decode cX7_has 6 = .ok (.if_icmp .ne 7, 3) := by decide +kernel
theorem dX7_has_9 : decode cX7_has 9 = .ok (.iconst 1, 1) := by decide +kernel
theorem dX7_has_10 : decode cX7_has 10 = .ok (.goto 4, 3) := by decide +kernel
theorem dX7_has_13 : decode cX7_has 13 = .ok (.iconst 0, 1) := by decide +kernel
theorem dX7_has_14 : decode cX7_has 14 = .ok (.ireturn, 1) := by decide +kernel
theorem dX7_of_0 : decode cX7_of 0 = .ok (.aload_n 0, 1) := by decide +kernel
theorem dX7_of_1 : decode cX7_of 1 = .ok (.bipush 11, 2) := by decide +kernel
theorem dX7_of_3 : decode cX7_of 3 = .ok (.iconst 4, 1) := by decide +kernel
theorem dX7_of_4 : decode cX7_of 4 = .ok (.iload_n 1, 1) := by decide +kernel
theorem dX7_of_5 : decode cX7_of 5 = .ok (.imul, 1) := by decide +kernel
theorem dX7_of_6 : decode cX7_of 6 = .ok (.iadd, 1) := by decide +kernel
theorem dX7_of_7 : decode cX7_of 7 = .ok (.iload_n 2, 1) := by decide +kernel
theorem dX7_of_8 : decode cX7_of 8 = .ok (.iadd, 1) := by decide +kernel
theorem dX7_of_9 : decode cX7_of 9 = .ok (.iaload, 1) := by decide +kernel
theorem dX7_of_10 : decode cX7_of 10 = .ok (.ireturn, 1) := by decide +kernel
theorem dX7_known_0 : decode cX7_known 0 = .ok (.bipush 35, 2) := by decide +kernel
theorem dX7_known_2 : decode cX7_known 2 = .ok (.iconst 3, 1) := by decide +kernel
theorem dX7_known_3 : decode cX7_known 3 = .ok (.bipush 6, 2) := by decide +kernel
theorem dX7_known_5 : decode cX7_known 5 = .ok (.iload_n 0, 1) := by decide +kernel
theorem dX7_known_6 : decode cX7_known 6 = .ok (.imul, 1) := by decide +kernel
theorem dX7_known_7 : decode cX7_known 7 = .ok (.iload_n 1, 1) := by decide +kernel
theorem dX7_known_8 : decode cX7_known 8 = .ok (.iadd, 1) := by decide +kernel
theorem dX7_known_9 : decode cX7_known 9 = .ok (.imul, 1) := by decide +kernel
theorem dX7_known_10 : decode cX7_known 10 = .ok (.iadd, 1) := by decide +kernel
theorem dX7_known_11 : decode cX7_known 11 = .ok (.ireturn, 1) := by decide +kernel
theorem dX7_isAlive_0 : decode cX7_isAlive 0 = .ok (.aload_n 0, 1) := by decide +kernel
theorem dX7_isAlive_1 : decode cX7_isAlive 1 = .ok (.iload_n 1, 1) := by decide +kernel
theorem dX7_isAlive_2 : decode cX7_isAlive 2 = .ok (.iconst 1, 1) := by decide +kernel
theorem dX7_isAlive_3 : decode cX7_isAlive 3 = .ok (.invokestatic 155, 3) := by decide +kernel
theorem dX7_isAlive_6 : decode cX7_isAlive 6 = .ok (.aload_n 0, 1) := by decide +kernel
theorem dX7_isAlive_7 : decode cX7_isAlive 7 = .ok (.iload_n 1, 1) := by decide +kernel
theorem dX7_isAlive_8 : decode cX7_isAlive 8 = .ok (.iconst 2, 1) := by decide +kernel
theorem dX7_isAlive_9 : decode cX7_isAlive 9 = .ok (.invokestatic 155, 3) := by decide +kernel
theorem dX7_isAlive_12 : decode cX7_isAlive 12 = .ok (.if_icmp .ge 7, 3) := by decide +kernel
theorem dX7_isAlive_15 : decode cX7_isAlive 15 = .ok (.iconst 1, 1) := by decide +kernel
theorem dX7_isAlive_16 : decode cX7_isAlive 16 = .ok (.goto 4, 3) := by decide +kernel
theorem dX7_isAlive_19 : decode cX7_isAlive 19 = .ok (.iconst 0, 1) := by decide +kernel
theorem dX7_isAlive_20 : decode cX7_isAlive 20 = .ok (.ireturn, 1) := by decide +kernel
theorem dX7_isTaken_0 : decode cX7_isTaken 0 = .ok (.aload_n 0, 1) := by decide +kernel
theorem dX7_isTaken_1 : decode cX7_isTaken 1 = .ok (.iload_n 1, 1) := by decide +kernel
theorem dX7_isTaken_2 : decode cX7_isTaken 2 = .ok (.invokestatic 159, 3) := by decide +kernel
theorem dX7_isTaken_5 : decode cX7_isTaken 5 = .ok (.ifCond .eq 18, 3) := by decide +kernel
theorem dX7_isTaken_8 : decode cX7_isTaken 8 = .ok (.aload_n 0, 1) := by decide +kernel
theorem dX7_isTaken_9 : decode cX7_isTaken 9 = .ok (.iload_n 1, 1) := by decide +kernel
theorem dX7_isTaken_10 : decode cX7_isTaken 10 = .ok (.iconst 1, 1) := by decide +kernel
theorem dX7_isTaken_11 : decode cX7_isTaken 11 = .ok (.invokestatic 155, 3) := by decide +kernel
theorem dX7_isTaken_14 : decode cX7_isTaken 14 = .ok (.bipush 60, 2) := by decide +kernel
theorem dX7_isTaken_16 : decode cX7_isTaken 16 = .ok (.if_icmp .gt 7, 3) := by decide +kernel
theorem dX7_isTaken_19 : decode cX7_isTaken 19 = .ok (.iconst 1, 1) := by decide +kernel
theorem dX7_isTaken_20 : decode cX7_isTaken 20 = .ok (.goto 4, 3) := by decide +kernel
theorem dX7_isTaken_23 : decode cX7_isTaken 23 = .ok (.iconst 0, 1) := by decide +kernel
theorem dX7_isTaken_24 : decode cX7_isTaken 24 = .ok (.ireturn, 1) := by decide +kernel
theorem dX7_says_0 : decode cX7_says 0 = .ok (.iload_n 1, 1) := by decide +kernel
theorem dX7_says_1 : decode cX7_says 1 = .ok (.iload_n 2, 1) := by decide +kernel
theorem dX7_says_2 : decode cX7_says 2 = .ok (.invokestatic 163, 3) := by decide +kernel
theorem dX7_says_5 : decode cX7_says 5 = .ok (.istore_n 3, 1) := by decide +kernel
theorem dX7_says_6 : decode cX7_says 6 = .ok (.aload_n 0, 1) := by decide +kernel
theorem dX7_says_7 : decode cX7_says 7 = .ok (.iload_n 1, 1) := by decide +kernel
theorem dX7_says_8 : decode cX7_says 8 = .ok (.iconst 0, 1) := by decide +kernel
theorem dX7_says_9 : decode cX7_says 9 = .ok (.invokestatic 155, 3) := by decide +kernel
theorem dX7_says_12 : decode cX7_says 12 = .ok (.istore 4, 2) := by decide +kernel
theorem dX7_says_14 : decode cX7_says 14 = .ok (.aload_n 0, 1) := by decide +kernel
theorem dX7_says_15 : decode cX7_says 15 = .ok (.iload_n 3, 1) := by decide +kernel
theorem dX7_says_16 : decode cX7_says 16 = .ok (.iconst 2, 1) := by decide +kernel
theorem dX7_says_17 : decode cX7_says 17 = .ok (.iadd, 1) := by decide +kernel
theorem dX7_says_18 : decode cX7_says 18 = .ok (.iaload, 1) := by decide +kernel
theorem dX7_says_19 : decode cX7_says 19 = .ok (.ldc 93, 2) := by decide +kernel
theorem dX7_says_21 : decode cX7_says 21 = .ok (.if_icmp .ne 6, 3) := by decide +kernel
theorem dX7_says_24 : decode cX7_says 24 = .ok (.ldc 93, 2) := by decide +kernel
theorem dX7_says_26 : decode cX7_says 26 = .ok (.ireturn, 1) := by decide +kernel
theorem dX7_says_27 : decode cX7_says 27 = .ok (.aload_n 0, 1) := by decide +kernel
theorem dX7_says_28 : decode cX7_says 28 = .ok (.iconst 4, 1) := by decide +kernel
theorem dX7_says_29 : decode cX7_says 29 = .ok (.iaload, 1) := by decide +kernel
theorem dX7_says_30 : decode cX7_says 30 = .ok (.aload_n 0, 1) := by decide +kernel
theorem dX7_says_31 : decode cX7_says 31 = .ok (.iload_n 3, 1) := by decide +kernel
theorem dX7_says_32 : decode cX7_says 32 = .ok (.iconst 2, 1) := by decide +kernel
theorem dX7_says_33 : decode cX7_says 33 = .ok (.iadd, 1) := by decide +kernel
theorem dX7_says_34 : decode cX7_says 34 = .ok (.iaload, 1) := by decide +kernel
theorem dX7_says_35 : decode cX7_says 35 = .ok (.isub, 1) := by decide +kernel
theorem dX7_says_36 : decode cX7_says 36 = .ok (.istore 5, 2) := by decide +kernel
theorem dX7_says_38 : decode cX7_says 38 = .ok (.iload 5, 2) := by decide +kernel
theorem dX7_says_40 : decode cX7_says 40 = .ok (.aload_n 0, 1) := by decide +kernel
theorem dX7_says_41 : decode cX7_says 41 = .ok (.iconst 0, 1) := by decide +kernel
theorem dX7_says_42 : decode cX7_says 42 = .ok (.iaload, 1) := by decide +kernel
theorem dX7_says_43 : decode cX7_says 43 = .ok (.aload_n 0, 1) := by decide +kernel
theorem dX7_says_44 : decode cX7_says 44 = .ok (.iload_n 3, 1) := by decide +kernel
theorem dX7_says_45 : decode cX7_says 45 = .ok (.iconst 1, 1) := by decide +kernel
theorem dX7_says_46 : decode cX7_says 46 = .ok (.iadd, 1) := by decide +kernel
theorem dX7_says_47 : decode cX7_says 47 = .ok (.iaload, 1) := by decide +kernel
theorem dX7_says_48 : decode cX7_says 48 = .ok (.imul, 1) := by decide +kernel
theorem dX7_says_49 : decode cX7_says 49 = .ok (.if_icmp .ge 36, 3) := by decide +kernel
theorem dX7_says_52 : decode cX7_says 52 = .ok (.aload_n 0, 1) := by decide +kernel
theorem dX7_says_53 : decode cX7_says 53 = .ok (.iload_n 1, 1) := by decide +kernel
theorem dX7_says_54 : decode cX7_says 54 = .ok (.invokestatic 159, 3) := by decide +kernel
theorem dX7_says_57 : decode cX7_says 57 = .ok (.ifCond .ne 9, 3) := by decide +kernel
theorem dX7_says_60 : decode cX7_says 60 = .ok (.iload 4, 2) := by decide +kernel
theorem dX7_says_62 : decode cX7_says 62 = .ok (.iconst 5, 1) := by decide +kernel
theorem dX7_says_63 : decode cX7_says 63 = .ok (.if_icmp .ne 22, 3) := by decide +kernel
theorem dX7_says_66 : decode cX7_says 66 = .ok (.iload 4, 2) := by decide +kernel
theorem dX7_says_68 : decode cX7_says 68 = .ok (.iconst 4, 1) := by decide +kernel
theorem dX7_says_69 : decode cX7_says 69 = .ok (.if_icmp .ne 12, 3) := by decide +kernel
theorem dX7_says_72 : decode cX7_says 72 = .ok (.aload_n 0, 1) := by decide +kernel
theorem dX7_says_73 : decode cX7_says 73 = .ok (.iload_n 3, 1) := by decide +kernel
theorem dX7_says_74 : decode cX7_says 74 = .ok (.iconst 1, 1) := by decide +kernel
theorem dX7_says_75 : decode cX7_says 75 = .ok (.iadd, 1) := by decide +kernel
theorem dX7_says_76 : decode cX7_says 76 = .ok (.iaload, 1) := by decide +kernel
theorem dX7_says_77 : decode cX7_says 77 = .ok (.iconst 5, 1) := by decide +kernel
theorem dX7_says_78 : decode cX7_says 78 = .ok (.if_icmp .lt 7, 3) := by decide +kernel
theorem dX7_says_81 : decode cX7_says 81 = .ok (.iconst 1, 1) := by decide +kernel
theorem dX7_says_82 : decode cX7_says 82 = .ok (.goto 4, 3) := by decide +kernel
theorem dX7_says_85 : decode cX7_says 85 = .ok (.iconst 0, 1) := by decide +kernel
theorem dX7_says_86 : decode cX7_says 86 = .ok (.istore 6, 2) := by decide +kernel
theorem dX7_says_88 : decode cX7_says 88 = .ok (.iload 6, 2) := by decide +kernel
theorem dX7_says_90 : decode cX7_says 90 = .ok (.ifCond .ne 6, 3) := by decide +kernel
theorem dX7_says_93 : decode cX7_says 93 = .ok (.ldc 93, 2) := by decide +kernel
theorem dX7_says_95 : decode cX7_says 95 = .ok (.ireturn, 1) := by decide +kernel
theorem dX7_says_96 : decode cX7_says 96 = .ok (.aload_n 0, 1) := by decide +kernel
theorem dX7_says_97 : decode cX7_says 97 = .ok (.iload_n 3, 1) := by decide +kernel
theorem dX7_says_98 : decode cX7_says 98 = .ok (.iaload, 1) := by decide +kernel
theorem dX7_says_99 : decode cX7_says 99 = .ok (.istore 7, 2) := by decide +kernel
theorem dX7_says_101 : decode cX7_says 101 = .ok (.iload 7, 2) := by decide +kernel
theorem dX7_says_103 : decode cX7_says 103 = .ok (.iload 4, 2) := by decide +kernel
theorem dX7_says_105 : decode cX7_says 105 = .ok (.iconst 2, 1) := by decide +kernel
theorem dX7_says_106 : decode cX7_says 106 = .ok (.if_icmp .ne 12, 3) := by decide +kernel
theorem dX7_says_109 : decode cX7_says 109 = .ok (.aload_n 0, 1) := by decide +kernel
theorem dX7_says_110 : decode cX7_says 110 = .ok (.iload_n 1, 1) := by decide +kernel
theorem dX7_says_111 : decode cX7_says 111 = .ok (.iconst 3, 1) := by decide +kernel
theorem dX7_says_112 : decode cX7_says 112 = .ok (.invokestatic 155, 3) := by decide +kernel
theorem dX7_says_115 : decode cX7_says 115 = .ok (.goto 19, 3) := by decide +kernel
theorem dX7_says_118 : decode cX7_says 118 = .ok (.iload 4, 2) := by decide +kernel
theorem dX7_says_120 : decode cX7_says 120 = .ok (.iconst 3, 1) := by decide +kernel
theorem dX7_says_121 : decode cX7_says 121 = .ok (.if_icmp .ne 12, 3) := by decide +kernel
theorem dX7_says_124 : decode cX7_says 124 = .ok (.iload 5, 2) := by decide +kernel
theorem dX7_says_126 : decode cX7_says 126 = .ok (.aload_n 0, 1) := by decide +kernel
theorem dX7_says_127 : decode cX7_says 127 = .ok (.iconst 1, 1) := by decide +kernel
theorem dX7_says_128 : decode cX7_says 128 = .ok (.iaload, 1) := by decide +kernel
theorem dX7_says_129 : decode cX7_says 129 = .ok (.idiv, 1) := by decide +kernel
theorem dX7_says_130 : decode cX7_says 130 = .ok (.goto 4, 3) := by decide +kernel
theorem dX7_says_133 : decode cX7_says 133 = .ok (.iconst 0, 1) := by decide +kernel
theorem dX7_says_134 : decode cX7_says 134 = .ok (.iadd, 1) := by decide +kernel
theorem dX7_says_135 : decode cX7_says 135 = .ok (.istore 7, 2) := by decide +kernel
theorem dX7_says_137 : decode cX7_says 137 = .ok (.iload 7, 2) := by decide +kernel
theorem dX7_says_139 : decode cX7_says 139 = .ok (.ifCond .ge 7, 3) := by decide +kernel
theorem dX7_says_142 : decode cX7_says 142 = .ok (.iconst 0, 1) := by decide +kernel
theorem dX7_says_143 : decode cX7_says 143 = .ok (.goto 17, 3) := by decide +kernel
theorem dX7_says_146 : decode cX7_says 146 = .ok (.iload 7, 2) := by decide +kernel
theorem dX7_says_148 : decode cX7_says 148 = .ok (.bipush 99, 2) := by decide +kernel
theorem dX7_says_150 : decode cX7_says 150 = .ok (.if_icmp .le 8, 3) := by decide +kernel
theorem dX7_says_153 : decode cX7_says 153 = .ok (.bipush 99, 2) := by decide +kernel
theorem dX7_says_155 : decode cX7_says 155 = .ok (.goto 5, 3) := by decide +kernel
theorem dX7_says_158 : decode cX7_says 158 = .ok (.iload 7, 2) := by decide +kernel
theorem dX7_says_160 : decode cX7_says 160 = .ok (.ireturn, 1) := by decide +kernel
theorem dX7_whoSwears_0 : decode cX7_whoSwears 0 = .ok (.iconst 0, 1) := by decide +kernel
theorem dX7_whoSwears_1 : decode cX7_whoSwears 1 = .ok (.istore_n 2, 1) := by decide +kernel
theorem dX7_whoSwears_2 : decode cX7_whoSwears 2 = .ok (.iconst 0, 1) := by decide +kernel
theorem dX7_whoSwears_3 : decode cX7_whoSwears 3 = .ok (.istore_n 3, 1) := by decide +kernel
theorem dX7_whoSwears_4 : decode cX7_whoSwears 4 = .ok (.iload_n 3, 1) := by decide +kernel
theorem dX7_whoSwears_5 : decode cX7_whoSwears 5 = .ok (.aload_n 0, 1) := by decide +kernel
theorem dX7_whoSwears_6 : decode cX7_whoSwears 6 = .ok (.iconst 3, 1) := by decide +kernel
theorem dX7_whoSwears_7 : decode cX7_whoSwears 7 = .ok (.iaload, 1) := by decide +kernel
theorem dX7_whoSwears_8 : decode cX7_whoSwears 8 = .ok (.if_icmp .ge 30, 3) := by decide +kernel
theorem dX7_whoSwears_11 : decode cX7_whoSwears 11 = .ok (.iload_n 2, 1) := by decide +kernel
theorem dX7_whoSwears_12 : decode cX7_whoSwears 12 = .ok (.aload_n 0, 1) := by decide +kernel
theorem dX7_whoSwears_13 : decode cX7_whoSwears 13 = .ok (.iload_n 3, 1) := by decide +kernel
theorem dX7_whoSwears_14 : decode cX7_whoSwears 14 = .ok (.iload_n 1, 1) := by decide +kernel
theorem dX7_whoSwears_15 : decode cX7_whoSwears 15 = .ok (.invokestatic 166, 3) := by decide +kernel
theorem dX7_whoSwears_18 : decode cX7_whoSwears 18 = .ok (.ldc 93, 2) := by decide +kernel
theorem dX7_whoSwears_20 : decode cX7_whoSwears 20 = .ok (.if_icmp .ne 7, 3) := by decide +kernel
theorem dX7_whoSwears_23 : decode cX7_whoSwears 23 = .ok (.iconst 0, 1) := by decide +kernel
theorem dX7_whoSwears_24 : decode cX7_whoSwears 24 = .ok (.goto 6, 3) := by decide +kernel
theorem dX7_whoSwears_27 : decode cX7_whoSwears 27 = .ok (.iconst 1, 1) := by decide +kernel
theorem dX7_whoSwears_28 : decode cX7_whoSwears 28 = .ok (.iload_n 3, 1) := by decide +kernel
theorem dX7_whoSwears_29 : decode cX7_whoSwears 29 = .ok (.ishl, 1) := by decide +kernel
theorem dX7_whoSwears_30 : decode cX7_whoSwears 30 = .ok (.ior, 1) := by decide +kernel
theorem dX7_whoSwears_31 : decode cX7_whoSwears 31 = .ok (.istore_n 2, 1) := by decide +kernel
theorem dX7_whoSwears_32 : decode cX7_whoSwears 32 = .ok (.iinc 3 1, 3) := by decide +kernel
theorem dX7_whoSwears_35 : decode cX7_whoSwears 35 = .ok (.goto (-31), 3) := by decide +kernel
theorem dX7_whoSwears_38 : decode cX7_whoSwears 38 = .ok (.iload_n 2, 1) := by decide +kernel
theorem dX7_whoSwears_39 : decode cX7_whoSwears 39 = .ok (.ireturn, 1) := by decide +kernel
theorem dX7_bump_0 : decode cX7_bump 0 = .ok (.iconst 0, 1) := by decide +kernel
theorem dX7_bump_1 : decode cX7_bump 1 = .ok (.istore 4, 2) := by decide +kernel
theorem dX7_bump_3 : decode cX7_bump 3 = .ok (.iconst 0, 1) := by decide +kernel
theorem dX7_bump_4 : decode cX7_bump 4 = .ok (.istore 5, 2) := by decide +kernel
theorem dX7_bump_6 : decode cX7_bump 6 = .ok (.iload 5, 2) := by decide +kernel
theorem dX7_bump_8 : decode cX7_bump 8 = .ok (.aload_n 0, 1) := by decide +kernel
theorem dX7_bump_9 : decode cX7_bump 9 = .ok (.iconst 3, 1) := by decide +kernel
theorem dX7_bump_10 : decode cX7_bump 10 = .ok (.iaload, 1) := by decide +kernel
theorem dX7_bump_11 : decode cX7_bump 11 = .ok (.if_icmp .ge 63, 3) := by decide +kernel
theorem dX7_bump_14 : decode cX7_bump 14 = .ok (.iload_n 2, 1) := by decide +kernel
theorem dX7_bump_15 : decode cX7_bump 15 = .ok (.iload 5, 2) := by decide +kernel
theorem dX7_bump_17 : decode cX7_bump 17 = .ok (.invokestatic 169, 3) := by decide +kernel
theorem dX7_bump_20 : decode cX7_bump 20 = .ok (.ifCond .eq 48, 3) := by decide +kernel
theorem dX7_bump_23 : decode cX7_bump 23 = .ok (.aload_n 0, 1) := by decide +kernel
theorem dX7_bump_24 : decode cX7_bump 24 = .ok (.iload 5, 2) := by decide +kernel
theorem dX7_bump_26 : decode cX7_bump 26 = .ok (.invokestatic 173, 3) := by decide +kernel
theorem dX7_bump_29 : decode cX7_bump 29 = .ok (.ifCond .eq 39, 3) := by decide +kernel
theorem dX7_bump_32 : decode cX7_bump 32 = .ok (.iload 5, 2) := by decide +kernel
theorem dX7_bump_34 : decode cX7_bump 34 = .ok (.iload_n 1, 1) := by decide +kernel
theorem dX7_bump_35 : decode cX7_bump 35 = .ok (.invokestatic 163, 3) := by decide +kernel
theorem dX7_bump_38 : decode cX7_bump 38 = .ok (.istore 6, 2) := by decide +kernel
theorem dX7_bump_40 : decode cX7_bump 40 = .ok (.aload_n 0, 1) := by decide +kernel
theorem dX7_bump_41 : decode cX7_bump 41 = .ok (.iload 6, 2) := by decide +kernel
theorem dX7_bump_43 : decode cX7_bump 43 = .ok (.aload_n 0, 1) := by decide +kernel
theorem dX7_bump_44 : decode cX7_bump 44 = .ok (.iconst 5, 1) := by decide +kernel
theorem dX7_bump_45 : decode cX7_bump 45 = .ok (.iload_n 1, 1) := by decide +kernel
theorem dX7_bump_46 : decode cX7_bump 46 = .ok (.iadd, 1) := by decide +kernel
theorem dX7_bump_47 : decode cX7_bump 47 = .ok (.iaload, 1) := by decide +kernel
theorem dX7_bump_48 : decode cX7_bump 48 = .ok (.iastore, 1) := by decide +kernel
theorem dX7_bump_49 : decode cX7_bump 49 = .ok (.aload_n 0, 1) := by decide +kernel
theorem dX7_bump_50 : decode cX7_bump 50 = .ok (.iload 6, 2) := by decide +kernel
theorem dX7_bump_52 : decode cX7_bump 52 = .ok (.iconst 1, 1) := by decide +kernel
theorem dX7_bump_53 : decode cX7_bump 53 = .ok (.iadd, 1) := by decide +kernel
theorem dX7_bump_54 : decode cX7_bump 54 = .ok (.iload_n 3, 1) := by decide +kernel
theorem dX7_bump_55 : decode cX7_bump 55 = .ok (.iastore, 1) := by decide +kernel
theorem dX7_bump_56 : decode cX7_bump 56 = .ok (.aload_n 0, 1) := by decide +kernel
theorem dX7_bump_57 : decode cX7_bump 57 = .ok (.iload 6, 2) := by decide +kernel
theorem dX7_bump_59 : decode cX7_bump 59 = .ok (.iconst 2, 1) := by decide +kernel
theorem dX7_bump_60 : decode cX7_bump 60 = .ok (.iadd, 1) := by decide +kernel
theorem dX7_bump_61 : decode cX7_bump 61 = .ok (.aload_n 0, 1) := by decide +kernel
theorem dX7_bump_62 : decode cX7_bump 62 = .ok (.iconst 4, 1) := by decide +kernel
theorem dX7_bump_63 : decode cX7_bump 63 = .ok (.iaload, 1) := by decide +kernel
theorem dX7_bump_64 : decode cX7_bump 64 = .ok (.iastore, 1) := by decide +kernel
theorem dX7_bump_65 : decode cX7_bump 65 = .ok (.iinc 4 1, 3) := by decide +kernel
theorem dX7_bump_68 : decode cX7_bump 68 = .ok (.iinc 5 1, 3) := by decide +kernel
theorem dX7_bump_71 : decode cX7_bump 71 = .ok (.goto (-65), 3) := by decide +kernel
theorem dX7_bump_74 : decode cX7_bump 74 = .ok (.iload 4, 2) := by decide +kernel
theorem dX7_bump_76 : decode cX7_bump 76 = .ok (.ireturn, 1) := by decide +kernel
theorem dX7_age_0 : decode cX7_age 0 = .ok (.aload_n 0, 1) := by decide +kernel
theorem dX7_age_1 : decode cX7_age 1 = .ok (.iconst 4, 1) := by decide +kernel
theorem dX7_age_2 : decode cX7_age 2 = .ok (.dup2, 1) := by decide +kernel
theorem dX7_age_3 : decode cX7_age 3 = .ok (.iaload, 1) := by decide +kernel
theorem dX7_age_4 : decode cX7_age 4 = .ok (.iload_n 1, 1) := by decide +kernel
theorem dX7_age_5 : decode cX7_age 5 = .ok (.iadd, 1) := by decide +kernel
theorem dX7_age_6 : decode cX7_age 6 = .ok (.iastore, 1) := by decide +kernel
theorem dX7_age_7 : decode cX7_age 7 = .ok (.iconst 0, 1) := by decide +kernel
theorem dX7_age_8 : decode cX7_age 8 = .ok (.istore_n 2, 1) := by decide +kernel
theorem dX7_age_9 : decode cX7_age 9 = .ok (.iload_n 2, 1) := by decide +kernel
theorem dX7_age_10 : decode cX7_age 10 = .ok (.aload_n 0, 1) := by decide +kernel
theorem dX7_age_11 : decode cX7_age 11 = .ok (.iconst 3, 1) := by decide +kernel
theorem dX7_age_12 : decode cX7_age 12 = .ok (.iaload, 1) := by decide +kernel
theorem dX7_age_13 : decode cX7_age 13 = .ok (.if_icmp .ge 23, 3) := by decide +kernel
theorem dX7_age_16 : decode cX7_age 16 = .ok (.aload_n 0, 1) := by decide +kernel
theorem dX7_age_17 : decode cX7_age 17 = .ok (.bipush 11, 2) := by decide +kernel
theorem dX7_age_19 : decode cX7_age 19 = .ok (.iconst 4, 1) := by decide +kernel
theorem dX7_age_20 : decode cX7_age 20 = .ok (.iload_n 2, 1) := by decide +kernel
theorem dX7_age_21 : decode cX7_age 21 = .ok (.imul, 1) := by decide +kernel
theorem dX7_age_22 : decode cX7_age 22 = .ok (.iadd, 1) := by decide +kernel
theorem dX7_age_23 : decode cX7_age 23 = .ok (.iconst 1, 1) := by decide +kernel
theorem dX7_age_24 : decode cX7_age 24 = .ok (.iadd, 1) := by decide +kernel
theorem dX7_age_25 : decode cX7_age 25 = .ok (.dup2, 1) := by decide +kernel
theorem dX7_age_26 : decode cX7_age 26 = .ok (.iaload, 1) := by decide +kernel
theorem dX7_age_27 : decode cX7_age 27 = .ok (.iload_n 1, 1) := by decide +kernel
theorem dX7_age_28 : decode cX7_age 28 = .ok (.iadd, 1) := by decide +kernel
theorem dX7_age_29 : decode cX7_age 29 = .ok (.iastore, 1) := by decide +kernel
theorem dX7_age_30 : decode cX7_age 30 = .ok (.iinc 2 1, 3) := by decide +kernel
theorem dX7_age_33 : decode cX7_age 33 = .ok (.goto (-24), 3) := by decide +kernel
theorem dX7_age_36 : decode cX7_age 36 = .ok (.return_, 1) := by decide +kernel
theorem dX7_layThen_0 : decode cX7_layThen 0 = .ok (.iconst 0, 1) := by decide +kernel
theorem dX7_layThen_1 : decode cX7_layThen 1 = .ok (.istore_n 1, 1) := by decide +kernel
theorem dX7_layThen_2 : decode cX7_layThen 2 = .ok (.iload_n 1, 1) := by decide +kernel
theorem dX7_layThen_3 : decode cX7_layThen 3 = .ok (.sipush 143, 3) := by decide +kernel
theorem dX7_layThen_6 : decode cX7_layThen 6 = .ok (.if_icmp .ge 21, 3) := by decide +kernel
theorem dX7_layThen_9 : decode cX7_layThen 9 = .ok (.aload_n 0, 1) := by decide +kernel
theorem dX7_layThen_10 : decode cX7_layThen 10 = .ok (.getfield 25, 3) := by decide +kernel
theorem dX7_layThen_13 : decode cX7_layThen 13 = .ok (.iload_n 1, 1) := by decide +kernel
theorem dX7_layThen_14 : decode cX7_layThen 14 = .ok (.aload_n 0, 1) := by decide +kernel
theorem dX7_layThen_15 : decode cX7_layThen 15 = .ok (.getfield 19, 3) := by decide +kernel
theorem dX7_layThen_18 : decode cX7_layThen 18 = .ok (.iload_n 1, 1) := by decide +kernel
theorem dX7_layThen_19 : decode cX7_layThen 19 = .ok (.iaload, 1) := by decide +kernel
theorem dX7_layThen_20 : decode cX7_layThen 20 = .ok (.iastore, 1) := by decide +kernel
theorem dX7_layThen_21 : decode cX7_layThen 21 = .ok (.iinc 1 1, 3) := by decide +kernel
theorem dX7_layThen_24 : decode cX7_layThen 24 = .ok (.goto (-22), 3) := by decide +kernel
theorem dX7_layThen_27 : decode cX7_layThen 27 = .ok (.return_, 1) := by decide +kernel
theorem dX7_keep_0 : decode cX7_keep 0 = .ok (.aload_n 0, 1) := by decide +kernel
theorem dX7_keep_1 : decode cX7_keep 1 = .ok (.getfield 152, 3) := by decide +kernel
theorem dX7_keep_4 : decode cX7_keep 4 = .ok (.bipush 24, 2) := by decide +kernel
theorem dX7_keep_6 : decode cX7_keep 6 = .ok (.if_icmp .ne 44, 3) := by decide +kernel
theorem dX7_keep_9 : decode cX7_keep 9 = .ok (.iconst 0, 1) := by decide +kernel
theorem dX7_keep_10 : decode cX7_keep 10 = .ok (.istore_n 1, 1) := by decide +kernel
theorem dX7_keep_11 : decode cX7_keep 11 = .ok (.iload_n 1, 1) := by decide +kernel
theorem dX7_keep_12 : decode cX7_keep 12 = .ok (.sipush 3289, 3) := by decide +kernel
theorem dX7_keep_15 : decode cX7_keep 15 = .ok (.if_icmp .ge 25, 3) := by decide +kernel
theorem dX7_keep_18 : decode cX7_keep 18 = .ok (.aload_n 0, 1) := by decide +kernel
theorem dX7_keep_19 : decode cX7_keep 19 = .ok (.getfield 28, 3) := by decide +kernel
theorem dX7_keep_22 : decode cX7_keep 22 = .ok (.iload_n 1, 1) := by decide +kernel
theorem dX7_keep_23 : decode cX7_keep 23 = .ok (.aload_n 0, 1) := by decide +kernel
theorem dX7_keep_24 : decode cX7_keep 24 = .ok (.getfield 28, 3) := by decide +kernel
theorem dX7_keep_27 : decode cX7_keep 27 = .ok (.iload_n 1, 1) := by decide +kernel
theorem dX7_keep_28 : decode cX7_keep 28 = .ok (.sipush 143, 3) := by decide +kernel
theorem dX7_keep_31 : decode cX7_keep 31 = .ok (.iadd, 1) := by decide +kernel
theorem dX7_keep_32 : decode cX7_keep 32 = .ok (.iaload, 1) := by decide +kernel
theorem dX7_keep_33 : decode cX7_keep 33 = .ok (.iastore, 1) := by decide +kernel
theorem dX7_keep_34 : decode cX7_keep 34 = .ok (.iinc 1 1, 3) := by decide +kernel
theorem dX7_keep_37 : decode cX7_keep 37 = .ok (.goto (-26), 3) := by decide +kernel
theorem dX7_keep_40 : decode cX7_keep 40 = .ok (.aload_n 0, 1) := by decide +kernel
theorem dX7_keep_41 : decode cX7_keep 41 = .ok (.dup, 1) := by decide +kernel
theorem dX7_keep_42 : decode cX7_keep 42 = .ok (.getfield 152, 3) := by decide +kernel
theorem dX7_keep_45 : decode cX7_keep 45 = .ok (.iconst 1, 1) := by decide +kernel
theorem dX7_keep_46 : decode cX7_keep 46 = .ok (.isub, 1) := by decide +kernel
theorem dX7_keep_47 : decode cX7_keep 47 = .ok (.putfield 152, 3) := by decide +kernel
theorem dX7_keep_50 : decode cX7_keep 50 = .ok (.iconst 0, 1) := by decide +kernel
theorem dX7_keep_51 : decode cX7_keep 51 = .ok (.istore_n 1, 1) := by decide +kernel
theorem dX7_keep_52 : decode cX7_keep 52 = .ok (.iload_n 1, 1) := by decide +kernel
theorem dX7_keep_53 : decode cX7_keep 53 = .ok (.sipush 143, 3) := by decide +kernel
theorem dX7_keep_56 : decode cX7_keep 56 = .ok (.if_icmp .ge 30, 3) := by decide +kernel
theorem dX7_keep_59 : decode cX7_keep 59 = .ok (.aload_n 0, 1) := by decide +kernel
theorem dX7_keep_60 : decode cX7_keep 60 = .ok (.getfield 28, 3) := by decide +kernel
theorem dX7_keep_63 : decode cX7_keep 63 = .ok (.sipush 143, 3) := by decide +kernel
theorem dX7_keep_66 : decode cX7_keep 66 = .ok (.aload_n 0, 1) := by decide +kernel
theorem dX7_keep_67 : decode cX7_keep 67 = .ok (.getfield 152, 3) := by decide +kernel
theorem dX7_keep_70 : decode cX7_keep 70 = .ok (.imul, 1) := by decide +kernel
theorem dX7_keep_71 : decode cX7_keep 71 = .ok (.iload_n 1, 1) := by decide +kernel
theorem dX7_keep_72 : decode cX7_keep 72 = .ok (.iadd, 1) := by decide +kernel
theorem dX7_keep_73 : decode cX7_keep 73 = .ok (.aload_n 0, 1) := by decide +kernel
theorem dX7_keep_74 : decode cX7_keep 74 = .ok (.getfield 19, 3) := by decide +kernel
theorem dX7_keep_77 : decode cX7_keep 77 = .ok (.iload_n 1, 1) := by decide +kernel
theorem dX7_keep_78 : decode cX7_keep 78 = .ok (.iaload, 1) := by decide +kernel
theorem dX7_keep_79 : decode cX7_keep 79 = .ok (.iastore, 1) := by decide +kernel
theorem dX7_keep_80 : decode cX7_keep 80 = .ok (.iinc 1 1, 3) := by decide +kernel
theorem dX7_keep_83 : decode cX7_keep 83 = .ok (.goto (-31), 3) := by decide +kernel
theorem dX7_keep_86 : decode cX7_keep 86 = .ok (.aload_n 0, 1) := by decide +kernel
theorem dX7_keep_87 : decode cX7_keep 87 = .ok (.dup, 1) := by decide +kernel
theorem dX7_keep_88 : decode cX7_keep 88 = .ok (.getfield 152, 3) := by decide +kernel
theorem dX7_keep_91 : decode cX7_keep 91 = .ok (.iconst 1, 1) := by decide +kernel
theorem dX7_keep_92 : decode cX7_keep 92 = .ok (.iadd, 1) := by decide +kernel
theorem dX7_keep_93 : decode cX7_keep 93 = .ok (.putfield 152, 3) := by decide +kernel
theorem dX7_keep_96 : decode cX7_keep 96 = .ok (.return_, 1) := by decide +kernel
theorem dX7_walk_0 : decode cX7_walk 0 = .ok (.aload_n 0, 1) := by decide +kernel
theorem dX7_walk_1 : decode cX7_walk 1 = .ok (.iconst 0, 1) := by decide +kernel
theorem dX7_walk_2 : decode cX7_walk 2 = .ok (.putfield 50, 3) := by decide +kernel
theorem dX7_walk_5 : decode cX7_walk 5 = .ok (.aload_n 0, 1) := by decide +kernel
theorem dX7_walk_6 : decode cX7_walk 6 = .ok (.iload_n 1, 1) := by decide +kernel
theorem dX7_walk_7 : decode cX7_walk 7 = .ok (.invokevirtual 176, 3) := by decide +kernel
theorem dX7_walk_10 : decode cX7_walk 10 = .ok (.ifCond .eq 29, 3) := by decide +kernel
theorem dX7_walk_13 : decode cX7_walk 13 = .ok (.iload_n 2, 1) := by decide +kernel
theorem dX7_walk_14 : decode cX7_walk 14 = .ok (.i2l, 1) := by decide +kernel
theorem dX7_walk_15 : decode cX7_walk 15 = .ok (.lconst 0, 1) := by decide +kernel
theorem dX7_walk_16 : decode cX7_walk 16 = .ok (.aload_n 0, 1) := by decide +kernel
theorem dX7_walk_17 : decode cX7_walk 17 = .ok (.invokevirtual 179, 3) := by decide +kernel
theorem dX7_walk_20 : decode cX7_walk 20 = .ok (.i2l, 1) := by decide +kernel
theorem dX7_walk_21 : decode cX7_walk 21 = .ok (.invokestatic 60, 3) := by decide +kernel
theorem dX7_walk_24 : decode cX7_walk 24 = .ok (.ifCond .eq 15, 3) := by decide +kernel
theorem dX7_walk_27 : decode cX7_walk 27 = .ok (.iload_n 3, 1) := by decide +kernel
theorem dX7_walk_28 : decode cX7_walk 28 = .ok (.i2l, 1) := by decide +kernel
theorem dX7_walk_29 : decode cX7_walk 29 = .ok (.lconst 1, 1) := by decide +kernel
theorem dX7_walk_30 : decode cX7_walk 30 = .ok (.ldc2_w 183, 3) := by decide +kernel
theorem dX7_walk_33 : decode cX7_walk 33 = .ok (.invokestatic 60, 3) := by decide +kernel
theorem dX7_walk_36 : decode cX7_walk 36 = .ok (.ifCond .ne 6, 3) := by decide +kernel
theorem dX7_walk_39 : decode cX7_walk 39 = .ok (.ldc 70, 2) := by decide +kernel
theorem dX7_walk_41 : decode cX7_walk 41 = .ok (.ireturn, 1) := by decide +kernel
theorem dX7_walk_42 : decode cX7_walk 42 = .ok (.aload_n 0, 1) := by decide +kernel
theorem dX7_walk_43 : decode cX7_walk 43 = .ok (.invokevirtual 185, 3) := by decide +kernel
theorem dX7_walk_46 : decode cX7_walk 46 = .ok (.aload_n 0, 1) := by decide +kernel
theorem dX7_walk_47 : decode cX7_walk 47 = .ok (.getfield 19, 3) := by decide +kernel
theorem dX7_walk_50 : decode cX7_walk 50 = .ok (.iload_n 1, 1) := by decide +kernel
theorem dX7_walk_51 : decode cX7_walk 51 = .ok (.iload_n 2, 1) := by decide +kernel
theorem dX7_walk_52 : decode cX7_walk 52 = .ok (.iload_n 3, 1) := by decide +kernel
theorem dX7_walk_53 : decode cX7_walk 53 = .ok (.invokestatic 188, 3) := by decide +kernel
theorem dX7_walk_56 : decode cX7_walk 56 = .ok (.ireturn, 1) := by decide +kernel
theorem dX7_move_0 : decode cX7_move 0 = .ok (.aload_n 0, 1) := by decide +kernel
theorem dX7_move_1 : decode cX7_move 1 = .ok (.iconst 0, 1) := by decide +kernel
theorem dX7_move_2 : decode cX7_move 2 = .ok (.putfield 50, 3) := by decide +kernel
theorem dX7_move_5 : decode cX7_move 5 = .ok (.aload_n 0, 1) := by decide +kernel
theorem dX7_move_6 : decode cX7_move 6 = .ok (.iload_n 1, 1) := by decide +kernel
theorem dX7_move_7 : decode cX7_move 7 = .ok (.invokevirtual 176, 3) := by decide +kernel
theorem dX7_move_10 : decode cX7_move 10 = .ok (.ifCond .eq 15, 3) := by decide +kernel
theorem dX7_move_13 : decode cX7_move 13 = .ok (.iload_n 2, 1) := by decide +kernel
theorem dX7_move_14 : decode cX7_move 14 = .ok (.i2l, 1) := by decide +kernel
theorem dX7_move_15 : decode cX7_move 15 = .ok (.lconst 0, 1) := by decide +kernel
theorem dX7_move_16 : decode cX7_move 16 = .ok (.ldc2_w 192, 3) := by decide +kernel
theorem dX7_move_19 : decode cX7_move 19 = .ok (.invokestatic 60, 3) := by decide +kernel
theorem dX7_move_22 : decode cX7_move 22 = .ok (.ifCond .ne 6, 3) := by decide +kernel
theorem dX7_move_25 : decode cX7_move 25 = .ok (.ldc 70, 2) := by decide +kernel
theorem dX7_move_27 : decode cX7_move 27 = .ok (.ireturn, 1) := by decide +kernel
theorem dX7_move_28 : decode cX7_move 28 = .ok (.aload_n 0, 1) := by decide +kernel
theorem dX7_move_29 : decode cX7_move 29 = .ok (.invokevirtual 185, 3) := by decide +kernel
theorem dX7_move_32 : decode cX7_move 32 = .ok (.aload_n 0, 1) := by decide +kernel
theorem dX7_move_33 : decode cX7_move 33 = .ok (.getfield 19, 3) := by decide +kernel
theorem dX7_move_36 : decode cX7_move 36 = .ok (.iconst 5, 1) := by decide +kernel
theorem dX7_move_37 : decode cX7_move 37 = .ok (.iload_n 1, 1) := by decide +kernel
theorem dX7_move_38 : decode cX7_move 38 = .ok (.iadd, 1) := by decide +kernel
theorem dX7_move_39 : decode cX7_move 39 = .ok (.iaload, 1) := by decide +kernel
theorem dX7_move_40 : decode cX7_move 40 = .ok (.istore_n 3, 1) := by decide +kernel
theorem dX7_move_41 : decode cX7_move 41 = .ok (.aload_n 0, 1) := by decide +kernel
theorem dX7_move_42 : decode cX7_move 42 = .ok (.getfield 19, 3) := by decide +kernel
theorem dX7_move_45 : decode cX7_move 45 = .ok (.iconst 5, 1) := by decide +kernel
theorem dX7_move_46 : decode cX7_move 46 = .ok (.iload_n 1, 1) := by decide +kernel
theorem dX7_move_47 : decode cX7_move 47 = .ok (.iadd, 1) := by decide +kernel
theorem dX7_move_48 : decode cX7_move 48 = .ok (.iload_n 2, 1) := by decide +kernel
theorem dX7_move_49 : decode cX7_move 49 = .ok (.iastore, 1) := by decide +kernel
theorem dX7_move_50 : decode cX7_move 50 = .ok (.iload_n 3, 1) := by decide +kernel
theorem dX7_move_51 : decode cX7_move 51 = .ok (.ireturn, 1) := by decide +kernel
theorem dX7_bribe_0 : decode cX7_bribe 0 = .ok (.aload_n 0, 1) := by decide +kernel
theorem dX7_bribe_1 : decode cX7_bribe 1 = .ok (.iconst 0, 1) := by decide +kernel
theorem dX7_bribe_2 : decode cX7_bribe 2 = .ok (.putfield 50, 3) := by decide +kernel
theorem dX7_bribe_5 : decode cX7_bribe 5 = .ok (.aload_n 0, 1) := by decide +kernel
theorem dX7_bribe_6 : decode cX7_bribe 6 = .ok (.iload_n 1, 1) := by decide +kernel
theorem dX7_bribe_7 : decode cX7_bribe 7 = .ok (.invokevirtual 194, 3) := by decide +kernel
theorem dX7_bribe_10 : decode cX7_bribe 10 = .ok (.ifCond .eq 17, 3) := by decide +kernel
theorem dX7_bribe_13 : decode cX7_bribe 13 = .ok (.iload_n 2, 1) := by decide +kernel
theorem dX7_bribe_14 : decode cX7_bribe 14 = .ok (.i2l, 1) := by decide +kernel
theorem dX7_bribe_15 : decode cX7_bribe 15 = .ok (.ldc2_w 197, 3) := by decide +kernel
theorem dX7_bribe_18 : decode cX7_bribe 18 = .ok (.ldc2_w 199, 3) := by decide +kernel
theorem dX7_bribe_21 : decode cX7_bribe 21 = .ok (.invokestatic 60, 3) := by decide +kernel
theorem dX7_bribe_24 : decode cX7_bribe 24 = .ok (.ifCond .ne 6, 3) := by decide +kernel
theorem dX7_bribe_27 : decode cX7_bribe 27 = .ok (.ldc 70, 2) := by decide +kernel
theorem dX7_bribe_29 : decode cX7_bribe 29 = .ok (.ireturn, 1) := by decide +kernel
theorem dX7_bribe_30 : decode cX7_bribe 30 = .ok (.aload_n 0, 1) := by decide +kernel
theorem dX7_bribe_31 : decode cX7_bribe 31 = .ok (.getfield 19, 3) := by decide +kernel
theorem dX7_bribe_34 : decode cX7_bribe 34 = .ok (.iload_n 1, 1) := by decide +kernel
theorem dX7_bribe_35 : decode cX7_bribe 35 = .ok (.iconst 0, 1) := by decide +kernel
theorem dX7_bribe_36 : decode cX7_bribe 36 = .ok (.invokestatic 155, 3) := by decide +kernel
theorem dX7_bribe_39 : decode cX7_bribe 39 = .ok (.iconst 2, 1) := by decide +kernel
theorem dX7_bribe_40 : decode cX7_bribe 40 = .ok (.if_icmp .eq 6, 3) := by decide +kernel
theorem dX7_bribe_43 : decode cX7_bribe 43 = .ok (.ldc 201, 2) := by decide +kernel
theorem dX7_bribe_45 : decode cX7_bribe 45 = .ok (.ireturn, 1) := by decide +kernel
theorem dX7_bribe_46 : decode cX7_bribe 46 = .ok (.aload_n 0, 1) := by decide +kernel
theorem dX7_bribe_47 : decode cX7_bribe 47 = .ok (.invokevirtual 185, 3) := by decide +kernel
theorem dX7_bribe_50 : decode cX7_bribe 50 = .ok (.aload_n 0, 1) := by decide +kernel
theorem dX7_bribe_51 : decode cX7_bribe 51 = .ok (.getfield 19, 3) := by decide +kernel
theorem dX7_bribe_54 : decode cX7_bribe 54 = .ok (.iload_n 1, 1) := by decide +kernel
theorem dX7_bribe_55 : decode cX7_bribe 55 = .ok (.iconst 3, 1) := by decide +kernel
theorem dX7_bribe_56 : decode cX7_bribe 56 = .ok (.invokestatic 155, 3) := by decide +kernel
theorem dX7_bribe_59 : decode cX7_bribe 59 = .ok (.istore_n 3, 1) := by decide +kernel
theorem dX7_bribe_60 : decode cX7_bribe 60 = .ok (.aload_n 0, 1) := by decide +kernel
theorem dX7_bribe_61 : decode cX7_bribe 61 = .ok (.getfield 19, 3) := by decide +kernel
theorem dX7_bribe_64 : decode cX7_bribe 64 = .ok (.bipush 11, 2) := by decide +kernel
theorem dX7_bribe_66 : decode cX7_bribe 66 = .ok (.iconst 4, 1) := by decide +kernel
theorem dX7_bribe_67 : decode cX7_bribe 67 = .ok (.iload_n 1, 1) := by decide +kernel
theorem dX7_bribe_68 : decode cX7_bribe 68 = .ok (.imul, 1) := by decide +kernel
theorem dX7_bribe_69 : decode cX7_bribe 69 = .ok (.iadd, 1) := by decide +kernel
theorem dX7_bribe_70 : decode cX7_bribe 70 = .ok (.iconst 3, 1) := by decide +kernel
theorem dX7_bribe_71 : decode cX7_bribe 71 = .ok (.iadd, 1) := by decide +kernel
theorem dX7_bribe_72 : decode cX7_bribe 72 = .ok (.iload_n 2, 1) := by decide +kernel
theorem dX7_bribe_73 : decode cX7_bribe 73 = .ok (.iastore, 1) := by decide +kernel
theorem dX7_bribe_74 : decode cX7_bribe 74 = .ok (.iload_n 3, 1) := by decide +kernel
theorem dX7_bribe_75 : decode cX7_bribe 75 = .ok (.ireturn, 1) := by decide +kernel
theorem dX7_alive_0 : decode cX7_alive 0 = .ok (.iconst 0, 1) := by decide +kernel
theorem dX7_alive_1 : decode cX7_alive 1 = .ok (.istore_n 1, 1) := by decide +kernel
theorem dX7_alive_2 : decode cX7_alive 2 = .ok (.iconst 0, 1) := by decide +kernel
theorem dX7_alive_3 : decode cX7_alive 3 = .ok (.istore_n 2, 1) := by decide +kernel
theorem dX7_alive_4 : decode cX7_alive 4 = .ok (.iload_n 2, 1) := by decide +kernel
theorem dX7_alive_5 : decode cX7_alive 5 = .ok (.aload_n 0, 1) := by decide +kernel
theorem dX7_alive_6 : decode cX7_alive 6 = .ok (.getfield 19, 3) := by decide +kernel
theorem dX7_alive_9 : decode cX7_alive 9 = .ok (.iconst 3, 1) := by decide +kernel
theorem dX7_alive_10 : decode cX7_alive 10 = .ok (.iaload, 1) := by decide +kernel
theorem dX7_alive_11 : decode cX7_alive 11 = .ok (.if_icmp .ge 30, 3) := by decide +kernel
theorem dX7_alive_14 : decode cX7_alive 14 = .ok (.iload_n 1, 1) := by decide +kernel
theorem dX7_alive_15 : decode cX7_alive 15 = .ok (.aload_n 0, 1) := by decide +kernel
theorem dX7_alive_16 : decode cX7_alive 16 = .ok (.getfield 19, 3) := by decide +kernel
theorem dX7_alive_19 : decode cX7_alive 19 = .ok (.iload_n 2, 1) := by decide +kernel
theorem dX7_alive_20 : decode cX7_alive 20 = .ok (.invokestatic 159, 3) := by decide +kernel
theorem dX7_alive_23 : decode cX7_alive 23 = .ok (.ifCond .eq 9, 3) := by decide +kernel
theorem dX7_alive_26 : decode cX7_alive 26 = .ok (.iconst 1, 1) := by decide +kernel
theorem dX7_alive_27 : decode cX7_alive 27 = .ok (.iload_n 2, 1) := by decide +kernel
theorem dX7_alive_28 : decode cX7_alive 28 = .ok (.ishl, 1) := by decide +kernel
theorem dX7_alive_29 : decode cX7_alive 29 = .ok (.goto 4, 3) := by decide +kernel
theorem dX7_alive_32 : decode cX7_alive 32 = .ok (.iconst 0, 1) := by decide +kernel
theorem dX7_alive_33 : decode cX7_alive 33 = .ok (.ior, 1) := by decide +kernel
theorem dX7_alive_34 : decode cX7_alive 34 = .ok (.istore_n 1, 1) := by decide +kernel
theorem dX7_alive_35 : decode cX7_alive 35 = .ok (.iinc 2 1, 3) := by decide +kernel
theorem dX7_alive_38 : decode cX7_alive 38 = .ok (.goto (-34), 3) := by decide +kernel
theorem dX7_alive_41 : decode cX7_alive 41 = .ok (.iload_n 1, 1) := by decide +kernel
theorem dX7_alive_42 : decode cX7_alive 42 = .ok (.ireturn, 1) := by decide +kernel
theorem dX7_years_0 : decode cX7_years 0 = .ok (.aload_n 0, 1) := by decide +kernel
theorem dX7_years_1 : decode cX7_years 1 = .ok (.iconst 0, 1) := by decide +kernel
theorem dX7_years_2 : decode cX7_years 2 = .ok (.putfield 50, 3) := by decide +kernel
theorem dX7_years_5 : decode cX7_years 5 = .ok (.aload_n 0, 1) := by decide +kernel
theorem dX7_years_6 : decode cX7_years 6 = .ok (.invokevirtual 202, 3) := by decide +kernel
theorem dX7_years_9 : decode cX7_years 9 = .ok (.ifCond .ne 6, 3) := by decide +kernel
theorem dX7_years_12 : decode cX7_years 12 = .ok (.ldc 201, 2) := by decide +kernel
theorem dX7_years_14 : decode cX7_years 14 = .ok (.ireturn, 1) := by decide +kernel
theorem dX7_years_15 : decode cX7_years 15 = .ok (.iload_n 1, 1) := by decide +kernel
theorem dX7_years_16 : decode cX7_years 16 = .ok (.i2l, 1) := by decide +kernel
theorem dX7_years_17 : decode cX7_years 17 = .ok (.lconst 1, 1) := by decide +kernel
theorem dX7_years_18 : decode cX7_years 18 = .ok (.ldc2_w 205, 3) := by decide +kernel
theorem dX7_years_21 : decode cX7_years 21 = .ok (.invokestatic 60, 3) := by decide +kernel
theorem dX7_years_24 : decode cX7_years 24 = .ok (.ifCond .ne 6, 3) := by decide +kernel
theorem dX7_years_27 : decode cX7_years 27 = .ok (.ldc 70, 2) := by decide +kernel
theorem dX7_years_29 : decode cX7_years 29 = .ok (.ireturn, 1) := by decide +kernel
theorem dX7_years_30 : decode cX7_years 30 = .ok (.aload_n 0, 1) := by decide +kernel
theorem dX7_years_31 : decode cX7_years 31 = .ok (.getfield 19, 3) := by decide +kernel
theorem dX7_years_34 : decode cX7_years 34 = .ok (.iconst 4, 1) := by decide +kernel
theorem dX7_years_35 : decode cX7_years 35 = .ok (.iaload, 1) := by decide +kernel
theorem dX7_years_36 : decode cX7_years 36 = .ok (.iload_n 1, 1) := by decide +kernel
theorem dX7_years_37 : decode cX7_years 37 = .ok (.iadd, 1) := by decide +kernel
theorem dX7_years_38 : decode cX7_years 38 = .ok (.sipush 999, 3) := by decide +kernel
theorem dX7_years_41 : decode cX7_years 41 = .ok (.if_icmp .le 6, 3) := by decide +kernel
theorem dX7_years_44 : decode cX7_years 44 = .ok (.ldc 80, 2) := by decide +kernel
theorem dX7_years_46 : decode cX7_years 46 = .ok (.ireturn, 1) := by decide +kernel
theorem dX7_years_47 : decode cX7_years 47 = .ok (.iconst 0, 1) := by decide +kernel
theorem dX7_years_48 : decode cX7_years 48 = .ok (.istore_n 2, 1) := by decide +kernel
theorem dX7_years_49 : decode cX7_years 49 = .ok (.iload_n 2, 1) := by decide +kernel
theorem dX7_years_50 : decode cX7_years 50 = .ok (.iload_n 1, 1) := by decide +kernel
theorem dX7_years_51 : decode cX7_years 51 = .ok (.if_icmp .ge 21, 3) := by decide +kernel
theorem dX7_years_54 : decode cX7_years 54 = .ok (.aload_n 0, 1) := by decide +kernel
theorem dX7_years_55 : decode cX7_years 55 = .ok (.invokevirtual 185, 3) := by decide +kernel
theorem dX7_years_58 : decode cX7_years 58 = .ok (.aload_n 0, 1) := by decide +kernel
theorem dX7_years_59 : decode cX7_years 59 = .ok (.getfield 19, 3) := by decide +kernel
theorem dX7_years_62 : decode cX7_years 62 = .ok (.iconst 1, 1) := by decide +kernel
theorem dX7_years_63 : decode cX7_years 63 = .ok (.invokestatic 207, 3) := by decide +kernel
theorem dX7_years_66 : decode cX7_years 66 = .ok (.iinc 2 1, 3) := by decide +kernel
theorem dX7_years_69 : decode cX7_years 69 = .ok (.goto (-20), 3) := by decide +kernel
theorem dX7_years_72 : decode cX7_years 72 = .ok (.aload_n 0, 1) := by decide +kernel
theorem dX7_years_73 : decode cX7_years 73 = .ok (.invokevirtual 211, 3) := by decide +kernel
theorem dX7_years_76 : decode cX7_years 76 = .ok (.invokestatic 214, 3) := by decide +kernel
theorem dX7_years_79 : decode cX7_years 79 = .ok (.ireturn, 1) := by decide +kernel
theorem dX7_undo_0 : decode cX7_undo 0 = .ok (.aload_n 0, 1) := by decide +kernel
theorem dX7_undo_1 : decode cX7_undo 1 = .ok (.iconst 0, 1) := by decide +kernel
theorem dX7_undo_2 : decode cX7_undo 2 = .ok (.putfield 50, 3) := by decide +kernel
theorem dX7_undo_5 : decode cX7_undo 5 = .ok (.aload_n 0, 1) := by decide +kernel
theorem dX7_undo_6 : decode cX7_undo 6 = .ok (.getfield 152, 3) := by decide +kernel
theorem dX7_undo_9 : decode cX7_undo 9 = .ok (.ifCond .ne 6, 3) := by decide +kernel
theorem dX7_undo_12 : decode cX7_undo 12 = .ok (.ldc 201, 2) := by decide +kernel
theorem dX7_undo_14 : decode cX7_undo 14 = .ok (.ireturn, 1) := by decide +kernel
theorem dX7_undo_15 : decode cX7_undo 15 = .ok (.aload_n 0, 1) := by decide +kernel
theorem dX7_undo_16 : decode cX7_undo 16 = .ok (.dup, 1) := by decide +kernel
theorem dX7_undo_17 : decode cX7_undo 17 = .ok (.getfield 152, 3) := by decide +kernel
theorem dX7_undo_20 : decode cX7_undo 20 = .ok (.iconst 1, 1) := by decide +kernel
theorem dX7_undo_21 : decode cX7_undo 21 = .ok (.isub, 1) := by decide +kernel
theorem dX7_undo_22 : decode cX7_undo 22 = .ok (.putfield 152, 3) := by decide +kernel
theorem dX7_undo_25 : decode cX7_undo 25 = .ok (.iconst 0, 1) := by decide +kernel
theorem dX7_undo_26 : decode cX7_undo 26 = .ok (.istore_n 1, 1) := by decide +kernel
theorem dX7_undo_27 : decode cX7_undo 27 = .ok (.iload_n 1, 1) := by decide +kernel
theorem dX7_undo_28 : decode cX7_undo 28 = .ok (.sipush 143, 3) := by decide +kernel
theorem dX7_undo_31 : decode cX7_undo 31 = .ok (.if_icmp .ge 30, 3) := by decide +kernel
theorem dX7_undo_34 : decode cX7_undo 34 = .ok (.aload_n 0, 1) := by decide +kernel
theorem dX7_undo_35 : decode cX7_undo 35 = .ok (.getfield 19, 3) := by decide +kernel
theorem dX7_undo_38 : decode cX7_undo 38 = .ok (.iload_n 1, 1) := by decide +kernel
theorem dX7_undo_39 : decode cX7_undo 39 = .ok (.aload_n 0, 1) := by decide +kernel
theorem dX7_undo_40 : decode cX7_undo 40 = .ok (.getfield 28, 3) := by decide +kernel
theorem dX7_undo_43 : decode cX7_undo 43 = .ok (.sipush 143, 3) := by decide +kernel
theorem dX7_undo_46 : decode cX7_undo 46 = .ok (.aload_n 0, 1) := by decide +kernel
theorem dX7_undo_47 : decode cX7_undo 47 = .ok (.getfield 152, 3) := by decide +kernel
theorem dX7_undo_50 : decode cX7_undo 50 = .ok (.imul, 1) := by decide +kernel
theorem dX7_undo_51 : decode cX7_undo 51 = .ok (.iload_n 1, 1) := by decide +kernel
theorem dX7_undo_52 : decode cX7_undo 52 = .ok (.iadd, 1) := by decide +kernel
theorem dX7_undo_53 : decode cX7_undo 53 = .ok (.iaload, 1) := by decide +kernel
theorem dX7_undo_54 : decode cX7_undo 54 = .ok (.iastore, 1) := by decide +kernel
theorem dX7_undo_55 : decode cX7_undo 55 = .ok (.iinc 1 1, 3) := by decide +kernel
theorem dX7_undo_58 : decode cX7_undo 58 = .ok (.goto (-31), 3) := by decide +kernel
theorem dX7_undo_61 : decode cX7_undo 61 = .ok (.aload_n 0, 1) := by decide +kernel
theorem dX7_undo_62 : decode cX7_undo 62 = .ok (.getfield 152, 3) := by decide +kernel
theorem dX7_undo_65 : decode cX7_undo 65 = .ok (.ireturn, 1) := by decide +kernel
theorem dX7_stonesOf_0 : decode cX7_stonesOf 0 = .ok (.iconst 0, 1) := by decide +kernel
theorem dX7_stonesOf_1 : decode cX7_stonesOf 1 = .ok (.istore_n 2, 1) := by decide +kernel
theorem dX7_stonesOf_2 : decode cX7_stonesOf 2 = .ok (.iconst 0, 1) := by decide +kernel
theorem dX7_stonesOf_3 : decode cX7_stonesOf 3 = .ok (.istore_n 3, 1) := by decide +kernel
theorem dX7_stonesOf_4 : decode cX7_stonesOf 4 = .ok (.iload_n 3, 1) := by decide +kernel
theorem dX7_stonesOf_5 : decode cX7_stonesOf 5 = .ok (.aload_n 0, 1) := by decide +kernel
theorem dX7_stonesOf_6 : decode cX7_stonesOf 6 = .ok (.getfield 19, 3) := by decide +kernel
theorem dX7_stonesOf_9 : decode cX7_stonesOf 9 = .ok (.iconst 2, 1) := by decide +kernel
theorem dX7_stonesOf_10 : decode cX7_stonesOf 10 = .ok (.iaload, 1) := by decide +kernel
theorem dX7_stonesOf_11 : decode cX7_stonesOf 11 = .ok (.if_icmp .ge 33, 3) := by decide +kernel
theorem dX7_stonesOf_14 : decode cX7_stonesOf 14 = .ok (.iload_n 2, 1) := by decide +kernel
theorem dX7_stonesOf_15 : decode cX7_stonesOf 15 = .ok (.aload_n 0, 1) := by decide +kernel
theorem dX7_stonesOf_16 : decode cX7_stonesOf 16 = .ok (.getfield 19, 3) := by decide +kernel
theorem dX7_stonesOf_19 : decode cX7_stonesOf 19 = .ok (.iload_n 1, 1) := by decide +kernel
theorem dX7_stonesOf_20 : decode cX7_stonesOf 20 = .ok (.iload_n 3, 1) := by decide +kernel
theorem dX7_stonesOf_21 : decode cX7_stonesOf 21 = .ok (.invokestatic 166, 3) := by decide +kernel
theorem dX7_stonesOf_24 : decode cX7_stonesOf 24 = .ok (.ldc 93, 2) := by decide +kernel
theorem dX7_stonesOf_26 : decode cX7_stonesOf 26 = .ok (.if_icmp .ne 7, 3) := by decide +kernel
theorem dX7_stonesOf_29 : decode cX7_stonesOf 29 = .ok (.iconst 0, 1) := by decide +kernel
theorem dX7_stonesOf_30 : decode cX7_stonesOf 30 = .ok (.goto 6, 3) := by decide +kernel
theorem dX7_stonesOf_33 : decode cX7_stonesOf 33 = .ok (.iconst 1, 1) := by decide +kernel
theorem dX7_stonesOf_34 : decode cX7_stonesOf 34 = .ok (.iload_n 3, 1) := by decide +kernel
theorem dX7_stonesOf_35 : decode cX7_stonesOf 35 = .ok (.ishl, 1) := by decide +kernel
theorem dX7_stonesOf_36 : decode cX7_stonesOf 36 = .ok (.ior, 1) := by decide +kernel
theorem dX7_stonesOf_37 : decode cX7_stonesOf 37 = .ok (.istore_n 2, 1) := by decide +kernel
theorem dX7_stonesOf_38 : decode cX7_stonesOf 38 = .ok (.iinc 3 1, 3) := by decide +kernel
theorem dX7_stonesOf_41 : decode cX7_stonesOf 41 = .ok (.goto (-37), 3) := by decide +kernel
theorem dX7_stonesOf_44 : decode cX7_stonesOf 44 = .ok (.iload_n 2, 1) := by decide +kernel
theorem dX7_stonesOf_45 : decode cX7_stonesOf 45 = .ok (.ireturn, 1) := by decide +kernel
theorem dX7_witness_0 : decode cX7_witness 0 = .ok (.aload_n 0, 1) := by decide +kernel
theorem dX7_witness_1 : decode cX7_witness 1 = .ok (.iconst 0, 1) := by decide +kernel
theorem dX7_witness_2 : decode cX7_witness 2 = .ok (.putfield 50, 3) := by decide +kernel
theorem dX7_witness_5 : decode cX7_witness 5 = .ok (.aload_n 0, 1) := by decide +kernel
theorem dX7_witness_6 : decode cX7_witness 6 = .ok (.iload_n 1, 1) := by decide +kernel
theorem dX7_witness_7 : decode cX7_witness 7 = .ok (.invokevirtual 194, 3) := by decide +kernel
theorem dX7_witness_10 : decode cX7_witness 10 = .ok (.ifCond .ne 6, 3) := by decide +kernel
theorem dX7_witness_13 : decode cX7_witness 13 = .ok (.ldc 70, 2) := by decide +kernel
theorem dX7_witness_15 : decode cX7_witness 15 = .ok (.ireturn, 1) := by decide +kernel
theorem dX7_witness_16 : decode cX7_witness 16 = .ok (.iload_n 2, 1) := by decide +kernel
theorem dX7_witness_17 : decode cX7_witness 17 = .ok (.tableswitch 80 0 4 #[35, 35, 47, 64, 74], 35) := by decide +kernel
theorem dX7_witness_52 : decode cX7_witness 52 = .ok (.aload_n 0, 1) := by decide +kernel
theorem dX7_witness_53 : decode cX7_witness 53 = .ok (.getfield 19, 3) := by decide +kernel
theorem dX7_witness_56 : decode cX7_witness 56 = .ok (.iload_n 1, 1) := by decide +kernel
theorem dX7_witness_57 : decode cX7_witness 57 = .ok (.iconst 1, 1) := by decide +kernel
theorem dX7_witness_58 : decode cX7_witness 58 = .ok (.iload_n 2, 1) := by decide +kernel
theorem dX7_witness_59 : decode cX7_witness 59 = .ok (.iadd, 1) := by decide +kernel
theorem dX7_witness_60 : decode cX7_witness 60 = .ok (.invokestatic 155, 3) := by decide +kernel
theorem dX7_witness_63 : decode cX7_witness 63 = .ok (.ireturn, 1) := by decide +kernel
theorem dX7_witness_64 : decode cX7_witness 64 = .ok (.aload_n 0, 1) := by decide +kernel
theorem dX7_witness_65 : decode cX7_witness 65 = .ok (.getfield 19, 3) := by decide +kernel
theorem dX7_witness_68 : decode cX7_witness 68 = .ok (.iload_n 1, 1) := by decide +kernel
theorem dX7_witness_69 : decode cX7_witness 69 = .ok (.invokestatic 159, 3) := by decide +kernel
theorem dX7_witness_72 : decode cX7_witness 72 = .ok (.ifCond .eq 7, 3) := by decide +kernel
theorem dX7_witness_75 : decode cX7_witness 75 = .ok (.iconst 1, 1) := by decide +kernel
theorem dX7_witness_76 : decode cX7_witness 76 = .ok (.goto 4, 3) := by decide +kernel
theorem dX7_witness_79 : decode cX7_witness 79 = .ok (.iconst 0, 1) := by decide +kernel
theorem dX7_witness_80 : decode cX7_witness 80 = .ok (.ireturn, 1) := by decide +kernel
theorem dX7_witness_81 : decode cX7_witness 81 = .ok (.aload_n 0, 1) := by decide +kernel
theorem dX7_witness_82 : decode cX7_witness 82 = .ok (.getfield 19, 3) := by decide +kernel
theorem dX7_witness_85 : decode cX7_witness 85 = .ok (.iload_n 1, 1) := by decide +kernel
theorem dX7_witness_86 : decode cX7_witness 86 = .ok (.iconst 3, 1) := by decide +kernel
theorem dX7_witness_87 : decode cX7_witness 87 = .ok (.invokestatic 155, 3) := by decide +kernel
theorem dX7_witness_90 : decode cX7_witness 90 = .ok (.ireturn, 1) := by decide +kernel
theorem dX7_witness_91 : decode cX7_witness 91 = .ok (.aload_n 0, 1) := by decide +kernel
theorem dX7_witness_92 : decode cX7_witness 92 = .ok (.iload_n 1, 1) := by decide +kernel
theorem dX7_witness_93 : decode cX7_witness 93 = .ok (.invokevirtual 217, 3) := by decide +kernel
theorem dX7_witness_96 : decode cX7_witness 96 = .ok (.ireturn, 1) := by decide +kernel
theorem dX7_witness_97 : decode cX7_witness 97 = .ok (.ldc 70, 2) := by decide +kernel
theorem dX7_witness_99 : decode cX7_witness 99 = .ok (.ireturn, 1) := by decide +kernel
theorem dX7_memory_0 : decode cX7_memory 0 = .ok (.aload_n 0, 1) := by decide +kernel
theorem dX7_memory_1 : decode cX7_memory 1 = .ok (.iconst 0, 1) := by decide +kernel
theorem dX7_memory_2 : decode cX7_memory 2 = .ok (.putfield 50, 3) := by decide +kernel
theorem dX7_memory_5 : decode cX7_memory 5 = .ok (.aload_n 0, 1) := by decide +kernel
theorem dX7_memory_6 : decode cX7_memory 6 = .ok (.iload_n 1, 1) := by decide +kernel
theorem dX7_memory_7 : decode cX7_memory 7 = .ok (.invokevirtual 194, 3) := by decide +kernel
theorem dX7_memory_10 : decode cX7_memory 10 = .ok (.ifCond .eq 23, 3) := by decide +kernel
theorem dX7_memory_13 : decode cX7_memory 13 = .ok (.aload_n 0, 1) := by decide +kernel
theorem dX7_memory_14 : decode cX7_memory 14 = .ok (.iload_n 2, 1) := by decide +kernel
theorem dX7_memory_15 : decode cX7_memory 15 = .ok (.invokevirtual 176, 3) := by decide +kernel
theorem dX7_memory_18 : decode cX7_memory 18 = .ok (.ifCond .eq 15, 3) := by decide +kernel
theorem dX7_memory_21 : decode cX7_memory 21 = .ok (.iload_n 3, 1) := by decide +kernel
theorem dX7_memory_22 : decode cX7_memory 22 = .ok (.i2l, 1) := by decide +kernel
theorem dX7_memory_23 : decode cX7_memory 23 = .ok (.lconst 0, 1) := by decide +kernel
theorem dX7_memory_24 : decode cX7_memory 24 = .ok (.ldc2_w 220, 3) := by decide +kernel
theorem dX7_memory_27 : decode cX7_memory 27 = .ok (.invokestatic 60, 3) := by decide +kernel
theorem dX7_memory_30 : decode cX7_memory 30 = .ok (.ifCond .ne 6, 3) := by decide +kernel
theorem dX7_memory_33 : decode cX7_memory 33 = .ok (.ldc 70, 2) := by decide +kernel
theorem dX7_memory_35 : decode cX7_memory 35 = .ok (.ireturn, 1) := by decide +kernel
theorem dX7_memory_36 : decode cX7_memory 36 = .ok (.iload_n 3, 1) := by decide +kernel
theorem dX7_memory_37 : decode cX7_memory 37 = .ok (.iconst 3, 1) := by decide +kernel
theorem dX7_memory_38 : decode cX7_memory 38 = .ok (.if_icmp .ne 15, 3) := by decide +kernel
theorem dX7_memory_41 : decode cX7_memory 41 = .ok (.aload_n 0, 1) := by decide +kernel
theorem dX7_memory_42 : decode cX7_memory 42 = .ok (.getfield 19, 3) := by decide +kernel
theorem dX7_memory_45 : decode cX7_memory 45 = .ok (.iload_n 1, 1) := by decide +kernel
theorem dX7_memory_46 : decode cX7_memory 46 = .ok (.iload_n 2, 1) := by decide +kernel
theorem dX7_memory_47 : decode cX7_memory 47 = .ok (.invokestatic 166, 3) := by decide +kernel
theorem dX7_memory_50 : decode cX7_memory 50 = .ok (.goto 15, 3) := by decide +kernel
theorem dX7_memory_53 : decode cX7_memory 53 = .ok (.aload_n 0, 1) := by decide +kernel
theorem dX7_memory_54 : decode cX7_memory 54 = .ok (.getfield 19, 3) := by decide +kernel
theorem dX7_memory_57 : decode cX7_memory 57 = .ok (.iload_n 1, 1) := by decide +kernel
theorem dX7_memory_58 : decode cX7_memory 58 = .ok (.iload_n 2, 1) := by decide +kernel
theorem dX7_memory_59 : decode cX7_memory 59 = .ok (.invokestatic 163, 3) := by decide +kernel
theorem dX7_memory_62 : decode cX7_memory 62 = .ok (.iload_n 3, 1) := by decide +kernel
theorem dX7_memory_63 : decode cX7_memory 63 = .ok (.iadd, 1) := by decide +kernel
theorem dX7_memory_64 : decode cX7_memory 64 = .ok (.iaload, 1) := by decide +kernel
theorem dX7_memory_65 : decode cX7_memory 65 = .ok (.ireturn, 1) := by decide +kernel
theorem dX7_stone_0 : decode cX7_stone 0 = .ok (.aload_n 0, 1) := by decide +kernel
theorem dX7_stone_1 : decode cX7_stone 1 = .ok (.iconst 0, 1) := by decide +kernel
theorem dX7_stone_2 : decode cX7_stone 2 = .ok (.putfield 50, 3) := by decide +kernel
theorem dX7_stone_5 : decode cX7_stone 5 = .ok (.aload_n 0, 1) := by decide +kernel
theorem dX7_stone_6 : decode cX7_stone 6 = .ok (.iload_n 1, 1) := by decide +kernel
theorem dX7_stone_7 : decode cX7_stone 7 = .ok (.invokevirtual 176, 3) := by decide +kernel
theorem dX7_stone_10 : decode cX7_stone 10 = .ok (.ifCond .eq 14, 3) := by decide +kernel
theorem dX7_stone_13 : decode cX7_stone 13 = .ok (.aload_n 0, 1) := by decide +kernel
theorem dX7_stone_14 : decode cX7_stone 14 = .ok (.getfield 19, 3) := by decide +kernel
theorem dX7_stone_17 : decode cX7_stone 17 = .ok (.iconst 5, 1) := by decide +kernel
theorem dX7_stone_18 : decode cX7_stone 18 = .ok (.iload_n 1, 1) := by decide +kernel
theorem dX7_stone_19 : decode cX7_stone 19 = .ok (.iadd, 1) := by decide +kernel
theorem dX7_stone_20 : decode cX7_stone 20 = .ok (.iaload, 1) := by decide +kernel
theorem dX7_stone_21 : decode cX7_stone 21 = .ok (.goto 5, 3) := by decide +kernel
theorem dX7_stone_24 : decode cX7_stone 24 = .ok (.ldc 70, 2) := by decide +kernel
theorem dX7_stone_26 : decode cX7_stone 26 = .ok (.ireturn, 1) := by decide +kernel
theorem dX7_laySaid_0 : decode cX7_laySaid 0 = .ok (.iconst 0, 1) := by decide +kernel
theorem dX7_laySaid_1 : decode cX7_laySaid 1 = .ok (.istore_n 3, 1) := by decide +kernel
theorem dX7_laySaid_2 : decode cX7_laySaid 2 = .ok (.iconst 0, 1) := by decide +kernel
theorem dX7_laySaid_3 : decode cX7_laySaid 3 = .ok (.istore 4, 2) := by decide +kernel
theorem dX7_laySaid_5 : decode cX7_laySaid 5 = .ok (.iload 4, 2) := by decide +kernel
theorem dX7_laySaid_7 : decode cX7_laySaid 7 = .ok (.aload_n 0, 1) := by decide +kernel
theorem dX7_laySaid_8 : decode cX7_laySaid 8 = .ok (.getfield 19, 3) := by decide +kernel
