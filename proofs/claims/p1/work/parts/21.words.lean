/-! feed: class and reference, by contracts -/
theorem dX7_take_0 : decode cX7_take 0 = .ok (.bipush 56, 2) := by decide +kernel
theorem dX7_take_2 : decode cX7_take 2 = .ok (.istore_n 3, 1) := by decide +kernel
theorem dX7_take_3 : decode cX7_take 3 = .ok (.iload_n 3, 1) := by decide +kernel
theorem dX7_take_4 : decode cX7_take 4 = .ok (.ifCond .lt 21, 3) := by decide +kernel
theorem dX7_take_7 : decode cX7_take 7 = .ok (.aload_n 0, 1) := by decide +kernel
theorem dX7_take_8 : decode cX7_take 8 = .ok (.lload_n 1, 1) := by decide +kernel
theorem dX7_take_9 : decode cX7_take 9 = .ok (.iload_n 3, 1) := by decide +kernel
theorem dX7_take_10 : decode cX7_take 10 = .ok (.lushr, 1) := by decide +kernel
theorem dX7_take_11 : decode cX7_take 11 = .ok (.l2i, 1) := by decide +kernel
theorem dX7_take_12 : decode cX7_take 12 = .ok (.sipush 255, 3) := by decide +kernel
theorem dX7_take_15 : decode cX7_take 15 = .ok (.iand, 1) := by decide +kernel
theorem dX7_take_16 : decode cX7_take 16 = .ok (.invokevirtual 25, 3) := by decide +kernel
theorem dX7_take_19 : decode cX7_take 19 = .ok (.iinc 3 (-8), 3) := by decide +kernel
theorem dX7_take_22 : decode cX7_take 22 = .ok (.goto (-19), 3) := by decide +kernel
theorem dX7_take_25 : decode cX7_take 25 = .ok (.return_, 1) := by decide +kernel
theorem dX7_addSign_0 : decode cX7_addSign 0 = .ok (.iload_n 1, 1) := by decide +kernel
theorem dX7_addSign_1 : decode cX7_addSign 1 = .ok (.bipush 10, 2) := by decide +kernel
theorem dX7_addSign_3 : decode cX7_addSign 3 = .ok (.if_icmp .eq 15, 3) := by decide +kernel
theorem dX7_addSign_6 : decode cX7_addSign 6 = .ok (.iload_n 1, 1) := by decide +kernel
theorem dX7_addSign_7 : decode cX7_addSign 7 = .ok (.bipush 32, 2) := by decide +kernel
theorem dX7_addSign_9 : decode cX7_addSign 9 = .ok (.if_icmp .lt 13, 3) := by decide +kernel
theorem dX7_addSign_12 : decode cX7_addSign 12 = .ok (.iload_n 1, 1) := by decide +kernel
theorem dX7_addSign_13 : decode cX7_addSign 13 = .ok (.bipush 126, 2) := by decide +kernel
theorem dX7_addSign_15 : decode cX7_addSign 15 = .ok (.if_icmp .gt 7, 3) := by decide +kernel
theorem dX7_addSign_18 : decode cX7_addSign 18 = .ok (.iconst 1, 1) := by decide +kernel
theorem dX7_addSign_19 : decode cX7_addSign 19 = .ok (.goto 4, 3) := by decide +kernel
theorem dX7_addSign_22 : decode cX7_addSign 22 = .ok (.iconst 0, 1) := by decide +kernel
theorem dX7_addSign_23 : decode cX7_addSign 23 = .ok (.istore_n 2, 1) := by decide +kernel
theorem dX7_addSign_24 : decode cX7_addSign 24 = .ok (.iload_n 2, 1) := by decide +kernel
theorem dX7_addSign_25 : decode cX7_addSign 25 = .ok (.ifCond .eq 34, 3) := by decide +kernel
theorem dX7_addSign_28 : decode cX7_addSign 28 = .ok (.aload_n 0, 1) := by decide +kernel
theorem dX7_addSign_29 : decode cX7_addSign 29 = .ok (.getfield 15, 3) := by decide +kernel
theorem dX7_addSign_32 : decode cX7_addSign 32 = .ok (.sipush 1000, 3) := by decide +kernel
theorem dX7_addSign_35 : decode cX7_addSign 35 = .ok (.if_icmp .ge 24, 3) := by decide +kernel
theorem dX7_addSign_38 : decode cX7_addSign 38 = .ok (.aload_n 0, 1) := by decide +kernel
theorem dX7_addSign_39 : decode cX7_addSign 39 = .ok (.getfield 9, 3) := by decide +kernel
theorem dX7_addSign_42 : decode cX7_addSign 42 = .ok (.aload_n 0, 1) := by decide +kernel
theorem dX7_addSign_43 : decode cX7_addSign 43 = .ok (.getfield 15, 3) := by decide +kernel
theorem dX7_addSign_46 : decode cX7_addSign 46 = .ok (.iload_n 1, 1) := by decide +kernel
theorem dX7_addSign_47 : decode cX7_addSign 47 = .ok (.i2c, 1) := by decide +kernel
theorem dX7_addSign_48 : decode cX7_addSign 48 = .ok (.castore, 1) := by decide +kernel
theorem dX7_addSign_49 : decode cX7_addSign 49 = .ok (.aload_n 0, 1) := by decide +kernel
theorem dX7_addSign_50 : decode cX7_addSign 50 = .ok (.dup, 1) := by decide +kernel
theorem dX7_addSign_51 : decode cX7_addSign 51 = .ok (.getfield 15, 3) := by decide +kernel
theorem dX7_addSign_54 : decode cX7_addSign 54 = .ok (.iconst 1, 1) := by decide +kernel
theorem dX7_addSign_55 : decode cX7_addSign 55 = .ok (.iadd, 1) := by decide +kernel
theorem dX7_addSign_56 : decode cX7_addSign 56 = .ok (.putfield 15, 3) := by decide +kernel
theorem dX7_addSign_59 : decode cX7_addSign 59 = .ok (.return_, 1) := by decide +kernel
theorem dX9_feed_0 : decode cX9_feed 0 = .ok (.aload_n 0, 1) := by decide +kernel
theorem dX9_feed_1 : decode cX9_feed 1 = .ok (.getfield 10, 3) := by decide +kernel
theorem dX9_feed_4 : decode cX9_feed 4 = .ok (.lload_n 1, 1) := by decide +kernel
theorem dX9_feed_5 : decode cX9_feed 5 = .ok (.invokevirtual 77, 3) := by decide +kernel
theorem dX9_feed_8 : decode cX9_feed 8 = .ok (.aload_n 0, 1) := by decide +kernel
theorem dX9_feed_9 : decode cX9_feed 9 = .ok (.getfield 10, 3) := by decide +kernel
theorem dX9_feed_12 : decode cX9_feed 12 = .ok (.lload_n 3, 1) := by decide +kernel
theorem dX9_feed_13 : decode cX9_feed 13 = .ok (.invokevirtual 77, 3) := by decide +kernel
theorem dX9_feed_16 : decode cX9_feed 16 = .ok (.aload_n 0, 1) := by decide +kernel
theorem dX9_feed_17 : decode cX9_feed 17 = .ok (.getfield 10, 3) := by decide +kernel
theorem dX9_feed_20 : decode cX9_feed 20 = .ok (.lload 5, 2) := by decide +kernel
theorem dX9_feed_22 : decode cX9_feed 22 = .ok (.invokevirtual 77, 3) := by decide +kernel
theorem dX9_feed_25 : decode cX9_feed 25 = .ok (.aload_n 0, 1) := by decide +kernel
theorem dX9_feed_26 : decode cX9_feed 26 = .ok (.getfield 10, 3) := by decide +kernel
theorem dX9_feed_29 : decode cX9_feed 29 = .ok (.getfield 81, 3) := by decide +kernel
theorem dX9_feed_32 : decode cX9_feed 32 = .ok (.ireturn, 1) := by decide +kernel
theorem dX10_feed_0 : decode cX10_feed 0 = .ok (.aload_n 0, 1) := by decide +kernel
theorem dX10_feed_1 : decode cX10_feed 1 = .ok (.iconst 0, 1) := by decide +kernel
theorem dX10_feed_2 : decode cX10_feed 2 = .ok (.putfield 1, 3) := by decide +kernel
theorem dX10_feed_5 : decode cX10_feed 5 = .ok (.aload_n 0, 1) := by decide +kernel
theorem dX10_feed_6 : decode cX10_feed 6 = .ok (.lload_n 1, 1) := by decide +kernel
theorem dX10_feed_7 : decode cX10_feed 7 = .ok (.invokevirtual 7, 3) := by decide +kernel
theorem dX10_feed_10 : decode cX10_feed 10 = .ok (.aload_n 0, 1) := by decide +kernel
theorem dX10_feed_11 : decode cX10_feed 11 = .ok (.lload_n 3, 1) := by decide +kernel
theorem dX10_feed_12 : decode cX10_feed 12 = .ok (.invokevirtual 7, 3) := by decide +kernel
theorem dX10_feed_15 : decode cX10_feed 15 = .ok (.aload_n 0, 1) := by decide +kernel
theorem dX10_feed_16 : decode cX10_feed 16 = .ok (.lload 5, 2) := by decide +kernel
theorem dX10_feed_18 : decode cX10_feed 18 = .ok (.invokevirtual 7, 3) := by decide +kernel
theorem dX10_feed_21 : decode cX10_feed 21 = .ok (.aload_n 0, 1) := by decide +kernel
theorem dX10_feed_22 : decode cX10_feed 22 = .ok (.getfield 11, 3) := by decide +kernel
theorem dX10_feed_25 : decode cX10_feed 25 = .ok (.ireturn, 1) := by decide +kernel
theorem dX10_lay_0 : decode cX10_lay 0 = .ok (.bipush 56, 2) := by decide +kernel
theorem dX10_lay_2 : decode cX10_lay 2 = .ok (.istore_n 3, 1) := by decide +kernel
theorem dX10_lay_3 : decode cX10_lay 3 = .ok (.iload_n 3, 1) := by decide +kernel
theorem dX10_lay_4 : decode cX10_lay 4 = .ok (.ifCond .lt 71, 3) := by decide +kernel
theorem dX10_lay_7 : decode cX10_lay 7 = .ok (.lload_n 1, 1) := by decide +kernel
theorem dX10_lay_8 : decode cX10_lay 8 = .ok (.iload_n 3, 1) := by decide +kernel
theorem dX10_lay_9 : decode cX10_lay 9 = .ok (.lshr, 1) := by decide +kernel
theorem dX10_lay_10 : decode cX10_lay 10 = .ok (.l2i, 1) := by decide +kernel
theorem dX10_lay_11 : decode cX10_lay 11 = .ok (.sipush 255, 3) := by decide +kernel
theorem dX10_lay_14 : decode cX10_lay 14 = .ok (.iand, 1) := by decide +kernel
theorem dX10_lay_15 : decode cX10_lay 15 = .ok (.istore 4, 2) := by decide +kernel
theorem dX10_lay_17 : decode cX10_lay 17 = .ok (.iload 4, 2) := by decide +kernel
theorem dX10_lay_19 : decode cX10_lay 19 = .ok (.bipush 10, 2) := by decide +kernel
theorem dX10_lay_21 : decode cX10_lay 21 = .ok (.if_icmp .eq 17, 3) := by decide +kernel
theorem dX10_lay_24 : decode cX10_lay 24 = .ok (.iload 4, 2) := by decide +kernel
theorem dX10_lay_26 : decode cX10_lay 26 = .ok (.bipush 32, 2) := by decide +kernel
theorem dX10_lay_28 : decode cX10_lay 28 = .ok (.if_icmp .lt 41, 3) := by decide +kernel
theorem dX10_lay_31 : decode cX10_lay 31 = .ok (.iload 4, 2) := by decide +kernel
theorem dX10_lay_33 : decode cX10_lay 33 = .ok (.bipush 126, 2) := by decide +kernel
theorem dX10_lay_35 : decode cX10_lay 35 = .ok (.if_icmp .gt 34, 3) := by decide +kernel
theorem dX10_lay_38 : decode cX10_lay 38 = .ok (.aload_n 0, 1) := by decide +kernel
theorem dX10_lay_39 : decode cX10_lay 39 = .ok (.getfield 11, 3) := by decide +kernel
theorem dX10_lay_42 : decode cX10_lay 42 = .ok (.sipush 1000, 3) := by decide +kernel
theorem dX10_lay_45 : decode cX10_lay 45 = .ok (.if_icmp .ge 24, 3) := by decide +kernel
theorem dX10_lay_48 : decode cX10_lay 48 = .ok (.aload_n 0, 1) := by decide +kernel
theorem dX10_lay_49 : decode cX10_lay 49 = .ok (.getfield 14, 3) := by decide +kernel
theorem dX10_lay_52 : decode cX10_lay 52 = .ok (.aload_n 0, 1) := by decide +kernel
theorem dX10_lay_53 : decode cX10_lay 53 = .ok (.getfield 11, 3) := by decide +kernel
theorem dX10_lay_56 : decode cX10_lay 56 = .ok (.iload 4, 2) := by decide +kernel
theorem dX10_lay_58 : decode cX10_lay 58 = .ok (.iastore, 1) := by decide +kernel
theorem dX10_lay_59 : decode cX10_lay 59 = .ok (.aload_n 0, 1) := by decide +kernel
theorem dX10_lay_60 : decode cX10_lay 60 = .ok (.dup, 1) := by decide +kernel
theorem dX10_lay_61 : decode cX10_lay 61 = .ok (.getfield 11, 3) := by decide +kernel
theorem dX10_lay_64 : decode cX10_lay 64 = .ok (.iconst 1, 1) := by decide +kernel
theorem dX10_lay_65 : decode cX10_lay 65 = .ok (.iadd, 1) := by decide +kernel
theorem dX10_lay_66 : decode cX10_lay 66 = .ok (.putfield 11, 3) := by decide +kernel
theorem dX10_lay_69 : decode cX10_lay 69 = .ok (.iinc 3 (-8), 3) := by decide +kernel
theorem dX10_lay_72 : decode cX10_lay 72 = .ok (.goto (-69), 3) := by decide +kernel
theorem dX10_lay_75 : decode cX10_lay 75 = .ok (.return_, 1) := by decide +kernel
theorem dL_law_40 : decode cL_law 40 = .ok (.tableswitch 1459 0 29 #[136, 283, 348, 385, 422, 495, 556, 581, 618, 698, 735, 772, 809, 834, 871, 908, 945, 982, 1007, 1020, 1045, 1110, 1147, 1196, 1221, 1246, 1295, 1384, 1409, 1434], 136) := by decide +kernel
theorem dL_law_176 : decode cL_law 176 = .ok (.aload_n 1, 1) := by decide +kernel
theorem dL_law_177 : decode cL_law 177 = .ok (.aload_n 0, 1) := by decide +kernel
theorem dL_law_178 : decode cL_law 178 = .ok (.iload 4, 2) := by decide +kernel
theorem dL_law_180 : decode cL_law 180 = .ok (.iconst 1, 1) := by decide +kernel
theorem dL_law_181 : decode cL_law 181 = .ok (.iadd, 1) := by decide +kernel
theorem dL_law_182 : decode cL_law 182 = .ok (.iaload, 1) := by decide +kernel
theorem dL_law_183 : decode cL_law 183 = .ok (.i2l, 1) := by decide +kernel
theorem dL_law_184 : decode cL_law 184 = .ok (.bipush 32, 2) := by decide +kernel
theorem dL_law_186 : decode cL_law 186 = .ok (.lshl, 1) := by decide +kernel
theorem dL_law_187 : decode cL_law 187 = .ok (.aload_n 0, 1) := by decide +kernel
theorem dL_law_188 : decode cL_law 188 = .ok (.iload 4, 2) := by decide +kernel
theorem dL_law_190 : decode cL_law 190 = .ok (.iconst 2, 1) := by decide +kernel
theorem dL_law_191 : decode cL_law 191 = .ok (.iadd, 1) := by decide +kernel
theorem dL_law_192 : decode cL_law 192 = .ok (.iaload, 1) := by decide +kernel
theorem dL_law_193 : decode cL_law 193 = .ok (.i2l, 1) := by decide +kernel
theorem dL_law_194 : decode cL_law 194 = .ok (.ldc2_w 19, 3) := by decide +kernel
theorem dL_law_197 : decode cL_law 197 = .ok (.land, 1) := by decide +kernel
theorem dL_law_198 : decode cL_law 198 = .ok (.lor, 1) := by decide +kernel
theorem dL_law_199 : decode cL_law 199 = .ok (.aload_n 0, 1) := by decide +kernel
theorem dL_law_200 : decode cL_law 200 = .ok (.iload 4, 2) := by decide +kernel
theorem dL_law_202 : decode cL_law 202 = .ok (.iconst 3, 1) := by decide +kernel
theorem dL_law_203 : decode cL_law 203 = .ok (.iadd, 1) := by decide +kernel
theorem dL_law_204 : decode cL_law 204 = .ok (.iaload, 1) := by decide +kernel
theorem dL_law_205 : decode cL_law 205 = .ok (.i2l, 1) := by decide +kernel
theorem dL_law_206 : decode cL_law 206 = .ok (.bipush 32, 2) := by decide +kernel
theorem dL_law_208 : decode cL_law 208 = .ok (.lshl, 1) := by decide +kernel
theorem dL_law_209 : decode cL_law 209 = .ok (.aload_n 0, 1) := by decide +kernel
theorem dL_law_210 : decode cL_law 210 = .ok (.iload 4, 2) := by decide +kernel
theorem dL_law_212 : decode cL_law 212 = .ok (.iconst 4, 1) := by decide +kernel
theorem dL_law_213 : decode cL_law 213 = .ok (.iadd, 1) := by decide +kernel
theorem dL_law_214 : decode cL_law 214 = .ok (.iaload, 1) := by decide +kernel
theorem dL_law_215 : decode cL_law 215 = .ok (.i2l, 1) := by decide +kernel
theorem dL_law_216 : decode cL_law 216 = .ok (.ldc2_w 19, 3) := by decide +kernel
theorem dL_law_219 : decode cL_law 219 = .ok (.land, 1) := by decide +kernel
theorem dL_law_220 : decode cL_law 220 = .ok (.lor, 1) := by decide +kernel
theorem dL_law_221 : decode cL_law 221 = .ok (.aload_n 0, 1) := by decide +kernel
theorem dL_law_222 : decode cL_law 222 = .ok (.iload 4, 2) := by decide +kernel
theorem dL_law_224 : decode cL_law 224 = .ok (.iconst 5, 1) := by decide +kernel
theorem dL_law_225 : decode cL_law 225 = .ok (.iadd, 1) := by decide +kernel
theorem dL_law_226 : decode cL_law 226 = .ok (.iaload, 1) := by decide +kernel
theorem dL_law_227 : decode cL_law 227 = .ok (.i2l, 1) := by decide +kernel
theorem dL_law_228 : decode cL_law 228 = .ok (.bipush 32, 2) := by decide +kernel
theorem dL_law_230 : decode cL_law 230 = .ok (.lshl, 1) := by decide +kernel
theorem dL_law_231 : decode cL_law 231 = .ok (.aload_n 0, 1) := by decide +kernel
theorem dL_law_232 : decode cL_law 232 = .ok (.iload 4, 2) := by decide +kernel
theorem dL_law_234 : decode cL_law 234 = .ok (.bipush 6, 2) := by decide +kernel
theorem dL_law_236 : decode cL_law 236 = .ok (.iadd, 1) := by decide +kernel
theorem dL_law_237 : decode cL_law 237 = .ok (.iaload, 1) := by decide +kernel
theorem dL_law_238 : decode cL_law 238 = .ok (.i2l, 1) := by decide +kernel
theorem dL_law_239 : decode cL_law 239 = .ok (.ldc2_w 19, 3) := by decide +kernel
theorem dL_law_242 : decode cL_law 242 = .ok (.land, 1) := by decide +kernel
theorem dL_law_243 : decode cL_law 243 = .ok (.lor, 1) := by decide +kernel
theorem dL_law_244 : decode cL_law 244 = .ok (.invokevirtual 21, 3) := by decide +kernel
theorem dL_law_247 : decode cL_law 247 = .ok (.aload_n 2, 1) := by decide +kernel
theorem dL_law_248 : decode cL_law 248 = .ok (.aload_n 0, 1) := by decide +kernel
theorem dL_law_249 : decode cL_law 249 = .ok (.iload 4, 2) := by decide +kernel
theorem dL_law_251 : decode cL_law 251 = .ok (.iconst 1, 1) := by decide +kernel
theorem dL_law_252 : decode cL_law 252 = .ok (.iadd, 1) := by decide +kernel
theorem dL_law_253 : decode cL_law 253 = .ok (.iaload, 1) := by decide +kernel
theorem dL_law_254 : decode cL_law 254 = .ok (.i2l, 1) := by decide +kernel
theorem dL_law_255 : decode cL_law 255 = .ok (.bipush 32, 2) := by decide +kernel
theorem dL_law_257 : decode cL_law 257 = .ok (.lshl, 1) := by decide +kernel
theorem dL_law_258 : decode cL_law 258 = .ok (.aload_n 0, 1) := by decide +kernel
theorem dL_law_259 : decode cL_law 259 = .ok (.iload 4, 2) := by decide +kernel
theorem dL_law_261 : decode cL_law 261 = .ok (.iconst 2, 1) := by decide +kernel
theorem dL_law_262 : decode cL_law 262 = .ok (.iadd, 1) := by decide +kernel
theorem dL_law_263 : decode cL_law 263 = .ok (.iaload, 1) := by decide +kernel
theorem dL_law_264 : decode cL_law 264 = .ok (.i2l, 1) := by decide +kernel
theorem dL_law_265 : decode cL_law 265 = .ok (.ldc2_w 19, 3) := by decide +kernel
theorem dL_law_268 : decode cL_law 268 = .ok (.land, 1) := by decide +kernel
theorem dL_law_269 : decode cL_law 269 = .ok (.lor, 1) := by decide +kernel
theorem dL_law_270 : decode cL_law 270 = .ok (.aload_n 0, 1) := by decide +kernel
theorem dL_law_271 : decode cL_law 271 = .ok (.iload 4, 2) := by decide +kernel
theorem dL_law_273 : decode cL_law 273 = .ok (.iconst 3, 1) := by decide +kernel
theorem dL_law_274 : decode cL_law 274 = .ok (.iadd, 1) := by decide +kernel
theorem dL_law_275 : decode cL_law 275 = .ok (.iaload, 1) := by decide +kernel
theorem dL_law_276 : decode cL_law 276 = .ok (.i2l, 1) := by decide +kernel
theorem dL_law_277 : decode cL_law 277 = .ok (.bipush 32, 2) := by decide +kernel
theorem dL_law_279 : decode cL_law 279 = .ok (.lshl, 1) := by decide +kernel
theorem dL_law_280 : decode cL_law 280 = .ok (.aload_n 0, 1) := by decide +kernel
theorem dL_law_281 : decode cL_law 281 = .ok (.iload 4, 2) := by decide +kernel
theorem dL_law_283 : decode cL_law 283 = .ok (.iconst 4, 1) := by decide +kernel
theorem dL_law_284 : decode cL_law 284 = .ok (.iadd, 1) := by decide +kernel
theorem dL_law_285 : decode cL_law 285 = .ok (.iaload, 1) := by decide +kernel
theorem dL_law_286 : decode cL_law 286 = .ok (.i2l, 1) := by decide +kernel
theorem dL_law_287 : decode cL_law 287 = .ok (.ldc2_w 19, 3) := by decide +kernel
theorem dL_law_290 : decode cL_law 290 = .ok (.land, 1) := by decide +kernel
theorem dL_law_291 : decode cL_law 291 = .ok (.lor, 1) := by decide +kernel
theorem dL_law_292 : decode cL_law 292 = .ok (.aload_n 0, 1) := by decide +kernel
theorem dL_law_293 : decode cL_law 293 = .ok (.iload 4, 2) := by decide +kernel
theorem dL_law_295 : decode cL_law 295 = .ok (.iconst 5, 1) := by decide +kernel
theorem dL_law_296 : decode cL_law 296 = .ok (.iadd, 1) := by decide +kernel
theorem dL_law_297 : decode cL_law 297 = .ok (.iaload, 1) := by decide +kernel
theorem dL_law_298 : decode cL_law 298 = .ok (.i2l, 1) := by decide +kernel
theorem dL_law_299 : decode cL_law 299 = .ok (.bipush 32, 2) := by decide +kernel
theorem dL_law_301 : decode cL_law 301 = .ok (.lshl, 1) := by decide +kernel
theorem dL_law_302 : decode cL_law 302 = .ok (.aload_n 0, 1) := by decide +kernel
theorem dL_law_303 : decode cL_law 303 = .ok (.iload 4, 2) := by decide +kernel
theorem dL_law_305 : decode cL_law 305 = .ok (.bipush 6, 2) := by decide +kernel
theorem dL_law_307 : decode cL_law 307 = .ok (.iadd, 1) := by decide +kernel
theorem dL_law_308 : decode cL_law 308 = .ok (.iaload, 1) := by decide +kernel
theorem dL_law_309 : decode cL_law 309 = .ok (.i2l, 1) := by decide +kernel
theorem dL_law_310 : decode cL_law 310 = .ok (.ldc2_w 19, 3) := by decide +kernel
theorem dL_law_313 : decode cL_law 313 = .ok (.land, 1) := by decide +kernel
theorem dL_law_314 : decode cL_law 314 = .ok (.lor, 1) := by decide +kernel
theorem dL_law_315 : decode cL_law 315 = .ok (.invokevirtual 25, 3) := by decide +kernel
theorem dL_law_318 : decode cL_law 318 = .ok (.if_icmp .eq 1181, 3) := by decide +kernel
theorem dL_law_321 : decode cL_law 321 = .ok (.iconst 0, 1) := by decide +kernel
theorem dL_law_322 : decode cL_law 322 = .ok (.ireturn, 1) := by decide +kernel
theorem zf_len : Cond.fieldLink RX7 15 "NamesUnder$Tape" "length" "I" ∈ zT := zin_ok (i := 156) (by decide +kernel)
theorem zf_sig : Cond.fieldLink RX7 9 "NamesUnder$Tape" "signs" "[C" ∈ zT := zin_ok (i := 152) (by decide +kernel)
theorem zf_tap : Cond.fieldLink RX9 10 "NamesUnder" "tape" "LNamesUnder$Tape;" ∈ zT := zin_ok (i := 521) (by decide +kernel)
theorem zf_len9 : Cond.fieldLink RX9 81 "NamesUnder$Tape" "length" "I" ∈ zT := zin_ok (i := 157) (by decide +kernel)
theorem zf_thr : Cond.fieldLink RX10 1 "NamesUnderModel" "thrown" "I" ∈ zT := zin_ok (i := 1294) (by decide +kernel)
theorem zf_tpd : Cond.fieldLink RX10 11 "NamesUnderModel" "taped" "I" ∈ zT := zin_ok (i := 1296) (by decide +kernel)
theorem zf_tp : Cond.fieldLink RX10 14 "NamesUnderModel" "tape" "[I" ∈ zT := zin_ok (i := 1295) (by decide +kernel)
theorem zw_add : ∀ w ∈ zcw RX7 25 2 yX7_addSign cX7_addSign 3 none, w ∈ zT := zchk_ok (is := [557, 559, 118, 560, 0]) (by decide +kernel)
theorem zw_take : ∀ w ∈ zcw RX9 77 2 yX7_take cX7_take 4 none, w ∈ zT := zchk_ok (is := [553, 554, 118, 556, 555]) (by decide +kernel)
theorem zw_lay : ∀ w ∈ zcw RX10 7 2 yX10_lay cX10_lay 5 none, w ∈ zT := zchk_ok (is := [1268, 1270, 127, 1272, 65]) (by decide +kernel)
theorem zw_feed : ∀ w ∈ zcw RL 21 2 yX9_feed cX9_feed 7 (some .int), w ∈ zT := zchk_ok (is := [549, 550, 117, 552, 551]) (by decide +kernel)
theorem zw_mfeed : ∀ w ∈ zcw RL 25 2 yX10_feed cX10_feed 7 (some .int), w ∈ zT := zchk_ok (is := [1264, 1265, 127, 1267, 1266]) (by decide +kernel)
theorem zf_msk : Cond.constantLong RL 19 4294967295 ∈ zT := zin_ok (i := 1814) (by decide +kernel)
