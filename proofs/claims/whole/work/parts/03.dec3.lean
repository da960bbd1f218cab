theorem dX12_init_211 : decode cX12_init 211 = .ok (.putfield 88, 3) := by decide +kernel
theorem dX12_init_214 : decode cX12_init 214 = .ok (.aload_n 0, 1) := by decide +kernel
theorem dX12_init_215 : decode cX12_init 215 = .ok (.bipush 12, 2) := by decide +kernel
theorem dX12_init_217 : decode cX12_init 217 = .ok (.newarray .int, 2) := by decide +kernel
theorem dX12_init_219 : decode cX12_init 219 = .ok (.putfield 91, 3) := by decide +kernel
theorem dX12_init_222 : decode cX12_init 222 = .ok (.aload_n 0, 1) := by decide +kernel
theorem dX12_init_223 : decode cX12_init 223 = .ok (.bipush 112, 2) := by decide +kernel
theorem dX12_init_225 : decode cX12_init 225 = .ok (.newarray .long, 2) := by decide +kernel
theorem dX12_init_227 : decode cX12_init 227 = .ok (.putfield 94, 3) := by decide +kernel
theorem dX12_init_230 : decode cX12_init 230 = .ok (.aload_n 0, 1) := by decide +kernel
theorem dX12_init_231 : decode cX12_init 231 = .ok (.bipush 112, 2) := by decide +kernel
theorem dX12_init_233 : decode cX12_init 233 = .ok (.newarray .long, 2) := by decide +kernel
theorem dX12_init_235 : decode cX12_init 235 = .ok (.putfield 98, 3) := by decide +kernel
theorem dX12_init_238 : decode cX12_init 238 = .ok (.aload_n 0, 1) := by decide +kernel
theorem dX12_init_239 : decode cX12_init 239 = .ok (.bipush 112, 2) := by decide +kernel
theorem dX12_init_241 : decode cX12_init 241 = .ok (.newarray .int, 2) := by decide +kernel
theorem dX12_init_243 : decode cX12_init 243 = .ok (.putfield 101, 3) := by decide +kernel
theorem dX12_init_246 : decode cX12_init 246 = .ok (.aload_n 0, 1) := by decide +kernel
theorem dX12_init_247 : decode cX12_init 247 = .ok (.bipush 112, 2) := by decide +kernel
theorem dX12_init_249 : decode cX12_init 249 = .ok (.newarray .int, 2) := by decide +kernel
theorem dX12_init_251 : decode cX12_init 251 = .ok (.putfield 104, 3) := by decide +kernel
theorem dX12_init_254 : decode cX12_init 254 = .ok (.aload_n 0, 1) := by decide +kernel
theorem dX12_init_255 : decode cX12_init 255 = .ok (.bipush 112, 2) := by decide +kernel
theorem dX12_init_257 : decode cX12_init 257 = .ok (.newarray .int, 2) := by decide +kernel
theorem dX12_init_259 : decode cX12_init 259 = .ok (.putfield 107, 3) := by decide +kernel
theorem dX12_init_262 : decode cX12_init 262 = .ok (.aload_n 0, 1) := by decide +kernel
theorem dX12_init_263 : decode cX12_init 263 = .ok (.bipush 112, 2) := by decide +kernel
theorem dX12_init_265 : decode cX12_init 265 = .ok (.newarray .int, 2) := by decide +kernel
theorem dX12_init_267 : decode cX12_init 267 = .ok (.putfield 110, 3) := by decide +kernel
theorem dX12_init_270 : decode cX12_init 270 = .ok (.aload_n 0, 1) := by decide +kernel
theorem dX12_init_271 : decode cX12_init 271 = .ok (.iconst 3, 1) := by decide +kernel
theorem dX12_init_272 : decode cX12_init 272 = .ok (.newarray .boolean, 2) := by decide +kernel
theorem dX12_init_274 : decode cX12_init 274 = .ok (.putfield 113, 3) := by decide +kernel
theorem dX12_init_277 : decode cX12_init 277 = .ok (.aload_n 0, 1) := by decide +kernel
theorem dX12_init_278 : decode cX12_init 278 = .ok (.sipush 600, 3) := by decide +kernel
theorem dX12_init_281 : decode cX12_init 281 = .ok (.newarray .byte, 2) := by decide +kernel
theorem dX12_init_283 : decode cX12_init 283 = .ok (.putfield 116, 3) := by decide +kernel
theorem dX12_init_286 : decode cX12_init 286 = .ok (.aload_n 0, 1) := by decide +kernel
theorem dX12_init_287 : decode cX12_init 287 = .ok (.bipush 112, 2) := by decide +kernel
theorem dX12_init_289 : decode cX12_init 289 = .ok (.newarray .boolean, 2) := by decide +kernel
theorem dX12_init_291 : decode cX12_init 291 = .ok (.putfield 119, 3) := by decide +kernel
theorem dX12_init_294 : decode cX12_init 294 = .ok (.aload_n 0, 1) := by decide +kernel
theorem dX12_init_295 : decode cX12_init 295 = .ok (.bipush 112, 2) := by decide +kernel
theorem dX12_init_297 : decode cX12_init 297 = .ok (.newarray .int, 2) := by decide +kernel
theorem dX12_init_299 : decode cX12_init 299 = .ok (.putfield 122, 3) := by decide +kernel
theorem dX12_init_302 : decode cX12_init 302 = .ok (.aload_n 0, 1) := by decide +kernel
theorem dX12_init_303 : decode cX12_init 303 = .ok (.sipush 12544, 3) := by decide +kernel
theorem dX12_init_306 : decode cX12_init 306 = .ok (.newarray .boolean, 2) := by decide +kernel
theorem dX12_init_308 : decode cX12_init 308 = .ok (.putfield 125, 3) := by decide +kernel
theorem dX12_init_311 : decode cX12_init 311 = .ok (.aload_n 0, 1) := by decide +kernel
theorem dX12_init_312 : decode cX12_init 312 = .ok (.bipush 112, 2) := by decide +kernel
theorem dX12_init_314 : decode cX12_init 314 = .ok (.newarray .boolean, 2) := by decide +kernel
theorem dX12_init_316 : decode cX12_init 316 = .ok (.putfield 128, 3) := by decide +kernel
theorem dX12_init_319 : decode cX12_init 319 = .ok (.aload_n 0, 1) := by decide +kernel
theorem dX12_init_320 : decode cX12_init 320 = .ok (.bipush 112, 2) := by decide +kernel
theorem dX12_init_322 : decode cX12_init 322 = .ok (.newarray .int, 2) := by decide +kernel
theorem dX12_init_324 : decode cX12_init 324 = .ok (.putfield 131, 3) := by decide +kernel
theorem dX12_init_327 : decode cX12_init 327 = .ok (.return_, 1) := by decide +kernel
theorem dX12_isIn_0 : decode cX12_isIn 0 = .ok (.iload_n 0, 1) := by decide +kernel
theorem dX12_isIn_1 : decode cX12_isIn 1 = .ok (.iload_n 1, 1) := by decide +kernel
theorem dX12_isIn_2 : decode cX12_isIn 2 = .ok (.if_icmp .lt 12, 3) := by decide +kernel
theorem dX12_isIn_5 : decode cX12_isIn 5 = .ok (.iload_n 0, 1) := by decide +kernel
theorem dX12_isIn_6 : decode cX12_isIn 6 = .ok (.iload_n 2, 1) := by decide +kernel
theorem dX12_isIn_7 : decode cX12_isIn 7 = .ok (.if_icmp .gt 7, 3) := by decide +kernel
theorem dX12_isIn_10 : decode cX12_isIn 10 = .ok (.iconst 1, 1) := by decide +kernel
theorem dX12_isIn_11 : decode cX12_isIn 11 = .ok (.goto 4, 3) := by decide +kernel
theorem dX12_isIn_14 : decode cX12_isIn 14 = .ok (.iconst 0, 1) := by decide +kernel
theorem dX12_isIn_15 : decode cX12_isIn 15 = .ok (.ireturn, 1) := by decide +kernel
theorem dX12_get_0 : decode cX12_get 0 = .ok (.aload_n 0, 1) := by decide +kernel
theorem dX12_get_1 : decode cX12_get 1 = .ok (.getfield 7, 3) := by decide +kernel
theorem dX12_get_4 : decode cX12_get 4 = .ok (.iload_n 1, 1) := by decide +kernel
theorem dX12_get_5 : decode cX12_get 5 = .ok (.iaload, 1) := by decide +kernel
theorem dX12_get_6 : decode cX12_get 6 = .ok (.ireturn, 1) := by decide +kernel
theorem dX12_copyRow_0 : decode cX12_copyRow 0 = .ok (.iconst 0, 1) := by decide +kernel
theorem dX12_copyRow_1 : decode cX12_copyRow 1 = .ok (.istore_n 3, 1) := by decide +kernel
theorem dX12_copyRow_2 : decode cX12_copyRow 2 = .ok (.iload_n 3, 1) := by decide +kernel
theorem dX12_copyRow_3 : decode cX12_copyRow 3 = .ok (.sipush 340, 3) := by decide +kernel
theorem dX12_copyRow_6 : decode cX12_copyRow 6 = .ok (.if_icmp .ge 33, 3) := by decide +kernel
theorem dX12_copyRow_9 : decode cX12_copyRow 9 = .ok (.aload_n 0, 1) := by decide +kernel
theorem dX12_copyRow_10 : decode cX12_copyRow 10 = .ok (.getfield 7, 3) := by decide +kernel
theorem dX12_copyRow_13 : decode cX12_copyRow 13 = .ok (.sipush 340, 3) := by decide +kernel
theorem dX12_copyRow_16 : decode cX12_copyRow 16 = .ok (.iload_n 2, 1) := by decide +kernel
theorem dX12_copyRow_17 : decode cX12_copyRow 17 = .ok (.imul, 1) := by decide +kernel
theorem dX12_copyRow_18 : decode cX12_copyRow 18 = .ok (.iload_n 3, 1) := by decide +kernel
theorem dX12_copyRow_19 : decode cX12_copyRow 19 = .ok (.iadd, 1) := by decide +kernel
theorem dX12_copyRow_20 : decode cX12_copyRow 20 = .ok (.aload_n 0, 1) := by decide +kernel
theorem dX12_copyRow_21 : decode cX12_copyRow 21 = .ok (.getfield 7, 3) := by decide +kernel
theorem dX12_copyRow_24 : decode cX12_copyRow 24 = .ok (.sipush 340, 3) := by decide +kernel
theorem dX12_copyRow_27 : decode cX12_copyRow 27 = .ok (.iload_n 1, 1) := by decide +kernel
theorem dX12_copyRow_28 : decode cX12_copyRow 28 = .ok (.imul, 1) := by decide +kernel
theorem dX12_copyRow_29 : decode cX12_copyRow 29 = .ok (.iload_n 3, 1) := by decide +kernel
theorem dX12_copyRow_30 : decode cX12_copyRow 30 = .ok (.iadd, 1) := by decide +kernel
theorem dX12_copyRow_31 : decode cX12_copyRow 31 = .ok (.iaload, 1) := by decide +kernel
theorem dX12_copyRow_32 : decode cX12_copyRow 32 = .ok (.iastore, 1) := by decide +kernel
theorem dX12_copyRow_33 : decode cX12_copyRow 33 = .ok (.iinc 3 1, 3) := by decide +kernel
theorem dX12_copyRow_36 : decode cX12_copyRow 36 = .ok (.goto (-34), 3) := by decide +kernel
theorem dX12_copyRow_39 : decode cX12_copyRow 39 = .ok (.return_, 1) := by decide +kernel
theorem dX12_put_0 : decode cX12_put 0 = .ok (.aload_n 0, 1) := by decide +kernel
theorem dX12_put_1 : decode cX12_put 1 = .ok (.getfield 7, 3) := by decide +kernel
theorem dX12_put_4 : decode cX12_put 4 = .ok (.sipush 1360, 3) := by decide +kernel
theorem dX12_put_7 : decode cX12_put 7 = .ok (.iload_n 1, 1) := by decide +kernel
theorem dX12_put_8 : decode cX12_put 8 = .ok (.iadd, 1) := by decide +kernel
theorem dX12_put_9 : decode cX12_put 9 = .ok (.iload_n 2, 1) := by decide +kernel
theorem dX12_put_10 : decode cX12_put 10 = .ok (.iastore, 1) := by decide +kernel
theorem dX12_put_11 : decode cX12_put 11 = .ok (.return_, 1) := by decide +kernel
theorem dX12_read_0 : decode cX12_read 0 = .ok (.aload_n 0, 1) := by decide +kernel
theorem dX12_read_1 : decode cX12_read 1 = .ok (.getfield 7, 3) := by decide +kernel
theorem dX12_read_4 : decode cX12_read 4 = .ok (.sipush 1360, 3) := by decide +kernel
theorem dX12_read_7 : decode cX12_read 7 = .ok (.iload_n 1, 1) := by decide +kernel
theorem dX12_read_8 : decode cX12_read 8 = .ok (.iadd, 1) := by decide +kernel
theorem dX12_read_9 : decode cX12_read 9 = .ok (.iaload, 1) := by decide +kernel
theorem dX12_read_10 : decode cX12_read 10 = .ok (.ireturn, 1) := by decide +kernel
theorem dX12_four_0 : decode cX12_four 0 = .ok (.bipush 24, 2) := by decide +kernel
theorem dX12_four_2 : decode cX12_four 2 = .ok (.istore_n 2, 1) := by decide +kernel
theorem dX12_four_3 : decode cX12_four 3 = .ok (.iload_n 2, 1) := by decide +kernel
theorem dX12_four_4 : decode cX12_four 4 = .ok (.ifCond .lt 32, 3) := by decide +kernel
theorem dX12_four_7 : decode cX12_four 7 = .ok (.aload_n 0, 1) := by decide +kernel
theorem dX12_four_8 : decode cX12_four 8 = .ok (.getfield 13, 3) := by decide +kernel
theorem dX12_four_11 : decode cX12_four 11 = .ok (.aload_n 0, 1) := by decide +kernel
theorem dX12_four_12 : decode cX12_four 12 = .ok (.getfield 134, 3) := by decide +kernel
theorem dX12_four_15 : decode cX12_four 15 = .ok (.iload_n 1, 1) := by decide +kernel
theorem dX12_four_16 : decode cX12_four 16 = .ok (.iload_n 2, 1) := by decide +kernel
theorem dX12_four_17 : decode cX12_four 17 = .ok (.ishr, 1) := by decide +kernel
theorem dX12_four_18 : decode cX12_four 18 = .ok (.i2b, 1) := by decide +kernel
theorem dX12_four_19 : decode cX12_four 19 = .ok (.bastore, 1) := by decide +kernel
theorem dX12_four_20 : decode cX12_four 20 = .ok (.aload_n 0, 1) := by decide +kernel
theorem dX12_four_21 : decode cX12_four 21 = .ok (.dup, 1) := by decide +kernel
theorem dX12_four_22 : decode cX12_four 22 = .ok (.getfield 134, 3) := by decide +kernel
theorem dX12_four_25 : decode cX12_four 25 = .ok (.iconst 1, 1) := by decide +kernel
theorem dX12_four_26 : decode cX12_four 26 = .ok (.iadd, 1) := by decide +kernel
theorem dX12_four_27 : decode cX12_four 27 = .ok (.putfield 134, 3) := by decide +kernel
theorem dX12_four_30 : decode cX12_four 30 = .ok (.iinc 2 (-8), 3) := by decide +kernel
theorem dX12_four_33 : decode cX12_four 33 = .ok (.goto (-30), 3) := by decide +kernel
theorem dX12_four_36 : decode cX12_four 36 = .ok (.return_, 1) := by decide +kernel
theorem dX12_feed_0 : decode cX12_feed 0 = .ok (.aload_n 0, 1) := by decide +kernel
theorem dX12_feed_1 : decode cX12_feed 1 = .ok (.getfield 134, 3) := by decide +kernel
theorem dX12_feed_4 : decode cX12_feed 4 = .ok (.bipush 20, 2) := by decide +kernel
theorem dX12_feed_6 : decode cX12_feed 6 = .ok (.iadd, 1) := by decide +kernel
theorem dX12_feed_7 : decode cX12_feed 7 = .ok (.sipush 800, 3) := by decide +kernel
theorem dX12_feed_10 : decode cX12_feed 10 = .ok (.if_icmp .le 5, 3) := by decide +kernel
theorem dX12_feed_13 : decode cX12_feed 13 = .ok (.iconst (-1), 1) := by decide +kernel
theorem dX12_feed_14 : decode cX12_feed 14 = .ok (.ireturn, 1) := by decide +kernel
theorem dX12_feed_15 : decode cX12_feed 15 = .ok (.aload_n 0, 1) := by decide +kernel
theorem dX12_feed_16 : decode cX12_feed 16 = .ok (.iload_n 1, 1) := by decide +kernel
theorem dX12_feed_17 : decode cX12_feed 17 = .ok (.invokevirtual 137, 3) := by decide +kernel
theorem dX12_feed_20 : decode cX12_feed 20 = .ok (.aload_n 0, 1) := by decide +kernel
theorem dX12_feed_21 : decode cX12_feed 21 = .ok (.iload_n 2, 1) := by decide +kernel
theorem dX12_feed_22 : decode cX12_feed 22 = .ok (.invokevirtual 137, 3) := by decide +kernel
theorem dX12_feed_25 : decode cX12_feed 25 = .ok (.aload_n 0, 1) := by decide +kernel
theorem dX12_feed_26 : decode cX12_feed 26 = .ok (.iload_n 3, 1) := by decide +kernel
theorem dX12_feed_27 : decode cX12_feed 27 = .ok (.invokevirtual 137, 3) := by decide +kernel
theorem dX12_feed_30 : decode cX12_feed 30 = .ok (.aload_n 0, 1) := by decide +kernel
theorem dX12_feed_31 : decode cX12_feed 31 = .ok (.iload 4, 2) := by decide +kernel
theorem dX12_feed_33 : decode cX12_feed 33 = .ok (.invokevirtual 137, 3) := by decide +kernel
theorem dX12_feed_36 : decode cX12_feed 36 = .ok (.aload_n 0, 1) := by decide +kernel
theorem dX12_feed_37 : decode cX12_feed 37 = .ok (.iload 5, 2) := by decide +kernel
theorem dX12_feed_39 : decode cX12_feed 39 = .ok (.invokevirtual 137, 3) := by decide +kernel
theorem dX12_feed_42 : decode cX12_feed 42 = .ok (.aload_n 0, 1) := by decide +kernel
theorem dX12_feed_43 : decode cX12_feed 43 = .ok (.getfield 134, 3) := by decide +kernel
theorem dX12_feed_46 : decode cX12_feed 46 = .ok (.ireturn, 1) := by decide +kernel
theorem dX12_end_0 : decode cX12_end 0 = .ok (.iload_n 1, 1) := by decide +kernel
theorem dX12_end_1 : decode cX12_end 1 = .ok (.iconst 0, 1) := by decide +kernel
theorem dX12_end_2 : decode cX12_end 2 = .ok (.aload_n 0, 1) := by decide +kernel
theorem dX12_end_3 : decode cX12_end 3 = .ok (.getfield 134, 3) := by decide +kernel
theorem dX12_end_6 : decode cX12_end 6 = .ok (.invokestatic 141, 3) := by decide +kernel
theorem dX12_end_9 : decode cX12_end 9 = .ok (.ifCond .ne 5, 3) := by decide +kernel
theorem dX12_end_12 : decode cX12_end 12 = .ok (.iconst (-1), 1) := by decide +kernel
theorem dX12_end_13 : decode cX12_end 13 = .ok (.ireturn, 1) := by decide +kernel
theorem dX12_end_14 : decode cX12_end 14 = .ok (.aload_n 0, 1) := by decide +kernel
theorem dX12_end_15 : decode cX12_end 15 = .ok (.iload_n 1, 1) := by decide +kernel
theorem dX12_end_16 : decode cX12_end 16 = .ok (.putfield 134, 3) := by decide +kernel
theorem dX12_end_19 : decode cX12_end 19 = .ok (.iload_n 1, 1) := by decide +kernel
theorem dX12_end_20 : decode cX12_end 20 = .ok (.ireturn, 1) := by decide +kernel
theorem dX12_here_0 : decode cX12_here 0 = .ok (.aload_n 0, 1) := by decide +kernel
theorem dX12_here_1 : decode cX12_here 1 = .ok (.getfield 145, 3) := by decide +kernel
theorem dX12_here_4 : decode cX12_here 4 = .ok (.aload_n 0, 1) := by decide +kernel
theorem dX12_here_5 : decode cX12_here 5 = .ok (.getfield 134, 3) := by decide +kernel
theorem dX12_here_8 : decode cX12_here 8 = .ok (.if_icmp .ge 19, 3) := by decide +kernel
theorem dX12_here_11 : decode cX12_here 11 = .ok (.aload_n 0, 1) := by decide +kernel
theorem dX12_here_12 : decode cX12_here 12 = .ok (.getfield 13, 3) := by decide +kernel
theorem dX12_here_15 : decode cX12_here 15 = .ok (.aload_n 0, 1) := by decide +kernel
theorem dX12_here_16 : decode cX12_here 16 = .ok (.getfield 145, 3) := by decide +kernel
theorem dX12_here_19 : decode cX12_here 19 = .ok (.baload, 1) := by decide +kernel
theorem dX12_here_20 : decode cX12_here 20 = .ok (.sipush 255, 3) := by decide +kernel
theorem dX12_here_23 : decode cX12_here 23 = .ok (.iand, 1) := by decide +kernel
theorem dX12_here_24 : decode cX12_here 24 = .ok (.goto 4, 3) := by decide +kernel
theorem dX12_here_27 : decode cX12_here 27 = .ok (.iconst (-1), 1) := by decide +kernel
theorem dX12_here_28 : decode cX12_here 28 = .ok (.ireturn, 1) := by decide +kernel
theorem dX12_isFigure_0 : decode cX12_isFigure 0 = .ok (.iload_n 0, 1) := by decide +kernel
theorem dX12_isFigure_1 : decode cX12_isFigure 1 = .ok (.bipush 48, 2) := by decide +kernel
theorem dX12_isFigure_3 : decode cX12_isFigure 3 = .ok (.if_icmp .lt 13, 3) := by decide +kernel
theorem dX12_isFigure_6 : decode cX12_isFigure 6 = .ok (.iload_n 0, 1) := by decide +kernel
theorem dX12_isFigure_7 : decode cX12_isFigure 7 = .ok (.bipush 57, 2) := by decide +kernel
theorem dX12_isFigure_9 : decode cX12_isFigure 9 = .ok (.if_icmp .gt 7, 3) := by decide +kernel
theorem dX12_isFigure_12 : decode cX12_isFigure 12 = .ok (.iconst 1, 1) := by decide +kernel
theorem dX12_isFigure_13 : decode cX12_isFigure 13 = .ok (.goto 4, 3) := by decide +kernel
theorem dX12_isFigure_16 : decode cX12_isFigure 16 = .ok (.iconst 0, 1) := by decide +kernel
theorem dX12_isFigure_17 : decode cX12_isFigure 17 = .ok (.ireturn, 1) := by decide +kernel
theorem dX12_isLetter_0 : decode cX12_isLetter 0 = .ok (.iload_n 0, 1) := by decide +kernel
theorem dX12_isLetter_1 : decode cX12_isLetter 1 = .ok (.bipush 97, 2) := by decide +kernel
theorem dX12_isLetter_3 : decode cX12_isLetter 3 = .ok (.if_icmp .lt 13, 3) := by decide +kernel
theorem dX12_isLetter_6 : decode cX12_isLetter 6 = .ok (.iload_n 0, 1) := by decide +kernel
theorem dX12_isLetter_7 : decode cX12_isLetter 7 = .ok (.bipush 122, 2) := by decide +kernel
theorem dX12_isLetter_9 : decode cX12_isLetter 9 = .ok (.if_icmp .gt 7, 3) := by decide +kernel
theorem dX12_isLetter_12 : decode cX12_isLetter 12 = .ok (.iconst 1, 1) := by decide +kernel
theorem dX12_isLetter_13 : decode cX12_isLetter 13 = .ok (.goto 4, 3) := by decide +kernel
theorem dX12_isLetter_16 : decode cX12_isLetter 16 = .ok (.iconst 0, 1) := by decide +kernel
theorem dX12_isLetter_17 : decode cX12_isLetter 17 = .ok (.ireturn, 1) := by decide +kernel
theorem dX12_isSign_0 : decode cX12_isSign 0 = .ok (.iload_n 0, 1) := by decide +kernel
theorem dX12_isSign_1 : decode cX12_isSign 1 = .ok (.bipush 43, 2) := by decide +kernel
theorem dX12_isSign_3 : decode cX12_isSign 3 = .ok (.if_icmp .eq 39, 3) := by decide +kernel
theorem dX12_isSign_6 : decode cX12_isSign 6 = .ok (.iload_n 0, 1) := by decide +kernel
theorem dX12_isSign_7 : decode cX12_isSign 7 = .ok (.bipush 45, 2) := by decide +kernel
theorem dX12_isSign_9 : decode cX12_isSign 9 = .ok (.if_icmp .eq 33, 3) := by decide +kernel
theorem dX12_isSign_12 : decode cX12_isSign 12 = .ok (.iload_n 0, 1) := by decide +kernel
theorem dX12_isSign_13 : decode cX12_isSign 13 = .ok (.bipush 42, 2) := by decide +kernel
theorem dX12_isSign_15 : decode cX12_isSign 15 = .ok (.if_icmp .eq 27, 3) := by decide +kernel
theorem dX12_isSign_18 : decode cX12_isSign 18 = .ok (.iload_n 0, 1) := by decide +kernel
theorem dX12_isSign_19 : decode cX12_isSign 19 = .ok (.bipush 47, 2) := by decide +kernel
theorem dX12_isSign_21 : decode cX12_isSign 21 = .ok (.if_icmp .eq 21, 3) := by decide +kernel
theorem dX12_isSign_24 : decode cX12_isSign 24 = .ok (.iload_n 0, 1) := by decide +kernel
theorem dX12_isSign_25 : decode cX12_isSign 25 = .ok (.bipush 37, 2) := by decide +kernel
theorem dX12_isSign_27 : decode cX12_isSign 27 = .ok (.if_icmp .eq 15, 3) := by decide +kernel
theorem dX12_isSign_30 : decode cX12_isSign 30 = .ok (.iload_n 0, 1) := by decide +kernel
theorem dX12_isSign_31 : decode cX12_isSign 31 = .ok (.bipush 38, 2) := by decide +kernel
theorem dX12_isSign_33 : decode cX12_isSign 33 = .ok (.if_icmp .eq 9, 3) := by decide +kernel
theorem dX12_isSign_36 : decode cX12_isSign 36 = .ok (.iload_n 0, 1) := by decide +kernel
theorem dX12_isSign_37 : decode cX12_isSign 37 = .ok (.bipush 60, 2) := by decide +kernel
theorem dX12_isSign_39 : decode cX12_isSign 39 = .ok (.if_icmp .ne 7, 3) := by decide +kernel
theorem dX12_isSign_42 : decode cX12_isSign 42 = .ok (.iconst 1, 1) := by decide +kernel
theorem dX12_isSign_43 : decode cX12_isSign 43 = .ok (.goto 4, 3) := by decide +kernel
theorem dX12_isSign_46 : decode cX12_isSign 46 = .ok (.iconst 0, 1) := by decide +kernel
theorem dX12_isSign_47 : decode cX12_isSign 47 = .ok (.ireturn, 1) := by decide +kernel
theorem dX12_fails_0 : decode cX12_fails 0 = .ok (.aload_n 0, 1) := by decide +kernel
theorem dX12_fails_1 : decode cX12_fails 1 = .ok (.iload_n 1, 1) := by decide +kernel
theorem dX12_fails_2 : decode cX12_fails 2 = .ok (.putfield 17, 3) := by decide +kernel
theorem dX12_fails_5 : decode cX12_fails 5 = .ok (.iconst 0, 1) := by decide +kernel
theorem dX12_fails_6 : decode cX12_fails 6 = .ok (.ireturn, 1) := by decide +kernel
theorem dX12_takes_0 : decode cX12_takes 0 = .ok (.aload_n 0, 1) := by decide +kernel
theorem dX12_takes_1 : decode cX12_takes 1 = .ok (.invokevirtual 148, 3) := by decide +kernel
theorem dX12_takes_4 : decode cX12_takes 4 = .ok (.iload_n 1, 1) := by decide +kernel
theorem dX12_takes_5 : decode cX12_takes 5 = .ok (.if_icmp .eq 12, 3) := by decide +kernel
theorem dX12_takes_8 : decode cX12_takes 8 = .ok (.aload_n 0, 1) := by decide +kernel
theorem dX12_takes_9 : decode cX12_takes 9 = .ok (.aload_n 0, 1) := by decide +kernel
theorem dX12_takes_10 : decode cX12_takes 10 = .ok (.getfield 145, 3) := by decide +kernel
theorem dX12_takes_13 : decode cX12_takes 13 = .ok (.invokevirtual 152, 3) := by decide +kernel
theorem dX12_takes_16 : decode cX12_takes 16 = .ok (.ireturn, 1) := by decide +kernel
theorem dX12_takes_17 : decode cX12_takes 17 = .ok (.aload_n 0, 1) := by decide +kernel
theorem dX12_takes_18 : decode cX12_takes 18 = .ok (.dup, 1) := by decide +kernel
theorem dX12_takes_19 : decode cX12_takes 19 = .ok (.getfield 145, 3) := by decide +kernel
theorem dX12_takes_22 : decode cX12_takes 22 = .ok (.iconst 1, 1) := by decide +kernel
theorem dX12_takes_23 : decode cX12_takes 23 = .ok (.iadd, 1) := by decide +kernel
theorem dX12_takes_24 : decode cX12_takes 24 = .ok (.putfield 145, 3) := by decide +kernel
theorem dX12_takes_27 : decode cX12_takes 27 = .ok (.iconst 1, 1) := by decide +kernel
theorem dX12_takes_28 : decode cX12_takes 28 = .ok (.ireturn, 1) := by decide +kernel
theorem dX12_readDigits_0 : decode cX12_readDigits 0 = .ok (.aload_n 0, 1) := by decide +kernel
theorem dX12_readDigits_1 : decode cX12_readDigits 1 = .ok (.invokevirtual 148, 3) := by decide +kernel
theorem dX12_readDigits_4 : decode cX12_readDigits 4 = .ok (.invokestatic 156, 3) := by decide +kernel
theorem dX12_readDigits_7 : decode cX12_readDigits 7 = .ok (.ifCond .ne 12, 3) := by decide +kernel
theorem dX12_readDigits_10 : decode cX12_readDigits 10 = .ok (.aload_n 0, 1) := by decide +kernel
theorem dX12_readDigits_11 : decode cX12_readDigits 11 = .ok (.aload_n 0, 1) := by decide +kernel
theorem dX12_readDigits_12 : decode cX12_readDigits 12 = .ok (.getfield 145, 3) := by decide +kernel
theorem dX12_readDigits_15 : decode cX12_readDigits 15 = .ok (.invokevirtual 152, 3) := by decide +kernel
theorem dX12_readDigits_18 : decode cX12_readDigits 18 = .ok (.ireturn, 1) := by decide +kernel
theorem dX12_readDigits_19 : decode cX12_readDigits 19 = .ok (.aload_n 0, 1) := by decide +kernel
theorem dX12_readDigits_20 : decode cX12_readDigits 20 = .ok (.iconst 0, 1) := by decide +kernel
theorem dX12_readDigits_21 : decode cX12_readDigits 21 = .ok (.putfield 159, 3) := by decide +kernel
theorem dX12_readDigits_24 : decode cX12_readDigits 24 = .ok (.aload_n 0, 1) := by decide +kernel
theorem dX12_readDigits_25 : decode cX12_readDigits 25 = .ok (.getfield 145, 3) := by decide +kernel
theorem dX12_readDigits_28 : decode cX12_readDigits 28 = .ok (.istore_n 2, 1) := by decide +kernel
theorem dX12_readDigits_29 : decode cX12_readDigits 29 = .ok (.aload_n 0, 1) := by decide +kernel
theorem dX12_readDigits_30 : decode cX12_readDigits 30 = .ok (.invokevirtual 148, 3) := by decide +kernel
theorem dX12_readDigits_33 : decode cX12_readDigits 33 = .ok (.invokestatic 156, 3) := by decide +kernel
theorem dX12_readDigits_36 : decode cX12_readDigits 36 = .ok (.ifCond .eq 45, 3) := by decide +kernel
theorem dX12_readDigits_39 : decode cX12_readDigits 39 = .ok (.aload_n 0, 1) := by decide +kernel
theorem dX12_readDigits_40 : decode cX12_readDigits 40 = .ok (.getfield 145, 3) := by decide +kernel
theorem dX12_readDigits_43 : decode cX12_readDigits 43 = .ok (.iload_n 2, 1) := by decide +kernel
theorem dX12_readDigits_44 : decode cX12_readDigits 44 = .ok (.isub, 1) := by decide +kernel
theorem dX12_readDigits_45 : decode cX12_readDigits 45 = .ok (.iload_n 1, 1) := by decide +kernel
theorem dX12_readDigits_46 : decode cX12_readDigits 46 = .ok (.if_icmp .ge 35, 3) := by decide +kernel
theorem dX12_readDigits_49 : decode cX12_readDigits 49 = .ok (.aload_n 0, 1) := by decide +kernel
theorem dX12_readDigits_50 : decode cX12_readDigits 50 = .ok (.bipush 10, 2) := by decide +kernel
theorem dX12_readDigits_52 : decode cX12_readDigits 52 = .ok (.aload_n 0, 1) := by decide +kernel
theorem dX12_readDigits_53 : decode cX12_readDigits 53 = .ok (.getfield 159, 3) := by decide +kernel
theorem dX12_readDigits_56 : decode cX12_readDigits 56 = .ok (.imul, 1) := by decide +kernel
theorem dX12_readDigits_57 : decode cX12_readDigits 57 = .ok (.aload_n 0, 1) := by decide +kernel
theorem dX12_readDigits_58 : decode cX12_readDigits 58 = .ok (.invokevirtual 148, 3) := by decide +kernel
theorem dX12_readDigits_61 : decode cX12_readDigits 61 = .ok (.iadd, 1) := by decide +kernel
theorem dX12_readDigits_62 : decode cX12_readDigits 62 = .ok (.bipush 48, 2) := by decide +kernel
theorem dX12_readDigits_64 : decode cX12_readDigits 64 = .ok (.isub, 1) := by decide +kernel
theorem dX12_readDigits_65 : decode cX12_readDigits 65 = .ok (.putfield 159, 3) := by decide +kernel
theorem dX12_readDigits_68 : decode cX12_readDigits 68 = .ok (.aload_n 0, 1) := by decide +kernel
theorem dX12_readDigits_69 : decode cX12_readDigits 69 = .ok (.dup, 1) := by decide +kernel
theorem dX12_readDigits_70 : decode cX12_readDigits 70 = .ok (.getfield 145, 3) := by decide +kernel
theorem dX12_readDigits_73 : decode cX12_readDigits 73 = .ok (.iconst 1, 1) := by decide +kernel
theorem dX12_readDigits_74 : decode cX12_readDigits 74 = .ok (.iadd, 1) := by decide +kernel
theorem dX12_readDigits_75 : decode cX12_readDigits 75 = .ok (.putfield 145, 3) := by decide +kernel
theorem dX12_readDigits_78 : decode cX12_readDigits 78 = .ok (.goto (-49), 3) := by decide +kernel
theorem dX12_readDigits_81 : decode cX12_readDigits 81 = .ok (.iconst 1, 1) := by decide +kernel
theorem dX12_readDigits_82 : decode cX12_readDigits 82 = .ok (.ireturn, 1) := by decide +kernel
theorem dX12_readA_0 : decode cX12_readA 0 = .ok (.aload_n 0, 1) := by decide +kernel
theorem dX12_readA_1 : decode cX12_readA 1 = .ok (.invokevirtual 148, 3) := by decide +kernel
theorem dX12_readA_4 : decode cX12_readA 4 = .ok (.invokestatic 162, 3) := by decide +kernel
theorem dX12_readA_7 : decode cX12_readA 7 = .ok (.ifCond .eq 26, 3) := by decide +kernel
theorem dX12_readA_10 : decode cX12_readA 10 = .ok (.aload_n 0, 1) := by decide +kernel
theorem dX12_readA_11 : decode cX12_readA 11 = .ok (.aload_n 0, 1) := by decide +kernel
theorem dX12_readA_12 : decode cX12_readA 12 = .ok (.invokevirtual 148, 3) := by decide +kernel
theorem dX12_readA_15 : decode cX12_readA 15 = .ok (.bipush 97, 2) := by decide +kernel
theorem dX12_readA_17 : decode cX12_readA 17 = .ok (.isub, 1) := by decide +kernel
theorem dX12_readA_18 : decode cX12_readA 18 = .ok (.putfield 159, 3) := by decide +kernel
theorem dX12_readA_21 : decode cX12_readA 21 = .ok (.aload_n 0, 1) := by decide +kernel
theorem dX12_readA_22 : decode cX12_readA 22 = .ok (.dup, 1) := by decide +kernel
theorem dX12_readA_23 : decode cX12_readA 23 = .ok (.getfield 145, 3) := by decide +kernel
theorem dX12_readA_26 : decode cX12_readA 26 = .ok (.iconst 1, 1) := by decide +kernel
theorem dX12_readA_27 : decode cX12_readA 27 = .ok (.iadd, 1) := by decide +kernel
theorem dX12_readA_28 : decode cX12_readA 28 = .ok (.putfield 145, 3) := by decide +kernel
theorem dX12_readA_31 : decode cX12_readA 31 = .ok (.iconst 1, 1) := by decide +kernel
theorem dX12_readA_32 : decode cX12_readA 32 = .ok (.ireturn, 1) := by decide +kernel
theorem dX12_readA_33 : decode cX12_readA 33 = .ok (.aload_n 0, 1) := by decide +kernel
theorem dX12_readA_34 : decode cX12_readA 34 = .ok (.iconst 3, 1) := by decide +kernel
theorem dX12_readA_35 : decode cX12_readA 35 = .ok (.invokevirtual 165, 3) := by decide +kernel
theorem dX12_readA_38 : decode cX12_readA 38 = .ok (.ifCond .ne 5, 3) := by decide +kernel
theorem dX12_readA_41 : decode cX12_readA 41 = .ok (.iconst 0, 1) := by decide +kernel
theorem dX12_readA_42 : decode cX12_readA 42 = .ok (.ireturn, 1) := by decide +kernel
theorem dX12_readA_43 : decode cX12_readA 43 = .ok (.aload_n 0, 1) := by decide +kernel
theorem dX12_readA_44 : decode cX12_readA 44 = .ok (.dup, 1) := by decide +kernel
theorem dX12_readA_45 : decode cX12_readA 45 = .ok (.getfield 159, 3) := by decide +kernel
theorem dX12_readA_48 : decode cX12_readA 48 = .ok (.bipush 26, 2) := by decide +kernel
theorem dX12_readA_50 : decode cX12_readA 50 = .ok (.iadd, 1) := by decide +kernel
theorem dX12_readA_51 : decode cX12_readA 51 = .ok (.putfield 159, 3) := by decide +kernel
theorem dX12_readA_54 : decode cX12_readA 54 = .ok (.iconst 1, 1) := by decide +kernel
theorem dX12_readA_55 : decode cX12_readA 55 = .ok (.ireturn, 1) := by decide +kernel
theorem dX12_findExpression_0 : decode cX12_findExpression 0 = .ok (.iconst 0, 1) := by decide +kernel
theorem dX12_findExpression_1 : decode cX12_findExpression 1 = .ok (.istore 4, 2) := by decide +kernel
theorem dX12_findExpression_3 : decode cX12_findExpression 3 = .ok (.iload 4, 2) := by decide +kernel
theorem dX12_findExpression_5 : decode cX12_findExpression 5 = .ok (.aload_n 0, 1) := by decide +kernel
theorem dX12_findExpression_6 : decode cX12_findExpression 6 = .ok (.iconst 2, 1) := by decide +kernel
theorem dX12_findExpression_7 : decode cX12_findExpression 7 = .ok (.invokevirtual 168, 3) := by decide +kernel
theorem dX12_findExpression_10 : decode cX12_findExpression 10 = .ok (.if_icmp .ge 57, 3) := by decide +kernel
theorem dX12_findExpression_13 : decode cX12_findExpression 13 = .ok (.aload_n 0, 1) := by decide +kernel
theorem dX12_findExpression_14 : decode cX12_findExpression 14 = .ok (.sipush 268, 3) := by decide +kernel
theorem dX12_findExpression_17 : decode cX12_findExpression 17 = .ok (.iload 4, 2) := by decide +kernel
theorem dX12_findExpression_19 : decode cX12_findExpression 19 = .ok (.iadd, 1) := by decide +kernel
theorem dX12_findExpression_20 : decode cX12_findExpression 20 = .ok (.invokevirtual 168, 3) := by decide +kernel
theorem dX12_findExpression_23 : decode cX12_findExpression 23 = .ok (.iload_n 1, 1) := by decide +kernel
theorem dX12_findExpression_24 : decode cX12_findExpression 24 = .ok (.if_icmp .ne 37, 3) := by decide +kernel
theorem dX12_findExpression_27 : decode cX12_findExpression 27 = .ok (.aload_n 0, 1) := by decide +kernel
theorem dX12_findExpression_28 : decode cX12_findExpression 28 = .ok (.sipush 292, 3) := by decide +kernel
theorem dX12_findExpression_31 : decode cX12_findExpression 31 = .ok (.iconst 2, 1) := by decide +kernel
theorem dX12_findExpression_32 : decode cX12_findExpression 32 = .ok (.iload 4, 2) := by decide +kernel
theorem dX12_findExpression_34 : decode cX12_findExpression 34 = .ok (.imul, 1) := by decide +kernel
theorem dX12_findExpression_35 : decode cX12_findExpression 35 = .ok (.iadd, 1) := by decide +kernel
theorem dX12_findExpression_36 : decode cX12_findExpression 36 = .ok (.invokevirtual 168, 3) := by decide +kernel
theorem dX12_findExpression_39 : decode cX12_findExpression 39 = .ok (.iload_n 2, 1) := by decide +kernel
theorem dX12_findExpression_40 : decode cX12_findExpression 40 = .ok (.if_icmp .ne 21, 3) := by decide +kernel
theorem dX12_findExpression_43 : decode cX12_findExpression 43 = .ok (.aload_n 0, 1) := by decide +kernel
theorem dX12_findExpression_44 : decode cX12_findExpression 44 = .ok (.sipush 292, 3) := by decide +kernel
theorem dX12_findExpression_47 : decode cX12_findExpression 47 = .ok (.iconst 2, 1) := by decide +kernel
theorem dX12_findExpression_48 : decode cX12_findExpression 48 = .ok (.iload 4, 2) := by decide +kernel
theorem dX12_findExpression_50 : decode cX12_findExpression 50 = .ok (.imul, 1) := by decide +kernel
theorem dX12_findExpression_51 : decode cX12_findExpression 51 = .ok (.iadd, 1) := by decide +kernel
theorem dX12_findExpression_52 : decode cX12_findExpression 52 = .ok (.iconst 1, 1) := by decide +kernel
theorem dX12_findExpression_53 : decode cX12_findExpression 53 = .ok (.iadd, 1) := by decide +kernel
theorem dX12_findExpression_54 : decode cX12_findExpression 54 = .ok (.invokevirtual 168, 3) := by decide +kernel
theorem dX12_findExpression_57 : decode cX12_findExpression 57 = .ok (.iload_n 3, 1) := by decide +kernel
theorem dX12_findExpression_58 : decode cX12_findExpression 58 = .ok (.if_icmp .eq 9, 3) := by decide +kernel
theorem dX12_findExpression_61 : decode cX12_findExpression 61 = .ok (.iinc 4 1, 3) := by decide +kernel
theorem dX12_findExpression_64 : decode cX12_findExpression 64 = .ok (.goto (-61), 3) := by decide +kernel
theorem dX12_findExpression_67 : decode cX12_findExpression 67 = .ok (.iload 4, 2) := by decide +kernel
theorem dX12_findExpression_69 : decode cX12_findExpression 69 = .ok (.ireturn, 1) := by decide +kernel
theorem dX12_readWorth_0 : decode cX12_readWorth 0 = .ok (.aload_n 0, 1) := by decide +kernel
theorem dX12_readWorth_1 : decode cX12_readWorth 1 = .ok (.getfield 145, 3) := by decide +kernel
theorem dX12_readWorth_4 : decode cX12_readWorth 4 = .ok (.istore_n 2, 1) := by decide +kernel
theorem dX12_readWorth_5 : decode cX12_readWorth 5 = .ok (.aload_n 0, 1) := by decide +kernel
theorem dX12_readWorth_6 : decode cX12_readWorth 6 = .ok (.invokevirtual 172, 3) := by decide +kernel
theorem dX12_readWorth_9 : decode cX12_readWorth 9 = .ok (.ifCond .ne 5, 3) := by decide +kernel
theorem dX12_readWorth_12 : decode cX12_readWorth 12 = .ok (.iconst 0, 1) := by decide +kernel
theorem dX12_readWorth_13 : decode cX12_readWorth 13 = .ok (.ireturn, 1) := by decide +kernel
theorem dX12_readWorth_14 : decode cX12_readWorth 14 = .ok (.aload_n 0, 1) := by decide +kernel
theorem dX12_readWorth_15 : decode cX12_readWorth 15 = .ok (.getfield 159, 3) := by decide +kernel
theorem dX12_readWorth_18 : decode cX12_readWorth 18 = .ok (.istore_n 3, 1) := by decide +kernel
theorem dX12_readWorth_19 : decode cX12_readWorth 19 = .ok (.aload_n 0, 1) := by decide +kernel
theorem dX12_readWorth_20 : decode cX12_readWorth 20 = .ok (.iconst 4, 1) := by decide +kernel
theorem dX12_readWorth_21 : decode cX12_readWorth 21 = .ok (.iload_n 1, 1) := by decide +kernel
theorem dX12_readWorth_22 : decode cX12_readWorth 22 = .ok (.iadd, 1) := by decide +kernel
theorem dX12_readWorth_23 : decode cX12_readWorth 23 = .ok (.iconst 1, 1) := by decide +kernel
theorem dX12_readWorth_24 : decode cX12_readWorth 24 = .ok (.invokevirtual 176, 3) := by decide +kernel
theorem dX12_readWorth_27 : decode cX12_readWorth 27 = .ok (.aload_n 0, 1) := by decide +kernel
theorem dX12_readWorth_28 : decode cX12_readWorth 28 = .ok (.bipush 124, 2) := by decide +kernel
theorem dX12_readWorth_30 : decode cX12_readWorth 30 = .ok (.iload_n 1, 1) := by decide +kernel
theorem dX12_readWorth_31 : decode cX12_readWorth 31 = .ok (.iadd, 1) := by decide +kernel
theorem dX12_readWorth_32 : decode cX12_readWorth 32 = .ok (.iload_n 3, 1) := by decide +kernel
theorem dX12_readWorth_33 : decode cX12_readWorth 33 = .ok (.invokevirtual 176, 3) := by decide +kernel
theorem dX12_readWorth_36 : decode cX12_readWorth 36 = .ok (.aload_n 0, 1) := by decide +kernel
theorem dX12_readWorth_37 : decode cX12_readWorth 37 = .ok (.invokevirtual 148, 3) := by decide +kernel
theorem dX12_readWorth_40 : decode cX12_readWorth 40 = .ok (.invokestatic 180, 3) := by decide +kernel
theorem dX12_readWorth_43 : decode cX12_readWorth 43 = .ok (.ifCond .ne 5, 3) := by decide +kernel
theorem dX12_readWorth_46 : decode cX12_readWorth 46 = .ok (.iconst 1, 1) := by decide +kernel
theorem dX12_readWorth_47 : decode cX12_readWorth 47 = .ok (.ireturn, 1) := by decide +kernel
theorem dX12_readWorth_48 : decode cX12_readWorth 48 = .ok (.aload_n 0, 1) := by decide +kernel
theorem dX12_readWorth_49 : decode cX12_readWorth 49 = .ok (.invokevirtual 148, 3) := by decide +kernel
theorem dX12_readWorth_52 : decode cX12_readWorth 52 = .ok (.istore 4, 2) := by decide +kernel
theorem dX12_readWorth_54 : decode cX12_readWorth 54 = .ok (.aload_n 0, 1) := by decide +kernel
theorem dX12_readWorth_55 : decode cX12_readWorth 55 = .ok (.dup, 1) := by decide +kernel
theorem dX12_readWorth_56 : decode cX12_readWorth 56 = .ok (.getfield 145, 3) := by decide +kernel
theorem dX12_readWorth_59 : decode cX12_readWorth 59 = .ok (.iconst 1, 1) := by decide +kernel
theorem dX12_readWorth_60 : decode cX12_readWorth 60 = .ok (.iadd, 1) := by decide +kernel
theorem dX12_readWorth_61 : decode cX12_readWorth 61 = .ok (.putfield 145, 3) := by decide +kernel
theorem dX12_readWorth_64 : decode cX12_readWorth 64 = .ok (.aload_n 0, 1) := by decide +kernel
theorem dX12_readWorth_65 : decode cX12_readWorth 65 = .ok (.invokevirtual 172, 3) := by decide +kernel
theorem dX12_readWorth_68 : decode cX12_readWorth 68 = .ok (.ifCond .ne 5, 3) := by decide +kernel
theorem dX12_readWorth_71 : decode cX12_readWorth 71 = .ok (.iconst 0, 1) := by decide +kernel
theorem dX12_readWorth_72 : decode cX12_readWorth 72 = .ok (.ireturn, 1) := by decide +kernel
theorem dX12_readWorth_73 : decode cX12_readWorth 73 = .ok (.aload_n 0, 1) := by decide +kernel
theorem dX12_readWorth_74 : decode cX12_readWorth 74 = .ok (.iload 4, 2) := by decide +kernel
theorem dX12_readWorth_76 : decode cX12_readWorth 76 = .ok (.iload_n 3, 1) := by decide +kernel
theorem dX12_readWorth_77 : decode cX12_readWorth 77 = .ok (.aload_n 0, 1) := by decide +kernel
theorem dX12_readWorth_78 : decode cX12_readWorth 78 = .ok (.getfield 159, 3) := by decide +kernel
theorem dX12_readWorth_81 : decode cX12_readWorth 81 = .ok (.invokevirtual 183, 3) := by decide +kernel
theorem dX12_readWorth_84 : decode cX12_readWorth 84 = .ok (.istore 5, 2) := by decide +kernel
theorem dX12_readWorth_86 : decode cX12_readWorth 86 = .ok (.iload 5, 2) := by decide +kernel
theorem dX12_readWorth_88 : decode cX12_readWorth 88 = .ok (.bipush 24, 2) := by decide +kernel
theorem dX12_readWorth_90 : decode cX12_readWorth 90 = .ok (.if_icmp .ne 9, 3) := by decide +kernel
theorem dX12_readWorth_93 : decode cX12_readWorth 93 = .ok (.aload_n 0, 1) := by decide +kernel
theorem dX12_readWorth_94 : decode cX12_readWorth 94 = .ok (.iload_n 2, 1) := by decide +kernel
theorem dX12_readWorth_95 : decode cX12_readWorth 95 = .ok (.invokevirtual 152, 3) := by decide +kernel
theorem dX12_readWorth_98 : decode cX12_readWorth 98 = .ok (.ireturn, 1) := by decide +kernel
theorem dX12_readWorth_99 : decode cX12_readWorth 99 = .ok (.iload 5, 2) := by decide +kernel
theorem dX12_readWorth_101 : decode cX12_readWorth 101 = .ok (.aload_n 0, 1) := by decide +kernel
theorem dX12_readWorth_102 : decode cX12_readWorth 102 = .ok (.iconst 2, 1) := by decide +kernel
theorem dX12_readWorth_103 : decode cX12_readWorth 103 = .ok (.invokevirtual 168, 3) := by decide +kernel
theorem dX12_readWorth_106 : decode cX12_readWorth 106 = .ok (.if_icmp .ne 55, 3) := by decide +kernel
theorem dX12_readWorth_109 : decode cX12_readWorth 109 = .ok (.aload_n 0, 1) := by decide +kernel
theorem dX12_readWorth_110 : decode cX12_readWorth 110 = .ok (.sipush 268, 3) := by decide +kernel
theorem dX12_readWorth_113 : decode cX12_readWorth 113 = .ok (.iload 5, 2) := by decide +kernel
theorem dX12_readWorth_115 : decode cX12_readWorth 115 = .ok (.iadd, 1) := by decide +kernel
theorem dX12_readWorth_116 : decode cX12_readWorth 116 = .ok (.iload 4, 2) := by decide +kernel
theorem dX12_readWorth_118 : decode cX12_readWorth 118 = .ok (.invokevirtual 176, 3) := by decide +kernel
theorem dX12_readWorth_121 : decode cX12_readWorth 121 = .ok (.aload_n 0, 1) := by decide +kernel
theorem dX12_readWorth_122 : decode cX12_readWorth 122 = .ok (.sipush 292, 3) := by decide +kernel
theorem dX12_readWorth_125 : decode cX12_readWorth 125 = .ok (.iconst 2, 1) := by decide +kernel
theorem dX12_readWorth_126 : decode cX12_readWorth 126 = .ok (.iload 5, 2) := by decide +kernel
theorem dX12_readWorth_128 : decode cX12_readWorth 128 = .ok (.imul, 1) := by decide +kernel
theorem dX12_readWorth_129 : decode cX12_readWorth 129 = .ok (.iadd, 1) := by decide +kernel
theorem dX12_readWorth_130 : decode cX12_readWorth 130 = .ok (.iload_n 3, 1) := by decide +kernel
theorem dX12_readWorth_131 : decode cX12_readWorth 131 = .ok (.invokevirtual 176, 3) := by decide +kernel
theorem dX12_readWorth_134 : decode cX12_readWorth 134 = .ok (.aload_n 0, 1) := by decide +kernel
theorem dX12_readWorth_135 : decode cX12_readWorth 135 = .ok (.sipush 292, 3) := by decide +kernel
theorem dX12_readWorth_138 : decode cX12_readWorth 138 = .ok (.iconst 2, 1) := by decide +kernel
theorem dX12_readWorth_139 : decode cX12_readWorth 139 = .ok (.iload 5, 2) := by decide +kernel
theorem dX12_readWorth_141 : decode cX12_readWorth 141 = .ok (.imul, 1) := by decide +kernel
theorem dX12_readWorth_142 : decode cX12_readWorth 142 = .ok (.iadd, 1) := by decide +kernel
theorem dX12_readWorth_143 : decode cX12_readWorth 143 = .ok (.iconst 1, 1) := by decide +kernel
theorem dX12_readWorth_144 : decode cX12_readWorth 144 = .ok (.iadd, 1) := by decide +kernel
theorem dX12_readWorth_145 : decode cX12_readWorth 145 = .ok (.aload_n 0, 1) := by decide +kernel
theorem dX12_readWorth_146 : decode cX12_readWorth 146 = .ok (.getfield 159, 3) := by decide +kernel
theorem dX12_readWorth_149 : decode cX12_readWorth 149 = .ok (.invokevirtual 176, 3) := by decide +kernel
theorem dX12_readWorth_152 : decode cX12_readWorth 152 = .ok (.aload_n 0, 1) := by decide +kernel
theorem dX12_readWorth_153 : decode cX12_readWorth 153 = .ok (.iconst 2, 1) := by decide +kernel
theorem dX12_readWorth_154 : decode cX12_readWorth 154 = .ok (.iload 5, 2) := by decide +kernel
theorem dX12_readWorth_156 : decode cX12_readWorth 156 = .ok (.iconst 1, 1) := by decide +kernel
theorem dX12_readWorth_157 : decode cX12_readWorth 157 = .ok (.iadd, 1) := by decide +kernel
theorem dX12_readWorth_158 : decode cX12_readWorth 158 = .ok (.invokevirtual 176, 3) := by decide +kernel
theorem dX12_readWorth_161 : decode cX12_readWorth 161 = .ok (.aload_n 0, 1) := by decide +kernel
theorem dX12_readWorth_162 : decode cX12_readWorth 162 = .ok (.iconst 4, 1) := by decide +kernel
theorem dX12_readWorth_163 : decode cX12_readWorth 163 = .ok (.iload_n 1, 1) := by decide +kernel
theorem dX12_readWorth_164 : decode cX12_readWorth 164 = .ok (.iadd, 1) := by decide +kernel
theorem dX12_readWorth_165 : decode cX12_readWorth 165 = .ok (.iconst 2, 1) := by decide +kernel
theorem dX12_readWorth_166 : decode cX12_readWorth 166 = .ok (.invokevirtual 176, 3) := by decide +kernel
theorem dX12_readWorth_169 : decode cX12_readWorth 169 = .ok (.aload_n 0, 1) := by decide +kernel
theorem dX12_readWorth_170 : decode cX12_readWorth 170 = .ok (.bipush 124, 2) := by decide +kernel
theorem dX12_readWorth_172 : decode cX12_readWorth 172 = .ok (.iload_n 1, 1) := by decide +kernel
theorem dX12_readWorth_173 : decode cX12_readWorth 173 = .ok (.iadd, 1) := by decide +kernel
theorem dX12_readWorth_174 : decode cX12_readWorth 174 = .ok (.iload 5, 2) := by decide +kernel
theorem dX12_readWorth_176 : decode cX12_readWorth 176 = .ok (.invokevirtual 176, 3) := by decide +kernel
theorem dX12_readWorth_179 : decode cX12_readWorth 179 = .ok (.iconst 1, 1) := by decide +kernel
theorem dX12_readWorth_180 : decode cX12_readWorth 180 = .ok (.ireturn, 1) := by decide +kernel
theorem dX12_readStatement_0 : decode cX12_readStatement 0 = .ok (.aload_n 0, 1) := by decide +kernel
theorem dX12_readStatement_1 : decode cX12_readStatement 1 = .ok (.iconst 1, 1) := by decide +kernel
theorem dX12_readStatement_2 : decode cX12_readStatement 2 = .ok (.invokevirtual 168, 3) := by decide +kernel
theorem dX12_readStatement_5 : decode cX12_readStatement 5 = .ok (.istore_n 1, 1) := by decide +kernel
theorem dX12_readStatement_6 : decode cX12_readStatement 6 = .ok (.iload_n 1, 1) := by decide +kernel
theorem dX12_readStatement_7 : decode cX12_readStatement 7 = .ok (.bipush 60, 2) := by decide +kernel
theorem dX12_readStatement_9 : decode cX12_readStatement 9 = .ok (.if_icmp .ne 12, 3) := by decide +kernel
theorem dX12_readStatement_12 : decode cX12_readStatement 12 = .ok (.aload_n 0, 1) := by decide +kernel
theorem dX12_readStatement_13 : decode cX12_readStatement 13 = .ok (.aload_n 0, 1) := by decide +kernel
theorem dX12_readStatement_14 : decode cX12_readStatement 14 = .ok (.getfield 145, 3) := by decide +kernel
theorem dX12_readStatement_17 : decode cX12_readStatement 17 = .ok (.invokevirtual 152, 3) := by decide +kernel
theorem dX12_readStatement_20 : decode cX12_readStatement 20 = .ok (.ireturn, 1) := by decide +kernel
theorem dX12_readStatement_21 : decode cX12_readStatement 21 = .ok (.aload_n 0, 1) := by decide +kernel
theorem dX12_readStatement_22 : decode cX12_readStatement 22 = .ok (.invokevirtual 148, 3) := by decide +kernel
theorem dX12_readStatement_25 : decode cX12_readStatement 25 = .ok (.istore_n 2, 1) := by decide +kernel
theorem dX12_readStatement_26 : decode cX12_readStatement 26 = .ok (.aload_n 0, 1) := by decide +kernel
theorem dX12_readStatement_27 : decode cX12_readStatement 27 = .ok (.dup, 1) := by decide +kernel
theorem dX12_readStatement_28 : decode cX12_readStatement 28 = .ok (.getfield 145, 3) := by decide +kernel
theorem dX12_readStatement_31 : decode cX12_readStatement 31 = .ok (.iconst 1, 1) := by decide +kernel
theorem dX12_readStatement_32 : decode cX12_readStatement 32 = .ok (.iadd, 1) := by decide +kernel
theorem dX12_readStatement_33 : decode cX12_readStatement 33 = .ok (.putfield 145, 3) := by decide +kernel
theorem dX12_readStatement_36 : decode cX12_readStatement 36 = .ok (.aload_n 0, 1) := by decide +kernel
theorem dX12_readStatement_37 : decode cX12_readStatement 37 = .ok (.bipush 64, 2) := by decide +kernel
theorem dX12_readStatement_39 : decode cX12_readStatement 39 = .ok (.iload_n 1, 1) := by decide +kernel
theorem dX12_readStatement_40 : decode cX12_readStatement 40 = .ok (.iadd, 1) := by decide +kernel
theorem dX12_readStatement_41 : decode cX12_readStatement 41 = .ok (.iconst (-1), 1) := by decide +kernel
theorem dX12_readStatement_42 : decode cX12_readStatement 42 = .ok (.invokevirtual 176, 3) := by decide +kernel
theorem dX12_readStatement_45 : decode cX12_readStatement 45 = .ok (.iload_n 2, 1) := by decide +kernel
theorem dX12_readStatement_46 : decode cX12_readStatement 46 = .ok (.bipush 33, 2) := by decide +kernel
theorem dX12_readStatement_48 : decode cX12_readStatement 48 = .ok (.if_icmp .ne 35, 3) := by decide +kernel
theorem dX12_readStatement_51 : decode cX12_readStatement 51 = .ok (.aload_n 0, 1) := by decide +kernel
theorem dX12_readStatement_52 : decode cX12_readStatement 52 = .ok (.invokevirtual 172, 3) := by decide +kernel
theorem dX12_readStatement_55 : decode cX12_readStatement 55 = .ok (.ifCond .ne 5, 3) := by decide +kernel
theorem dX12_readStatement_58 : decode cX12_readStatement 58 = .ok (.iconst 0, 1) := by decide +kernel
theorem dX12_readStatement_59 : decode cX12_readStatement 59 = .ok (.ireturn, 1) := by decide +kernel
theorem dX12_readStatement_60 : decode cX12_readStatement 60 = .ok (.aload_n 0, 1) := by decide +kernel
theorem dX12_readStatement_61 : decode cX12_readStatement 61 = .ok (.iconst 4, 1) := by decide +kernel
theorem dX12_readStatement_62 : decode cX12_readStatement 62 = .ok (.iload_n 1, 1) := by decide +kernel
theorem dX12_readStatement_63 : decode cX12_readStatement 63 = .ok (.iadd, 1) := by decide +kernel
theorem dX12_readStatement_64 : decode cX12_readStatement 64 = .ok (.iconst 3, 1) := by decide +kernel
theorem dX12_readStatement_65 : decode cX12_readStatement 65 = .ok (.invokevirtual 176, 3) := by decide +kernel
theorem dX12_readStatement_68 : decode cX12_readStatement 68 = .ok (.aload_n 0, 1) := by decide +kernel
theorem dX12_readStatement_69 : decode cX12_readStatement 69 = .ok (.bipush 124, 2) := by decide +kernel
theorem dX12_readStatement_71 : decode cX12_readStatement 71 = .ok (.iload_n 1, 1) := by decide +kernel
theorem dX12_readStatement_72 : decode cX12_readStatement 72 = .ok (.iadd, 1) := by decide +kernel
theorem dX12_readStatement_73 : decode cX12_readStatement 73 = .ok (.aload_n 0, 1) := by decide +kernel
theorem dX12_readStatement_74 : decode cX12_readStatement 74 = .ok (.getfield 159, 3) := by decide +kernel
theorem dX12_readStatement_77 : decode cX12_readStatement 77 = .ok (.invokevirtual 176, 3) := by decide +kernel
theorem dX12_readStatement_80 : decode cX12_readStatement 80 = .ok (.goto 34, 3) := by decide +kernel
theorem dX12_readStatement_83 : decode cX12_readStatement 83 = .ok (.aload_n 0, 1) := by decide +kernel
theorem dX12_readStatement_84 : decode cX12_readStatement 84 = .ok (.bipush 64, 2) := by decide +kernel
theorem dX12_readStatement_86 : decode cX12_readStatement 86 = .ok (.iload_n 1, 1) := by decide +kernel
theorem dX12_readStatement_87 : decode cX12_readStatement 87 = .ok (.iadd, 1) := by decide +kernel
theorem dX12_readStatement_88 : decode cX12_readStatement 88 = .ok (.iload_n 2, 1) := by decide +kernel
theorem dX12_readStatement_89 : decode cX12_readStatement 89 = .ok (.bipush 97, 2) := by decide +kernel
theorem dX12_readStatement_91 : decode cX12_readStatement 91 = .ok (.isub, 1) := by decide +kernel
theorem dX12_readStatement_92 : decode cX12_readStatement 92 = .ok (.invokevirtual 176, 3) := by decide +kernel
theorem dX12_readStatement_95 : decode cX12_readStatement 95 = .ok (.aload_n 0, 1) := by decide +kernel
theorem dX12_readStatement_96 : decode cX12_readStatement 96 = .ok (.bipush 61, 2) := by decide +kernel
theorem dX12_readStatement_98 : decode cX12_readStatement 98 = .ok (.invokevirtual 187, 3) := by decide +kernel
theorem dX12_readStatement_101 : decode cX12_readStatement 101 = .ok (.ifCond .eq 11, 3) := by decide +kernel
theorem dX12_readStatement_104 : decode cX12_readStatement 104 = .ok (.aload_n 0, 1) := by decide +kernel
theorem dX12_readStatement_105 : decode cX12_readStatement 105 = .ok (.iload_n 1, 1) := by decide +kernel
theorem dX12_readStatement_106 : decode cX12_readStatement 106 = .ok (.invokevirtual 190, 3) := by decide +kernel
theorem dX12_readStatement_109 : decode cX12_readStatement 109 = .ok (.ifCond .ne 5, 3) := by decide +kernel
theorem dX12_readStatement_112 : decode cX12_readStatement 112 = .ok (.iconst 0, 1) := by decide +kernel
theorem dX12_readStatement_113 : decode cX12_readStatement 113 = .ok (.ireturn, 1) := by decide +kernel
theorem dX12_readStatement_114 : decode cX12_readStatement 114 = .ok (.aload_n 0, 1) := by decide +kernel
theorem dX12_readStatement_115 : decode cX12_readStatement 115 = .ok (.iconst 1, 1) := by decide +kernel
theorem dX12_readStatement_116 : decode cX12_readStatement 116 = .ok (.iload_n 1, 1) := by decide +kernel
theorem dX12_readStatement_117 : decode cX12_readStatement 117 = .ok (.iconst 1, 1) := by decide +kernel
theorem dX12_readStatement_118 : decode cX12_readStatement 118 = .ok (.iadd, 1) := by decide +kernel
theorem dX12_readStatement_119 : decode cX12_readStatement 119 = .ok (.invokevirtual 176, 3) := by decide +kernel
theorem dX12_readStatement_122 : decode cX12_readStatement 122 = .ok (.aload_n 0, 1) := by decide +kernel
theorem dX12_readStatement_123 : decode cX12_readStatement 123 = .ok (.bipush 59, 2) := by decide +kernel
theorem dX12_readStatement_125 : decode cX12_readStatement 125 = .ok (.invokevirtual 187, 3) := by decide +kernel
theorem dX12_readStatement_128 : decode cX12_readStatement 128 = .ok (.ireturn, 1) := by decide +kernel
theorem dX12_readNumber_0 : decode cX12_readNumber 0 = .ok (.aload_n 0, 1) := by decide +kernel
theorem dX12_readNumber_1 : decode cX12_readNumber 1 = .ok (.getfield 145, 3) := by decide +kernel
theorem dX12_readNumber_4 : decode cX12_readNumber 4 = .ok (.istore_n 3, 1) := by decide +kernel
theorem dX12_readNumber_5 : decode cX12_readNumber 5 = .ok (.aload_n 0, 1) := by decide +kernel
theorem dX12_readNumber_6 : decode cX12_readNumber 6 = .ok (.iconst 2, 1) := by decide +kernel
theorem dX12_readNumber_7 : decode cX12_readNumber 7 = .ok (.invokevirtual 165, 3) := by decide +kernel
theorem dX12_readNumber_10 : decode cX12_readNumber 10 = .ok (.ifCond .ne 5, 3) := by decide +kernel
theorem dX12_readNumber_13 : decode cX12_readNumber 13 = .ok (.iconst 0, 1) := by decide +kernel
theorem dX12_readNumber_14 : decode cX12_readNumber 14 = .ok (.ireturn, 1) := by decide +kernel
theorem dX12_readNumber_15 : decode cX12_readNumber 15 = .ok (.aload_n 0, 1) := by decide +kernel
theorem dX12_readNumber_16 : decode cX12_readNumber 16 = .ok (.sipush 236, 3) := by decide +kernel
theorem dX12_readNumber_19 : decode cX12_readNumber 19 = .ok (.iconst 2, 1) := by decide +kernel
theorem dX12_readNumber_20 : decode cX12_readNumber 20 = .ok (.iload_n 1, 1) := by decide +kernel
theorem dX12_readNumber_21 : decode cX12_readNumber 21 = .ok (.imul, 1) := by decide +kernel
theorem dX12_readNumber_22 : decode cX12_readNumber 22 = .ok (.iadd, 1) := by decide +kernel
theorem dX12_readNumber_23 : decode cX12_readNumber 23 = .ok (.iload_n 2, 1) := by decide +kernel
theorem dX12_readNumber_24 : decode cX12_readNumber 24 = .ok (.iadd, 1) := by decide +kernel
theorem dX12_readNumber_25 : decode cX12_readNumber 25 = .ok (.aload_n 0, 1) := by decide +kernel
theorem dX12_readNumber_26 : decode cX12_readNumber 26 = .ok (.getfield 159, 3) := by decide +kernel
theorem dX12_readNumber_29 : decode cX12_readNumber 29 = .ok (.invokevirtual 176, 3) := by decide +kernel
theorem dX12_readNumber_32 : decode cX12_readNumber 32 = .ok (.aload_n 0, 1) := by decide +kernel
theorem dX12_readNumber_33 : decode cX12_readNumber 33 = .ok (.getfield 21, 3) := by decide +kernel
theorem dX12_readNumber_36 : decode cX12_readNumber 36 = .ok (.iconst 2, 1) := by decide +kernel
theorem dX12_readNumber_37 : decode cX12_readNumber 37 = .ok (.iload_n 1, 1) := by decide +kernel
theorem dX12_readNumber_38 : decode cX12_readNumber 38 = .ok (.imul, 1) := by decide +kernel
theorem dX12_readNumber_39 : decode cX12_readNumber 39 = .ok (.iload_n 2, 1) := by decide +kernel
theorem dX12_readNumber_40 : decode cX12_readNumber 40 = .ok (.iadd, 1) := by decide +kernel
theorem dX12_readNumber_41 : decode cX12_readNumber 41 = .ok (.iload_n 3, 1) := by decide +kernel
theorem dX12_readNumber_42 : decode cX12_readNumber 42 = .ok (.iastore, 1) := by decide +kernel
theorem dX12_readNumber_43 : decode cX12_readNumber 43 = .ok (.iconst 1, 1) := by decide +kernel
theorem dX12_readNumber_44 : decode cX12_readNumber 44 = .ok (.ireturn, 1) := by decide +kernel
theorem dX12_readEnd_0 : decode cX12_readEnd 0 = .ok (.aload_n 0, 1) := by decide +kernel
theorem dX12_readEnd_1 : decode cX12_readEnd 1 = .ok (.iconst 0, 1) := by decide +kernel
theorem dX12_readEnd_2 : decode cX12_readEnd 2 = .ok (.invokevirtual 168, 3) := by decide +kernel
theorem dX12_readEnd_5 : decode cX12_readEnd 5 = .ok (.istore_n 1, 1) := by decide +kernel
theorem dX12_readEnd_6 : decode cX12_readEnd 6 = .ok (.aload_n 0, 1) := by decide +kernel
theorem dX12_readEnd_7 : decode cX12_readEnd 7 = .ok (.invokevirtual 148, 3) := by decide +kernel
theorem dX12_readEnd_10 : decode cX12_readEnd 10 = .ok (.istore_n 2, 1) := by decide +kernel
theorem dX12_readEnd_11 : decode cX12_readEnd 11 = .ok (.aload_n 0, 1) := by decide +kernel
theorem dX12_readEnd_12 : decode cX12_readEnd 12 = .ok (.sipush 204, 3) := by decide +kernel
theorem dX12_readEnd_15 : decode cX12_readEnd 15 = .ok (.iload_n 1, 1) := by decide +kernel
theorem dX12_readEnd_16 : decode cX12_readEnd 16 = .ok (.iadd, 1) := by decide +kernel
theorem dX12_readEnd_17 : decode cX12_readEnd 17 = .ok (.iload_n 2, 1) := by decide +kernel
theorem dX12_readEnd_18 : decode cX12_readEnd 18 = .ok (.bipush 62, 2) := by decide +kernel
theorem dX12_readEnd_20 : decode cX12_readEnd 20 = .ok (.if_icmp .ne 7, 3) := by decide +kernel
theorem dX12_readEnd_23 : decode cX12_readEnd 23 = .ok (.iconst 4, 1) := by decide +kernel
theorem dX12_readEnd_24 : decode cX12_readEnd 24 = .ok (.goto 15, 3) := by decide +kernel
theorem dX12_readEnd_27 : decode cX12_readEnd 27 = .ok (.iload_n 2, 1) := by decide +kernel
theorem dX12_readEnd_28 : decode cX12_readEnd 28 = .ok (.bipush 63, 2) := by decide +kernel
theorem dX12_readEnd_30 : decode cX12_readEnd 30 = .ok (.if_icmp .ne 7, 3) := by decide +kernel
theorem dX12_readEnd_33 : decode cX12_readEnd 33 = .ok (.iconst 5, 1) := by decide +kernel
theorem dX12_readEnd_34 : decode cX12_readEnd 34 = .ok (.goto 5, 3) := by decide +kernel
theorem dX12_readEnd_37 : decode cX12_readEnd 37 = .ok (.bipush 6, 2) := by decide +kernel
theorem dX12_readEnd_39 : decode cX12_readEnd 39 = .ok (.invokevirtual 176, 3) := by decide +kernel
theorem dX12_readEnd_42 : decode cX12_readEnd 42 = .ok (.aload_n 0, 1) := by decide +kernel
theorem dX12_readEnd_43 : decode cX12_readEnd 43 = .ok (.sipush 220, 3) := by decide +kernel
theorem dX12_readEnd_46 : decode cX12_readEnd 46 = .ok (.iload_n 1, 1) := by decide +kernel
theorem dX12_readEnd_47 : decode cX12_readEnd 47 = .ok (.iadd, 1) := by decide +kernel
theorem dX12_readEnd_48 : decode cX12_readEnd 48 = .ok (.iconst (-1), 1) := by decide +kernel
theorem dX12_readEnd_49 : decode cX12_readEnd 49 = .ok (.invokevirtual 176, 3) := by decide +kernel
theorem dX12_readEnd_52 : decode cX12_readEnd 52 = .ok (.aload_n 0, 1) := by decide +kernel
theorem dX12_readEnd_53 : decode cX12_readEnd 53 = .ok (.sipush 236, 3) := by decide +kernel
theorem dX12_readEnd_56 : decode cX12_readEnd 56 = .ok (.iconst 2, 1) := by decide +kernel
theorem dX12_readEnd_57 : decode cX12_readEnd 57 = .ok (.iload_n 1, 1) := by decide +kernel
theorem dX12_readEnd_58 : decode cX12_readEnd 58 = .ok (.imul, 1) := by decide +kernel
theorem dX12_readEnd_59 : decode cX12_readEnd 59 = .ok (.iadd, 1) := by decide +kernel
theorem dX12_readEnd_60 : decode cX12_readEnd 60 = .ok (.iconst (-1), 1) := by decide +kernel
theorem dX12_readEnd_61 : decode cX12_readEnd 61 = .ok (.invokevirtual 176, 3) := by decide +kernel
theorem dX12_readEnd_64 : decode cX12_readEnd 64 = .ok (.aload_n 0, 1) := by decide +kernel
theorem dX12_readEnd_65 : decode cX12_readEnd 65 = .ok (.sipush 236, 3) := by decide +kernel
theorem dX12_readEnd_68 : decode cX12_readEnd 68 = .ok (.iconst 2, 1) := by decide +kernel
theorem dX12_readEnd_69 : decode cX12_readEnd 69 = .ok (.iload_n 1, 1) := by decide +kernel
theorem dX12_readEnd_70 : decode cX12_readEnd 70 = .ok (.imul, 1) := by decide +kernel
theorem dX12_readEnd_71 : decode cX12_readEnd 71 = .ok (.iadd, 1) := by decide +kernel
theorem dX12_readEnd_72 : decode cX12_readEnd 72 = .ok (.iconst 1, 1) := by decide +kernel
theorem dX12_readEnd_73 : decode cX12_readEnd 73 = .ok (.iadd, 1) := by decide +kernel
theorem dX12_readEnd_74 : decode cX12_readEnd 74 = .ok (.iconst (-1), 1) := by decide +kernel
theorem dX12_readEnd_75 : decode cX12_readEnd 75 = .ok (.invokevirtual 176, 3) := by decide +kernel
theorem dX12_readEnd_78 : decode cX12_readEnd 78 = .ok (.iload_n 2, 1) := by decide +kernel
theorem dX12_readEnd_79 : decode cX12_readEnd 79 = .ok (.bipush 62, 2) := by decide +kernel
theorem dX12_readEnd_81 : decode cX12_readEnd 81 = .ok (.if_icmp .eq 24, 3) := by decide +kernel
theorem dX12_readEnd_84 : decode cX12_readEnd 84 = .ok (.iload_n 2, 1) := by decide +kernel
theorem dX12_readEnd_85 : decode cX12_readEnd 85 = .ok (.bipush 63, 2) := by decide +kernel
theorem dX12_readEnd_87 : decode cX12_readEnd 87 = .ok (.if_icmp .eq 18, 3) := by decide +kernel
theorem dX12_readEnd_90 : decode cX12_readEnd 90 = .ok (.iload_n 2, 1) := by decide +kernel
theorem dX12_readEnd_91 : decode cX12_readEnd 91 = .ok (.bipush 46, 2) := by decide +kernel
theorem dX12_readEnd_93 : decode cX12_readEnd 93 = .ok (.if_icmp .eq 12, 3) := by decide +kernel
theorem dX12_readEnd_96 : decode cX12_readEnd 96 = .ok (.aload_n 0, 1) := by decide +kernel
theorem dX12_readEnd_97 : decode cX12_readEnd 97 = .ok (.aload_n 0, 1) := by decide +kernel
theorem dX12_readEnd_98 : decode cX12_readEnd 98 = .ok (.getfield 145, 3) := by decide +kernel
theorem dX12_readEnd_101 : decode cX12_readEnd 101 = .ok (.invokevirtual 152, 3) := by decide +kernel
theorem dX12_readEnd_104 : decode cX12_readEnd 104 = .ok (.ireturn, 1) := by decide +kernel
theorem dX12_readEnd_105 : decode cX12_readEnd 105 = .ok (.aload_n 0, 1) := by decide +kernel
theorem dX12_readEnd_106 : decode cX12_readEnd 106 = .ok (.dup, 1) := by decide +kernel
theorem dX12_readEnd_107 : decode cX12_readEnd 107 = .ok (.getfield 145, 3) := by decide +kernel
theorem dX12_readEnd_110 : decode cX12_readEnd 110 = .ok (.iconst 1, 1) := by decide +kernel
theorem dX12_readEnd_111 : decode cX12_readEnd 111 = .ok (.iadd, 1) := by decide +kernel
theorem dX12_readEnd_112 : decode cX12_readEnd 112 = .ok (.putfield 145, 3) := by decide +kernel
theorem dX12_readEnd_115 : decode cX12_readEnd 115 = .ok (.iload_n 2, 1) := by decide +kernel
theorem dX12_readEnd_116 : decode cX12_readEnd 116 = .ok (.bipush 63, 2) := by decide +kernel
theorem dX12_readEnd_118 : decode cX12_readEnd 118 = .ok (.if_icmp .ne 48, 3) := by decide +kernel
theorem dX12_readEnd_121 : decode cX12_readEnd 121 = .ok (.aload_n 0, 1) := by decide +kernel
theorem dX12_readEnd_122 : decode cX12_readEnd 122 = .ok (.invokevirtual 148, 3) := by decide +kernel
theorem dX12_readEnd_125 : decode cX12_readEnd 125 = .ok (.invokestatic 162, 3) := by decide +kernel
theorem dX12_readEnd_128 : decode cX12_readEnd 128 = .ok (.ifCond .ne 12, 3) := by decide +kernel
theorem dX12_readEnd_131 : decode cX12_readEnd 131 = .ok (.aload_n 0, 1) := by decide +kernel
theorem dX12_readEnd_132 : decode cX12_readEnd 132 = .ok (.aload_n 0, 1) := by decide +kernel
theorem dX12_readEnd_133 : decode cX12_readEnd 133 = .ok (.getfield 145, 3) := by decide +kernel
theorem dX12_readEnd_136 : decode cX12_readEnd 136 = .ok (.invokevirtual 152, 3) := by decide +kernel
theorem dX12_readEnd_139 : decode cX12_readEnd 139 = .ok (.ireturn, 1) := by decide +kernel
theorem dX12_readEnd_140 : decode cX12_readEnd 140 = .ok (.aload_n 0, 1) := by decide +kernel
theorem dX12_readEnd_141 : decode cX12_readEnd 141 = .ok (.sipush 220, 3) := by decide +kernel
theorem dX12_readEnd_144 : decode cX12_readEnd 144 = .ok (.iload_n 1, 1) := by decide +kernel
theorem dX12_readEnd_145 : decode cX12_readEnd 145 = .ok (.iadd, 1) := by decide +kernel
theorem dX12_readEnd_146 : decode cX12_readEnd 146 = .ok (.aload_n 0, 1) := by decide +kernel
theorem dX12_readEnd_147 : decode cX12_readEnd 147 = .ok (.invokevirtual 148, 3) := by decide +kernel
theorem dX12_readEnd_150 : decode cX12_readEnd 150 = .ok (.bipush 97, 2) := by decide +kernel
theorem dX12_readEnd_152 : decode cX12_readEnd 152 = .ok (.isub, 1) := by decide +kernel
theorem dX12_readEnd_153 : decode cX12_readEnd 153 = .ok (.invokevirtual 176, 3) := by decide +kernel
theorem dX12_readEnd_156 : decode cX12_readEnd 156 = .ok (.aload_n 0, 1) := by decide +kernel
theorem dX12_readEnd_157 : decode cX12_readEnd 157 = .ok (.dup, 1) := by decide +kernel
theorem dX12_readEnd_158 : decode cX12_readEnd 158 = .ok (.getfield 145, 3) := by decide +kernel
theorem dX12_readEnd_161 : decode cX12_readEnd 161 = .ok (.iconst 1, 1) := by decide +kernel
theorem dX12_readEnd_162 : decode cX12_readEnd 162 = .ok (.iadd, 1) := by decide +kernel
theorem dX12_readEnd_163 : decode cX12_readEnd 163 = .ok (.putfield 145, 3) := by decide +kernel
theorem dX12_readEnd_166 : decode cX12_readEnd 166 = .ok (.iload_n 2, 1) := by decide +kernel
theorem dX12_readEnd_167 : decode cX12_readEnd 167 = .ok (.bipush 46, 2) := by decide +kernel
theorem dX12_readEnd_169 : decode cX12_readEnd 169 = .ok (.if_icmp .eq 14, 3) := by decide +kernel
theorem dX12_readEnd_172 : decode cX12_readEnd 172 = .ok (.aload_n 0, 1) := by decide +kernel
theorem dX12_readEnd_173 : decode cX12_readEnd 173 = .ok (.iload_n 1, 1) := by decide +kernel
theorem dX12_readEnd_174 : decode cX12_readEnd 174 = .ok (.iconst 0, 1) := by decide +kernel
theorem dX12_readEnd_175 : decode cX12_readEnd 175 = .ok (.invokevirtual 193, 3) := by decide +kernel
theorem dX12_readEnd_178 : decode cX12_readEnd 178 = .ok (.ifCond .ne 5, 3) := by decide +kernel
theorem dX12_readEnd_181 : decode cX12_readEnd 181 = .ok (.iconst 0, 1) := by decide +kernel
theorem dX12_readEnd_182 : decode cX12_readEnd 182 = .ok (.ireturn, 1) := by decide +kernel
theorem dX12_readEnd_183 : decode cX12_readEnd 183 = .ok (.iload_n 2, 1) := by decide +kernel
theorem dX12_readEnd_184 : decode cX12_readEnd 184 = .ok (.bipush 63, 2) := by decide +kernel
theorem dX12_readEnd_186 : decode cX12_readEnd 186 = .ok (.if_icmp .ne 23, 3) := by decide +kernel
theorem dX12_readEnd_189 : decode cX12_readEnd 189 = .ok (.aload_n 0, 1) := by decide +kernel
theorem dX12_readEnd_190 : decode cX12_readEnd 190 = .ok (.bipush 44, 2) := by decide +kernel
theorem dX12_readEnd_192 : decode cX12_readEnd 192 = .ok (.invokevirtual 187, 3) := by decide +kernel
theorem dX12_readEnd_195 : decode cX12_readEnd 195 = .ok (.ifCond .eq 12, 3) := by decide +kernel
theorem dX12_readEnd_198 : decode cX12_readEnd 198 = .ok (.aload_n 0, 1) := by decide +kernel
theorem dX12_readEnd_199 : decode cX12_readEnd 199 = .ok (.iload_n 1, 1) := by decide +kernel
theorem dX12_readEnd_200 : decode cX12_readEnd 200 = .ok (.iconst 1, 1) := by decide +kernel
theorem dX12_readEnd_201 : decode cX12_readEnd 201 = .ok (.invokevirtual 193, 3) := by decide +kernel
theorem dX12_readEnd_204 : decode cX12_readEnd 204 = .ok (.ifCond .ne 5, 3) := by decide +kernel
theorem dX12_readEnd_207 : decode cX12_readEnd 207 = .ok (.iconst 0, 1) := by decide +kernel
theorem dX12_readEnd_208 : decode cX12_readEnd 208 = .ok (.ireturn, 1) := by decide +kernel
theorem dX12_readEnd_209 : decode cX12_readEnd 209 = .ok (.aload_n 0, 1) := by decide +kernel
theorem dX12_readEnd_210 : decode cX12_readEnd 210 = .ok (.iconst 0, 1) := by decide +kernel
theorem dX12_readEnd_211 : decode cX12_readEnd 211 = .ok (.iload_n 1, 1) := by decide +kernel
theorem dX12_readEnd_212 : decode cX12_readEnd 212 = .ok (.iconst 1, 1) := by decide +kernel
theorem dX12_readEnd_213 : decode cX12_readEnd 213 = .ok (.iadd, 1) := by decide +kernel
theorem dX12_readEnd_214 : decode cX12_readEnd 214 = .ok (.invokevirtual 176, 3) := by decide +kernel
theorem dX12_readEnd_217 : decode cX12_readEnd 217 = .ok (.aload_n 0, 1) := by decide +kernel
theorem dX12_readEnd_218 : decode cX12_readEnd 218 = .ok (.sipush 184, 3) := by decide +kernel
theorem dX12_readEnd_221 : decode cX12_readEnd 221 = .ok (.iload_n 1, 1) := by decide +kernel
theorem dX12_readEnd_222 : decode cX12_readEnd 222 = .ok (.iadd, 1) := by decide +kernel
theorem dX12_readEnd_223 : decode cX12_readEnd 223 = .ok (.iconst 1, 1) := by decide +kernel
theorem dX12_readEnd_224 : decode cX12_readEnd 224 = .ok (.iadd, 1) := by decide +kernel
theorem dX12_readEnd_225 : decode cX12_readEnd 225 = .ok (.aload_n 0, 1) := by decide +kernel
theorem dX12_readEnd_226 : decode cX12_readEnd 226 = .ok (.iconst 1, 1) := by decide +kernel
theorem dX12_readEnd_227 : decode cX12_readEnd 227 = .ok (.invokevirtual 168, 3) := by decide +kernel
theorem dX12_readEnd_230 : decode cX12_readEnd 230 = .ok (.invokevirtual 176, 3) := by decide +kernel
theorem dX12_readEnd_233 : decode cX12_readEnd 233 = .ok (.aload_n 0, 1) := by decide +kernel
theorem dX12_readEnd_234 : decode cX12_readEnd 234 = .ok (.bipush 59, 2) := by decide +kernel
theorem dX12_readEnd_236 : decode cX12_readEnd 236 = .ok (.invokevirtual 187, 3) := by decide +kernel
theorem dX12_readEnd_239 : decode cX12_readEnd 239 = .ok (.ireturn, 1) := by decide +kernel
theorem dX12_readBlock_0 : decode cX12_readBlock 0 = .ok (.aload_n 0, 1) := by decide +kernel
theorem dX12_readBlock_1 : decode cX12_readBlock 1 = .ok (.iconst 0, 1) := by decide +kernel
theorem dX12_readBlock_2 : decode cX12_readBlock 2 = .ok (.invokevirtual 168, 3) := by decide +kernel
theorem dX12_readBlock_5 : decode cX12_readBlock 5 = .ok (.bipush 16, 2) := by decide +kernel
theorem dX12_readBlock_7 : decode cX12_readBlock 7 = .ok (.if_icmp .ne 12, 3) := by decide +kernel
theorem dX12_readBlock_10 : decode cX12_readBlock 10 = .ok (.aload_n 0, 1) := by decide +kernel
theorem dX12_readBlock_11 : decode cX12_readBlock 11 = .ok (.aload_n 0, 1) := by decide +kernel
theorem dX12_readBlock_12 : decode cX12_readBlock 12 = .ok (.getfield 145, 3) := by decide +kernel
theorem dX12_readBlock_15 : decode cX12_readBlock 15 = .ok (.invokevirtual 152, 3) := by decide +kernel
theorem dX12_readBlock_18 : decode cX12_readBlock 18 = .ok (.ireturn, 1) := by decide +kernel
theorem dX12_readBlock_19 : decode cX12_readBlock 19 = .ok (.aload_n 0, 1) := by decide +kernel
theorem dX12_readBlock_20 : decode cX12_readBlock 20 = .ok (.invokevirtual 148, 3) := by decide +kernel
theorem dX12_readBlock_23 : decode cX12_readBlock 23 = .ok (.invokestatic 162, 3) := by decide +kernel
theorem dX12_readBlock_26 : decode cX12_readBlock 26 = .ok (.ifCond .ne 12, 3) := by decide +kernel
theorem dX12_readBlock_29 : decode cX12_readBlock 29 = .ok (.aload_n 0, 1) := by decide +kernel
theorem dX12_readBlock_30 : decode cX12_readBlock 30 = .ok (.invokevirtual 148, 3) := by decide +kernel
theorem dX12_readBlock_33 : decode cX12_readBlock 33 = .ok (.bipush 33, 2) := by decide +kernel
theorem dX12_readBlock_35 : decode cX12_readBlock 35 = .ok (.if_icmp .ne 12, 3) := by decide +kernel
theorem dX12_readBlock_38 : decode cX12_readBlock 38 = .ok (.aload_n 0, 1) := by decide +kernel
theorem dX12_readBlock_39 : decode cX12_readBlock 39 = .ok (.invokevirtual 197, 3) := by decide +kernel
theorem dX12_readBlock_42 : decode cX12_readBlock 42 = .ok (.ifCond .ne (-23), 3) := by decide +kernel
theorem dX12_readBlock_45 : decode cX12_readBlock 45 = .ok (.iconst 0, 1) := by decide +kernel
theorem dX12_readBlock_46 : decode cX12_readBlock 46 = .ok (.ireturn, 1) := by decide +kernel
theorem dX12_readBlock_47 : decode cX12_readBlock 47 = .ok (.aload_n 0, 1) := by decide +kernel
theorem dX12_readBlock_48 : decode cX12_readBlock 48 = .ok (.invokevirtual 200, 3) := by decide +kernel
theorem dX12_readBlock_51 : decode cX12_readBlock 51 = .ok (.ireturn, 1) := by decide +kernel
theorem dX12_readProgram_0 : decode cX12_readProgram 0 = .ok (.aload_n 0, 1) := by decide +kernel
theorem dX12_readProgram_1 : decode cX12_readProgram 1 = .ok (.iconst 0, 1) := by decide +kernel
theorem dX12_readProgram_2 : decode cX12_readProgram 2 = .ok (.putfield 145, 3) := by decide +kernel
theorem dX12_readProgram_5 : decode cX12_readProgram 5 = .ok (.aload_n 0, 1) := by decide +kernel
theorem dX12_readProgram_6 : decode cX12_readProgram 6 = .ok (.iconst (-1), 1) := by decide +kernel
theorem dX12_readProgram_7 : decode cX12_readProgram 7 = .ok (.putfield 17, 3) := by decide +kernel
theorem dX12_readProgram_10 : decode cX12_readProgram 10 = .ok (.aload_n 0, 1) := by decide +kernel
theorem dX12_readProgram_11 : decode cX12_readProgram 11 = .ok (.iconst 0, 1) := by decide +kernel
theorem dX12_readProgram_12 : decode cX12_readProgram 12 = .ok (.iconst 0, 1) := by decide +kernel
theorem dX12_readProgram_13 : decode cX12_readProgram 13 = .ok (.invokevirtual 176, 3) := by decide +kernel
theorem dX12_readProgram_16 : decode cX12_readProgram 16 = .ok (.aload_n 0, 1) := by decide +kernel
theorem dX12_readProgram_17 : decode cX12_readProgram 17 = .ok (.iconst 1, 1) := by decide +kernel
theorem dX12_readProgram_18 : decode cX12_readProgram 18 = .ok (.iconst 0, 1) := by decide +kernel
theorem dX12_readProgram_19 : decode cX12_readProgram 19 = .ok (.invokevirtual 176, 3) := by decide +kernel
theorem dX12_readProgram_22 : decode cX12_readProgram 22 = .ok (.aload_n 0, 1) := by decide +kernel
theorem dX12_readProgram_23 : decode cX12_readProgram 23 = .ok (.iconst 2, 1) := by decide +kernel
theorem dX12_readProgram_24 : decode cX12_readProgram 24 = .ok (.iconst 0, 1) := by decide +kernel
theorem dX12_readProgram_25 : decode cX12_readProgram 25 = .ok (.invokevirtual 176, 3) := by decide +kernel
theorem dX12_readProgram_28 : decode cX12_readProgram 28 = .ok (.aload_n 0, 1) := by decide +kernel
theorem dX12_readProgram_29 : decode cX12_readProgram 29 = .ok (.sipush 184, 3) := by decide +kernel
theorem dX12_readProgram_32 : decode cX12_readProgram 32 = .ok (.iconst 0, 1) := by decide +kernel
theorem dX12_readProgram_33 : decode cX12_readProgram 33 = .ok (.invokevirtual 176, 3) := by decide +kernel
theorem dX12_readProgram_36 : decode cX12_readProgram 36 = .ok (.aload_n 0, 1) := by decide +kernel
theorem dX12_readProgram_37 : decode cX12_readProgram 37 = .ok (.getfield 134, 3) := by decide +kernel
theorem dX12_readProgram_40 : decode cX12_readProgram 40 = .ok (.ifCond .ne 9, 3) := by decide +kernel
theorem dX12_readProgram_43 : decode cX12_readProgram 43 = .ok (.aload_n 0, 1) := by decide +kernel
theorem dX12_readProgram_44 : decode cX12_readProgram 44 = .ok (.iconst 0, 1) := by decide +kernel
theorem dX12_readProgram_45 : decode cX12_readProgram 45 = .ok (.invokevirtual 152, 3) := by decide +kernel
theorem dX12_readProgram_48 : decode cX12_readProgram 48 = .ok (.ireturn, 1) := by decide +kernel
theorem dX12_readProgram_49 : decode cX12_readProgram 49 = .ok (.aload_n 0, 1) := by decide +kernel
theorem dX12_readProgram_50 : decode cX12_readProgram 50 = .ok (.getfield 145, 3) := by decide +kernel
theorem dX12_readProgram_53 : decode cX12_readProgram 53 = .ok (.aload_n 0, 1) := by decide +kernel
theorem dX12_readProgram_54 : decode cX12_readProgram 54 = .ok (.getfield 134, 3) := by decide +kernel
theorem dX12_readProgram_57 : decode cX12_readProgram 57 = .ok (.if_icmp .ge 12, 3) := by decide +kernel
theorem dX12_readProgram_60 : decode cX12_readProgram 60 = .ok (.aload_n 0, 1) := by decide +kernel
theorem dX12_readProgram_61 : decode cX12_readProgram 61 = .ok (.invokevirtual 203, 3) := by decide +kernel
theorem dX12_readProgram_64 : decode cX12_readProgram 64 = .ok (.ifCond .ne (-15), 3) := by decide +kernel
theorem dX12_readProgram_67 : decode cX12_readProgram 67 = .ok (.iconst 0, 1) := by decide +kernel
theorem dX12_readProgram_68 : decode cX12_readProgram 68 = .ok (.ireturn, 1) := by decide +kernel
theorem dX12_readProgram_69 : decode cX12_readProgram 69 = .ok (.iconst 0, 1) := by decide +kernel
theorem dX12_readProgram_70 : decode cX12_readProgram 70 = .ok (.istore_n 1, 1) := by decide +kernel
theorem dX12_readProgram_71 : decode cX12_readProgram 71 = .ok (.iload_n 1, 1) := by decide +kernel
theorem dX12_readProgram_72 : decode cX12_readProgram 72 = .ok (.iconst 2, 1) := by decide +kernel
theorem dX12_readProgram_73 : decode cX12_readProgram 73 = .ok (.aload_n 0, 1) := by decide +kernel
theorem dX12_readProgram_74 : decode cX12_readProgram 74 = .ok (.iconst 0, 1) := by decide +kernel
theorem dX12_readProgram_75 : decode cX12_readProgram 75 = .ok (.invokevirtual 168, 3) := by decide +kernel
theorem dX12_readProgram_78 : decode cX12_readProgram 78 = .ok (.imul, 1) := by decide +kernel
theorem dX12_readProgram_79 : decode cX12_readProgram 79 = .ok (.if_icmp .ge 37, 3) := by decide +kernel
theorem dX12_readProgram_82 : decode cX12_readProgram 82 = .ok (.aload_n 0, 1) := by decide +kernel
theorem dX12_readProgram_83 : decode cX12_readProgram 83 = .ok (.sipush 236, 3) := by decide +kernel
theorem dX12_readProgram_86 : decode cX12_readProgram 86 = .ok (.iload_n 1, 1) := by decide +kernel
theorem dX12_readProgram_87 : decode cX12_readProgram 87 = .ok (.iadd, 1) := by decide +kernel
theorem dX12_readProgram_88 : decode cX12_readProgram 88 = .ok (.invokevirtual 168, 3) := by decide +kernel
theorem dX12_readProgram_91 : decode cX12_readProgram 91 = .ok (.aload_n 0, 1) := by decide +kernel
theorem dX12_readProgram_92 : decode cX12_readProgram 92 = .ok (.iconst 0, 1) := by decide +kernel
theorem dX12_readProgram_93 : decode cX12_readProgram 93 = .ok (.invokevirtual 168, 3) := by decide +kernel
theorem dX12_readProgram_96 : decode cX12_readProgram 96 = .ok (.if_icmp .lt 14, 3) := by decide +kernel
theorem dX12_readProgram_99 : decode cX12_readProgram 99 = .ok (.aload_n 0, 1) := by decide +kernel
theorem dX12_readProgram_100 : decode cX12_readProgram 100 = .ok (.aload_n 0, 1) := by decide +kernel
theorem dX12_readProgram_101 : decode cX12_readProgram 101 = .ok (.getfield 21, 3) := by decide +kernel
theorem dX12_readProgram_104 : decode cX12_readProgram 104 = .ok (.iload_n 1, 1) := by decide +kernel
theorem dX12_readProgram_105 : decode cX12_readProgram 105 = .ok (.iaload, 1) := by decide +kernel
theorem dX12_readProgram_106 : decode cX12_readProgram 106 = .ok (.invokevirtual 152, 3) := by decide +kernel
theorem dX12_readProgram_109 : decode cX12_readProgram 109 = .ok (.ireturn, 1) := by decide +kernel
theorem dX12_readProgram_110 : decode cX12_readProgram 110 = .ok (.iinc 1 1, 3) := by decide +kernel
theorem dX12_readProgram_113 : decode cX12_readProgram 113 = .ok (.goto (-42), 3) := by decide +kernel
theorem dX12_readProgram_116 : decode cX12_readProgram 116 = .ok (.iconst 1, 1) := by decide +kernel
theorem dX12_readProgram_117 : decode cX12_readProgram 117 = .ok (.ireturn, 1) := by decide +kernel
theorem dX12_program_0 : decode cX12_program 0 = .ok (.aload_n 0, 1) := by decide +kernel
theorem dX12_program_1 : decode cX12_program 1 = .ok (.invokevirtual 206, 3) := by decide +kernel
theorem dX12_program_4 : decode cX12_program 4 = .ok (.istore_n 1, 1) := by decide +kernel
theorem dX12_program_5 : decode cX12_program 5 = .ok (.aload_n 0, 1) := by decide +kernel
theorem dX12_program_6 : decode cX12_program 6 = .ok (.iconst 0, 1) := by decide +kernel
theorem dX12_program_7 : decode cX12_program 7 = .ok (.putfield 134, 3) := by decide +kernel
theorem dX12_program_10 : decode cX12_program 10 = .ok (.iload_n 1, 1) := by decide +kernel
theorem dX12_program_11 : decode cX12_program 11 = .ok (.ifCond .ne 5, 3) := by decide +kernel
theorem dX12_program_14 : decode cX12_program 14 = .ok (.iconst (-1), 1) := by decide +kernel
theorem dX12_program_15 : decode cX12_program 15 = .ok (.ireturn, 1) := by decide +kernel
theorem dX12_program_16 : decode cX12_program 16 = .ok (.aload_n 0, 1) := by decide +kernel
theorem dX12_program_17 : decode cX12_program 17 = .ok (.iconst 4, 1) := by decide +kernel
theorem dX12_program_18 : decode cX12_program 18 = .ok (.iconst 0, 1) := by decide +kernel
theorem dX12_program_19 : decode cX12_program 19 = .ok (.invokevirtual 209, 3) := by decide +kernel
theorem dX12_program_22 : decode cX12_program 22 = .ok (.aload_n 0, 1) := by decide +kernel
theorem dX12_program_23 : decode cX12_program 23 = .ok (.invokevirtual 212, 3) := by decide +kernel
theorem dX12_program_26 : decode cX12_program 26 = .ok (.aload_n 0, 1) := by decide +kernel
theorem dX12_program_27 : decode cX12_program 27 = .ok (.getfield 215, 3) := by decide +kernel
theorem dX12_program_30 : decode cX12_program 30 = .ok (.ireturn, 1) := by decide +kernel
theorem dX12_fault_0 : decode cX12_fault 0 = .ok (.aload_n 0, 1) := by decide +kernel
theorem dX12_fault_1 : decode cX12_fault 1 = .ok (.getfield 17, 3) := by decide +kernel
theorem dX12_fault_4 : decode cX12_fault 4 = .ok (.ireturn, 1) := by decide +kernel
theorem dX12_layNode_0 : decode cX12_layNode 0 = .ok (.aload_n 0, 1) := by decide +kernel
theorem dX12_layNode_1 : decode cX12_layNode 1 = .ok (.getfield 24, 3) := by decide +kernel
theorem dX12_layNode_4 : decode cX12_layNode 4 = .ok (.aload_n 0, 1) := by decide +kernel
theorem dX12_layNode_5 : decode cX12_layNode 5 = .ok (.getfield 215, 3) := by decide +kernel
theorem dX12_layNode_8 : decode cX12_layNode 8 = .ok (.iload_n 1, 1) := by decide +kernel
theorem dX12_layNode_9 : decode cX12_layNode 9 = .ok (.iastore, 1) := by decide +kernel
theorem dX12_layNode_10 : decode cX12_layNode 10 = .ok (.aload_n 0, 1) := by decide +kernel
theorem dX12_layNode_11 : decode cX12_layNode 11 = .ok (.getfield 27, 3) := by decide +kernel
theorem dX12_layNode_14 : decode cX12_layNode 14 = .ok (.aload_n 0, 1) := by decide +kernel
theorem dX12_layNode_15 : decode cX12_layNode 15 = .ok (.getfield 215, 3) := by decide +kernel
theorem dX12_layNode_18 : decode cX12_layNode 18 = .ok (.iload_n 2, 1) := by decide +kernel
theorem dX12_layNode_19 : decode cX12_layNode 19 = .ok (.iastore, 1) := by decide +kernel
theorem dX12_layNode_20 : decode cX12_layNode 20 = .ok (.aload_n 0, 1) := by decide +kernel
theorem dX12_layNode_21 : decode cX12_layNode 21 = .ok (.getfield 30, 3) := by decide +kernel
theorem dX12_layNode_24 : decode cX12_layNode 24 = .ok (.aload_n 0, 1) := by decide +kernel
theorem dX12_layNode_25 : decode cX12_layNode 25 = .ok (.getfield 215, 3) := by decide +kernel
theorem dX12_layNode_28 : decode cX12_layNode 28 = .ok (.iload_n 3, 1) := by decide +kernel
theorem dX12_layNode_29 : decode cX12_layNode 29 = .ok (.iastore, 1) := by decide +kernel
theorem dX12_layNode_30 : decode cX12_layNode 30 = .ok (.aload_n 0, 1) := by decide +kernel
theorem dX12_layNode_31 : decode cX12_layNode 31 = .ok (.getfield 33, 3) := by decide +kernel
theorem dX12_layNode_34 : decode cX12_layNode 34 = .ok (.iconst 2, 1) := by decide +kernel
theorem dX12_layNode_35 : decode cX12_layNode 35 = .ok (.aload_n 0, 1) := by decide +kernel
theorem dX12_layNode_36 : decode cX12_layNode 36 = .ok (.getfield 215, 3) := by decide +kernel
theorem dX12_layNode_39 : decode cX12_layNode 39 = .ok (.imul, 1) := by decide +kernel
theorem dX12_layNode_40 : decode cX12_layNode 40 = .ok (.iconst (-1), 1) := by decide +kernel
theorem dX12_layNode_41 : decode cX12_layNode 41 = .ok (.iastore, 1) := by decide +kernel
theorem dX12_layNode_42 : decode cX12_layNode 42 = .ok (.aload_n 0, 1) := by decide +kernel
theorem dX12_layNode_43 : decode cX12_layNode 43 = .ok (.getfield 33, 3) := by decide +kernel
theorem dX12_layNode_46 : decode cX12_layNode 46 = .ok (.iconst 2, 1) := by decide +kernel
theorem dX12_layNode_47 : decode cX12_layNode 47 = .ok (.aload_n 0, 1) := by decide +kernel
theorem dX12_layNode_48 : decode cX12_layNode 48 = .ok (.getfield 215, 3) := by decide +kernel
theorem dX12_layNode_51 : decode cX12_layNode 51 = .ok (.imul, 1) := by decide +kernel
theorem dX12_layNode_52 : decode cX12_layNode 52 = .ok (.iconst 1, 1) := by decide +kernel
theorem dX12_layNode_53 : decode cX12_layNode 53 = .ok (.iadd, 1) := by decide +kernel
theorem dX12_layNode_54 : decode cX12_layNode 54 = .ok (.iconst (-1), 1) := by decide +kernel
theorem dX12_layNode_55 : decode cX12_layNode 55 = .ok (.iastore, 1) := by decide +kernel
theorem dX12_layNode_56 : decode cX12_layNode 56 = .ok (.aload_n 0, 1) := by decide +kernel
theorem dX12_layNode_57 : decode cX12_layNode 57 = .ok (.dup, 1) := by decide +kernel
theorem dX12_layNode_58 : decode cX12_layNode 58 = .ok (.getfield 215, 3) := by decide +kernel
theorem dX12_layNode_61 : decode cX12_layNode 61 = .ok (.iconst 1, 1) := by decide +kernel
theorem dX12_layNode_62 : decode cX12_layNode 62 = .ok (.iadd, 1) := by decide +kernel
theorem dX12_layNode_63 : decode cX12_layNode 63 = .ok (.putfield 215, 3) := by decide +kernel
theorem dX12_layNode_66 : decode cX12_layNode 66 = .ok (.return_, 1) := by decide +kernel
theorem dX12_layCome_0 : decode cX12_layCome 0 = .ok (.iconst 0, 1) := by decide +kernel
theorem dX12_layCome_1 : decode cX12_layCome 1 = .ok (.istore_n 1, 1) := by decide +kernel
theorem dX12_layCome_2 : decode cX12_layCome 2 = .ok (.iload_n 1, 1) := by decide +kernel
theorem dX12_layCome_3 : decode cX12_layCome 3 = .ok (.aload_n 0, 1) := by decide +kernel
theorem dX12_layCome_4 : decode cX12_layCome 4 = .ok (.iconst 0, 1) := by decide +kernel
theorem dX12_layCome_5 : decode cX12_layCome 5 = .ok (.invokevirtual 218, 3) := by decide +kernel
theorem dX12_layCome_8 : decode cX12_layCome 8 = .ok (.if_icmp .ge 24, 3) := by decide +kernel
theorem dX12_layCome_11 : decode cX12_layCome 11 = .ok (.aload_n 0, 1) := by decide +kernel
theorem dX12_layCome_12 : decode cX12_layCome 12 = .ok (.getfield 39, 3) := by decide +kernel
theorem dX12_layCome_15 : decode cX12_layCome 15 = .ok (.iload_n 1, 1) := by decide +kernel
theorem dX12_layCome_16 : decode cX12_layCome 16 = .ok (.iload_n 1, 1) := by decide +kernel
theorem dX12_layCome_17 : decode cX12_layCome 17 = .ok (.ifCond .ne 7, 3) := by decide +kernel
theorem dX12_layCome_20 : decode cX12_layCome 20 = .ok (.iconst 1, 1) := by decide +kernel
theorem dX12_layCome_21 : decode cX12_layCome 21 = .ok (.goto 4, 3) := by decide +kernel
theorem dX12_layCome_24 : decode cX12_layCome 24 = .ok (.iconst 0, 1) := by decide +kernel
theorem dX12_layCome_25 : decode cX12_layCome 25 = .ok (.bastore, 1) := by decide +kernel
theorem dX12_layCome_26 : decode cX12_layCome 26 = .ok (.iinc 1 1, 3) := by decide +kernel
theorem dX12_layCome_29 : decode cX12_layCome 29 = .ok (.goto (-27), 3) := by decide +kernel
theorem dX12_layCome_32 : decode cX12_layCome 32 = .ok (.iconst 1, 1) := by decide +kernel
theorem dX12_layCome_33 : decode cX12_layCome 33 = .ok (.istore_n 1, 1) := by decide +kernel
theorem dX12_layCome_34 : decode cX12_layCome 34 = .ok (.iload_n 1, 1) := by decide +kernel
theorem dX12_layCome_35 : decode cX12_layCome 35 = .ok (.ifCond .eq 91, 3) := by decide +kernel
theorem dX12_layCome_38 : decode cX12_layCome 38 = .ok (.iconst 0, 1) := by decide +kernel
theorem dX12_layCome_39 : decode cX12_layCome 39 = .ok (.istore_n 1, 1) := by decide +kernel
theorem dX12_layCome_40 : decode cX12_layCome 40 = .ok (.iconst 0, 1) := by decide +kernel
theorem dX12_layCome_41 : decode cX12_layCome 41 = .ok (.istore_n 2, 1) := by decide +kernel
theorem dX12_layCome_42 : decode cX12_layCome 42 = .ok (.iload_n 2, 1) := by decide +kernel
theorem dX12_layCome_43 : decode cX12_layCome 43 = .ok (.aload_n 0, 1) := by decide +kernel
theorem dX12_layCome_44 : decode cX12_layCome 44 = .ok (.iconst 0, 1) := by decide +kernel
theorem dX12_layCome_45 : decode cX12_layCome 45 = .ok (.invokevirtual 218, 3) := by decide +kernel
theorem dX12_layCome_48 : decode cX12_layCome 48 = .ok (.if_icmp .ge 75, 3) := by decide +kernel
theorem dX12_layCome_51 : decode cX12_layCome 51 = .ok (.iconst 0, 1) := by decide +kernel
theorem dX12_layCome_52 : decode cX12_layCome 52 = .ok (.istore_n 3, 1) := by decide +kernel
theorem dX12_layCome_53 : decode cX12_layCome 53 = .ok (.iload_n 3, 1) := by decide +kernel
theorem dX12_layCome_54 : decode cX12_layCome 54 = .ok (.iconst 2, 1) := by decide +kernel
theorem dX12_layCome_55 : decode cX12_layCome 55 = .ok (.if_icmp .ge 62, 3) := by decide +kernel
theorem dX12_layCome_58 : decode cX12_layCome 58 = .ok (.aload_n 0, 1) := by decide +kernel
theorem dX12_layCome_59 : decode cX12_layCome 59 = .ok (.sipush 236, 3) := by decide +kernel
theorem dX12_layCome_62 : decode cX12_layCome 62 = .ok (.iconst 2, 1) := by decide +kernel
theorem dX12_layCome_63 : decode cX12_layCome 63 = .ok (.iload_n 2, 1) := by decide +kernel
theorem dX12_layCome_64 : decode cX12_layCome 64 = .ok (.imul, 1) := by decide +kernel
theorem dX12_layCome_65 : decode cX12_layCome 65 = .ok (.iadd, 1) := by decide +kernel
theorem dX12_layCome_66 : decode cX12_layCome 66 = .ok (.iload_n 3, 1) := by decide +kernel
theorem dX12_layCome_67 : decode cX12_layCome 67 = .ok (.iadd, 1) := by decide +kernel
theorem dX12_layCome_68 : decode cX12_layCome 68 = .ok (.invokevirtual 218, 3) := by decide +kernel
theorem dX12_layCome_71 : decode cX12_layCome 71 = .ok (.istore 4, 2) := by decide +kernel
theorem dX12_layCome_73 : decode cX12_layCome 73 = .ok (.aload_n 0, 1) := by decide +kernel
theorem dX12_layCome_74 : decode cX12_layCome 74 = .ok (.getfield 39, 3) := by decide +kernel
theorem dX12_layCome_77 : decode cX12_layCome 77 = .ok (.iload_n 2, 1) := by decide +kernel
theorem dX12_layCome_78 : decode cX12_layCome 78 = .ok (.baload, 1) := by decide +kernel
theorem dX12_layCome_79 : decode cX12_layCome 79 = .ok (.ifCond .eq 32, 3) := by decide +kernel
theorem dX12_layCome_82 : decode cX12_layCome 82 = .ok (.iload 4, 2) := by decide +kernel
theorem dX12_layCome_84 : decode cX12_layCome 84 = .ok (.iconst (-1), 1) := by decide +kernel
theorem dX12_layCome_85 : decode cX12_layCome 85 = .ok (.if_icmp .eq 26, 3) := by decide +kernel
theorem dX12_layCome_88 : decode cX12_layCome 88 = .ok (.aload_n 0, 1) := by decide +kernel
theorem dX12_layCome_89 : decode cX12_layCome 89 = .ok (.getfield 39, 3) := by decide +kernel
theorem dX12_layCome_92 : decode cX12_layCome 92 = .ok (.iload 4, 2) := by decide +kernel
theorem dX12_layCome_94 : decode cX12_layCome 94 = .ok (.baload, 1) := by decide +kernel
theorem dX12_layCome_95 : decode cX12_layCome 95 = .ok (.ifCond .eq 6, 3) := by decide +kernel
theorem dX12_layCome_98 : decode cX12_layCome 98 = .ok (.goto 13, 3) := by decide +kernel
theorem dX12_layCome_101 : decode cX12_layCome 101 = .ok (.aload_n 0, 1) := by decide +kernel
theorem dX12_layCome_102 : decode cX12_layCome 102 = .ok (.getfield 39, 3) := by decide +kernel
theorem dX12_layCome_105 : decode cX12_layCome 105 = .ok (.iload 4, 2) := by decide +kernel
theorem dX12_layCome_107 : decode cX12_layCome 107 = .ok (.iconst 1, 1) := by decide +kernel
theorem dX12_layCome_108 : decode cX12_layCome 108 = .ok (.bastore, 1) := by decide +kernel
theorem dX12_layCome_109 : decode cX12_layCome 109 = .ok (.iconst 1, 1) := by decide +kernel
theorem dX12_layCome_110 : decode cX12_layCome 110 = .ok (.istore_n 1, 1) := by decide +kernel
theorem dX12_layCome_111 : decode cX12_layCome 111 = .ok (.iinc 3 1, 3) := by decide +kernel
theorem dX12_layCome_114 : decode cX12_layCome 114 = .ok (.goto (-61), 3) := by decide +kernel
theorem dX12_layCome_117 : decode cX12_layCome 117 = .ok (.iinc 2 1, 3) := by decide +kernel
theorem dX12_layCome_120 : decode cX12_layCome 120 = .ok (.goto (-78), 3) := by decide +kernel
theorem dX12_layCome_123 : decode cX12_layCome 123 = .ok (.goto (-89), 3) := by decide +kernel
theorem dX12_layCome_126 : decode cX12_layCome 126 = .ok (.return_, 1) := by decide +kernel
theorem dX12_layEnd_0 : decode cX12_layEnd 0 = .ok (.aload_n 0, 1) := by decide +kernel
theorem dX12_layEnd_1 : decode cX12_layEnd 1 = .ok (.sipush 204, 3) := by decide +kernel
theorem dX12_layEnd_4 : decode cX12_layEnd 4 = .ok (.iload_n 2, 1) := by decide +kernel
theorem dX12_layEnd_5 : decode cX12_layEnd 5 = .ok (.iadd, 1) := by decide +kernel
theorem dX12_layEnd_6 : decode cX12_layEnd 6 = .ok (.invokevirtual 218, 3) := by decide +kernel
theorem dX12_layEnd_9 : decode cX12_layEnd 9 = .ok (.bipush 6, 2) := by decide +kernel
theorem dX12_layEnd_11 : decode cX12_layEnd 11 = .ok (.if_icmp .ne 4, 3) := by decide +kernel
theorem dX12_layEnd_14 : decode cX12_layEnd 14 = .ok (.return_, 1) := by decide +kernel
theorem dX12_layEnd_15 : decode cX12_layEnd 15 = .ok (.aload_n 0, 1) := by decide +kernel
theorem dX12_layEnd_16 : decode cX12_layEnd 16 = .ok (.getfield 33, 3) := by decide +kernel
theorem dX12_layEnd_19 : decode cX12_layEnd 19 = .ok (.iconst 2, 1) := by decide +kernel
theorem dX12_layEnd_20 : decode cX12_layEnd 20 = .ok (.iload_n 1, 1) := by decide +kernel
theorem dX12_layEnd_21 : decode cX12_layEnd 21 = .ok (.imul, 1) := by decide +kernel
theorem dX12_layEnd_22 : decode cX12_layEnd 22 = .ok (.aload_n 0, 1) := by decide +kernel
theorem dX12_layEnd_23 : decode cX12_layEnd 23 = .ok (.getfield 43, 3) := by decide +kernel
theorem dX12_layEnd_26 : decode cX12_layEnd 26 = .ok (.aload_n 0, 1) := by decide +kernel
theorem dX12_layEnd_27 : decode cX12_layEnd 27 = .ok (.sipush 236, 3) := by decide +kernel
theorem dX12_layEnd_30 : decode cX12_layEnd 30 = .ok (.iconst 2, 1) := by decide +kernel
theorem dX12_layEnd_31 : decode cX12_layEnd 31 = .ok (.iload_n 2, 1) := by decide +kernel
theorem dX12_layEnd_32 : decode cX12_layEnd 32 = .ok (.imul, 1) := by decide +kernel
theorem dX12_layEnd_33 : decode cX12_layEnd 33 = .ok (.iadd, 1) := by decide +kernel
theorem dX12_layEnd_34 : decode cX12_layEnd 34 = .ok (.invokevirtual 218, 3) := by decide +kernel
theorem dX12_layEnd_37 : decode cX12_layEnd 37 = .ok (.iaload, 1) := by decide +kernel
theorem dX12_layEnd_38 : decode cX12_layEnd 38 = .ok (.iastore, 1) := by decide +kernel
theorem dX12_layEnd_39 : decode cX12_layEnd 39 = .ok (.aload_n 0, 1) := by decide +kernel
theorem dX12_layEnd_40 : decode cX12_layEnd 40 = .ok (.sipush 236, 3) := by decide +kernel
theorem dX12_layEnd_43 : decode cX12_layEnd 43 = .ok (.iconst 2, 1) := by decide +kernel
theorem dX12_layEnd_44 : decode cX12_layEnd 44 = .ok (.iload_n 2, 1) := by decide +kernel
theorem dX12_layEnd_45 : decode cX12_layEnd 45 = .ok (.imul, 1) := by decide +kernel
theorem dX12_layEnd_46 : decode cX12_layEnd 46 = .ok (.iadd, 1) := by decide +kernel
theorem dX12_layEnd_47 : decode cX12_layEnd 47 = .ok (.iconst 1, 1) := by decide +kernel
theorem dX12_layEnd_48 : decode cX12_layEnd 48 = .ok (.iadd, 1) := by decide +kernel
theorem dX12_layEnd_49 : decode cX12_layEnd 49 = .ok (.invokevirtual 218, 3) := by decide +kernel
theorem dX12_layEnd_52 : decode cX12_layEnd 52 = .ok (.istore_n 3, 1) := by decide +kernel
theorem dX12_layEnd_53 : decode cX12_layEnd 53 = .ok (.iload_n 3, 1) := by decide +kernel
theorem dX12_layEnd_54 : decode cX12_layEnd 54 = .ok (.iconst (-1), 1) := by decide +kernel
theorem dX12_layEnd_55 : decode cX12_layEnd 55 = .ok (.if_icmp .eq 34, 3) := by decide +kernel
theorem dX12_layEnd_58 : decode cX12_layEnd 58 = .ok (.iload_n 3, 1) := by decide +kernel
theorem dX12_layEnd_59 : decode cX12_layEnd 59 = .ok (.aload_n 0, 1) := by decide +kernel
theorem dX12_layEnd_60 : decode cX12_layEnd 60 = .ok (.sipush 236, 3) := by decide +kernel
theorem dX12_layEnd_63 : decode cX12_layEnd 63 = .ok (.iconst 2, 1) := by decide +kernel
theorem dX12_layEnd_64 : decode cX12_layEnd 64 = .ok (.iload_n 2, 1) := by decide +kernel
theorem dX12_layEnd_65 : decode cX12_layEnd 65 = .ok (.imul, 1) := by decide +kernel
theorem dX12_layEnd_66 : decode cX12_layEnd 66 = .ok (.iadd, 1) := by decide +kernel
theorem dX12_layEnd_67 : decode cX12_layEnd 67 = .ok (.invokevirtual 218, 3) := by decide +kernel
theorem dX12_layEnd_70 : decode cX12_layEnd 70 = .ok (.if_icmp .eq 19, 3) := by decide +kernel
theorem dX12_layEnd_73 : decode cX12_layEnd 73 = .ok (.aload_n 0, 1) := by decide +kernel
theorem dX12_layEnd_74 : decode cX12_layEnd 74 = .ok (.getfield 33, 3) := by decide +kernel
theorem dX12_layEnd_77 : decode cX12_layEnd 77 = .ok (.iconst 2, 1) := by decide +kernel
theorem dX12_layEnd_78 : decode cX12_layEnd 78 = .ok (.iload_n 1, 1) := by decide +kernel
theorem dX12_layEnd_79 : decode cX12_layEnd 79 = .ok (.imul, 1) := by decide +kernel
theorem dX12_layEnd_80 : decode cX12_layEnd 80 = .ok (.iconst 1, 1) := by decide +kernel
theorem dX12_layEnd_81 : decode cX12_layEnd 81 = .ok (.iadd, 1) := by decide +kernel
theorem dX12_layEnd_82 : decode cX12_layEnd 82 = .ok (.aload_n 0, 1) := by decide +kernel
theorem dX12_layEnd_83 : decode cX12_layEnd 83 = .ok (.getfield 43, 3) := by decide +kernel
theorem dX12_layEnd_86 : decode cX12_layEnd 86 = .ok (.iload_n 3, 1) := by decide +kernel
theorem dX12_layEnd_87 : decode cX12_layEnd 87 = .ok (.iaload, 1) := by decide +kernel
theorem dX12_layEnd_88 : decode cX12_layEnd 88 = .ok (.iastore, 1) := by decide +kernel
theorem dX12_layEnd_89 : decode cX12_layEnd 89 = .ok (.return_, 1) := by decide +kernel
theorem dX12_layNodes_0 : decode cX12_layNodes 0 = .ok (.aload_n 0, 1) := by decide +kernel
theorem dX12_layNodes_1 : decode cX12_layNodes 1 = .ok (.iconst 0, 1) := by decide +kernel
theorem dX12_layNodes_2 : decode cX12_layNodes 2 = .ok (.putfield 215, 3) := by decide +kernel
theorem dX12_layNodes_5 : decode cX12_layNodes 5 = .ok (.aload_n 0, 1) := by decide +kernel
theorem dX12_layNodes_6 : decode cX12_layNodes 6 = .ok (.iconst 0, 1) := by decide +kernel
theorem dX12_layNodes_7 : decode cX12_layNodes 7 = .ok (.iconst (-1), 1) := by decide +kernel
theorem dX12_layNodes_8 : decode cX12_layNodes 8 = .ok (.iconst (-1), 1) := by decide +kernel
theorem dX12_layNodes_9 : decode cX12_layNodes 9 = .ok (.invokevirtual 221, 3) := by decide +kernel
theorem dX12_layNodes_12 : decode cX12_layNodes 12 = .ok (.iconst 0, 1) := by decide +kernel
theorem dX12_layNodes_13 : decode cX12_layNodes 13 = .ok (.istore_n 1, 1) := by decide +kernel
theorem dX12_layNodes_14 : decode cX12_layNodes 14 = .ok (.iload_n 1, 1) := by decide +kernel
theorem dX12_layNodes_15 : decode cX12_layNodes 15 = .ok (.aload_n 0, 1) := by decide +kernel
theorem dX12_layNodes_16 : decode cX12_layNodes 16 = .ok (.iconst 0, 1) := by decide +kernel
theorem dX12_layNodes_17 : decode cX12_layNodes 17 = .ok (.invokevirtual 218, 3) := by decide +kernel
theorem dX12_layNodes_20 : decode cX12_layNodes 20 = .ok (.if_icmp .ge 90, 3) := by decide +kernel
theorem dX12_layNodes_23 : decode cX12_layNodes 23 = .ok (.aload_n 0, 1) := by decide +kernel
theorem dX12_layNodes_24 : decode cX12_layNodes 24 = .ok (.getfield 39, 3) := by decide +kernel
theorem dX12_layNodes_27 : decode cX12_layNodes 27 = .ok (.iload_n 1, 1) := by decide +kernel
theorem dX12_layNodes_28 : decode cX12_layNodes 28 = .ok (.baload, 1) := by decide +kernel
theorem dX12_layNodes_29 : decode cX12_layNodes 29 = .ok (.ifCond .ne 6, 3) := by decide +kernel
theorem dX12_layNodes_32 : decode cX12_layNodes 32 = .ok (.goto 72, 3) := by decide +kernel
theorem dX12_layNodes_35 : decode cX12_layNodes 35 = .ok (.aload_n 0, 1) := by decide +kernel
theorem dX12_layNodes_36 : decode cX12_layNodes 36 = .ok (.getfield 43, 3) := by decide +kernel
theorem dX12_layNodes_39 : decode cX12_layNodes 39 = .ok (.iload_n 1, 1) := by decide +kernel
theorem dX12_layNodes_40 : decode cX12_layNodes 40 = .ok (.aload_n 0, 1) := by decide +kernel
theorem dX12_layNodes_41 : decode cX12_layNodes 41 = .ok (.getfield 215, 3) := by decide +kernel
theorem dX12_layNodes_44 : decode cX12_layNodes 44 = .ok (.iastore, 1) := by decide +kernel
theorem dX12_layNodes_45 : decode cX12_layNodes 45 = .ok (.aload_n 0, 1) := by decide +kernel
theorem dX12_layNodes_46 : decode cX12_layNodes 46 = .ok (.sipush 184, 3) := by decide +kernel
theorem dX12_layNodes_49 : decode cX12_layNodes 49 = .ok (.iload_n 1, 1) := by decide +kernel
theorem dX12_layNodes_50 : decode cX12_layNodes 50 = .ok (.iadd, 1) := by decide +kernel
theorem dX12_layNodes_51 : decode cX12_layNodes 51 = .ok (.invokevirtual 218, 3) := by decide +kernel
theorem dX12_layNodes_54 : decode cX12_layNodes 54 = .ok (.istore_n 2, 1) := by decide +kernel
theorem dX12_layNodes_55 : decode cX12_layNodes 55 = .ok (.iload_n 2, 1) := by decide +kernel
theorem dX12_layNodes_56 : decode cX12_layNodes 56 = .ok (.aload_n 0, 1) := by decide +kernel
theorem dX12_layNodes_57 : decode cX12_layNodes 57 = .ok (.sipush 184, 3) := by decide +kernel
theorem dX12_layNodes_60 : decode cX12_layNodes 60 = .ok (.iload_n 1, 1) := by decide +kernel
theorem dX12_layNodes_61 : decode cX12_layNodes 61 = .ok (.iadd, 1) := by decide +kernel
theorem dX12_layNodes_62 : decode cX12_layNodes 62 = .ok (.iconst 1, 1) := by decide +kernel
theorem dX12_layNodes_63 : decode cX12_layNodes 63 = .ok (.iadd, 1) := by decide +kernel
theorem dX12_layNodes_64 : decode cX12_layNodes 64 = .ok (.invokevirtual 218, 3) := by decide +kernel
theorem dX12_layNodes_67 : decode cX12_layNodes 67 = .ok (.if_icmp .ge 22, 3) := by decide +kernel
theorem dX12_layNodes_70 : decode cX12_layNodes 70 = .ok (.aload_n 0, 1) := by decide +kernel
theorem dX12_layNodes_71 : decode cX12_layNodes 71 = .ok (.aload_n 0, 1) := by decide +kernel
theorem dX12_layNodes_72 : decode cX12_layNodes 72 = .ok (.iconst 4, 1) := by decide +kernel
theorem dX12_layNodes_73 : decode cX12_layNodes 73 = .ok (.iload_n 2, 1) := by decide +kernel
theorem dX12_layNodes_74 : decode cX12_layNodes 74 = .ok (.iadd, 1) := by decide +kernel
theorem dX12_layNodes_75 : decode cX12_layNodes 75 = .ok (.invokevirtual 218, 3) := by decide +kernel
theorem dX12_layNodes_78 : decode cX12_layNodes 78 = .ok (.iload_n 1, 1) := by decide +kernel
theorem dX12_layNodes_79 : decode cX12_layNodes 79 = .ok (.iload_n 2, 1) := by decide +kernel
theorem dX12_layNodes_80 : decode cX12_layNodes 80 = .ok (.invokevirtual 221, 3) := by decide +kernel
theorem dX12_layNodes_83 : decode cX12_layNodes 83 = .ok (.iinc 2 1, 3) := by decide +kernel
theorem dX12_layNodes_86 : decode cX12_layNodes 86 = .ok (.goto (-31), 3) := by decide +kernel
theorem dX12_layNodes_89 : decode cX12_layNodes 89 = .ok (.aload_n 0, 1) := by decide +kernel
theorem dX12_layNodes_90 : decode cX12_layNodes 90 = .ok (.aload_n 0, 1) := by decide +kernel
theorem dX12_layNodes_91 : decode cX12_layNodes 91 = .ok (.sipush 204, 3) := by decide +kernel
theorem dX12_layNodes_94 : decode cX12_layNodes 94 = .ok (.iload_n 1, 1) := by decide +kernel
theorem dX12_layNodes_95 : decode cX12_layNodes 95 = .ok (.iadd, 1) := by decide +kernel
theorem dX12_layNodes_96 : decode cX12_layNodes 96 = .ok (.invokevirtual 218, 3) := by decide +kernel
theorem dX12_layNodes_99 : decode cX12_layNodes 99 = .ok (.iload_n 1, 1) := by decide +kernel
theorem dX12_layNodes_100 : decode cX12_layNodes 100 = .ok (.iconst (-1), 1) := by decide +kernel
theorem dX12_layNodes_101 : decode cX12_layNodes 101 = .ok (.invokevirtual 221, 3) := by decide +kernel
theorem dX12_layNodes_104 : decode cX12_layNodes 104 = .ok (.iinc 1 1, 3) := by decide +kernel
theorem dX12_layNodes_107 : decode cX12_layNodes 107 = .ok (.goto (-93), 3) := by decide +kernel
theorem dX12_layNodes_110 : decode cX12_layNodes 110 = .ok (.aload_n 0, 1) := by decide +kernel
theorem dX12_layNodes_111 : decode cX12_layNodes 111 = .ok (.getfield 33, 3) := by decide +kernel
theorem dX12_layNodes_114 : decode cX12_layNodes 114 = .ok (.iconst 0, 1) := by decide +kernel
theorem dX12_layNodes_115 : decode cX12_layNodes 115 = .ok (.aload_n 0, 1) := by decide +kernel
theorem dX12_layNodes_116 : decode cX12_layNodes 116 = .ok (.getfield 43, 3) := by decide +kernel
theorem dX12_layNodes_119 : decode cX12_layNodes 119 = .ok (.iconst 0, 1) := by decide +kernel
theorem dX12_layNodes_120 : decode cX12_layNodes 120 = .ok (.iaload, 1) := by decide +kernel
theorem dX12_layNodes_121 : decode cX12_layNodes 121 = .ok (.iastore, 1) := by decide +kernel
theorem dX12_layNodes_122 : decode cX12_layNodes 122 = .ok (.iconst 1, 1) := by decide +kernel
theorem dX12_layNodes_123 : decode cX12_layNodes 123 = .ok (.istore_n 1, 1) := by decide +kernel
theorem dX12_layNodes_124 : decode cX12_layNodes 124 = .ok (.iload_n 1, 1) := by decide +kernel
theorem dX12_layNodes_125 : decode cX12_layNodes 125 = .ok (.aload_n 0, 1) := by decide +kernel
theorem dX12_layNodes_126 : decode cX12_layNodes 126 = .ok (.getfield 215, 3) := by decide +kernel
theorem dX12_layNodes_129 : decode cX12_layNodes 129 = .ok (.if_icmp .ge 44, 3) := by decide +kernel
theorem dX12_layNodes_132 : decode cX12_layNodes 132 = .ok (.aload_n 0, 1) := by decide +kernel
theorem dX12_layNodes_133 : decode cX12_layNodes 133 = .ok (.getfield 24, 3) := by decide +kernel
theorem dX12_layNodes_136 : decode cX12_layNodes 136 = .ok (.iload_n 1, 1) := by decide +kernel
theorem dX12_layNodes_137 : decode cX12_layNodes 137 = .ok (.iaload, 1) := by decide +kernel
theorem dX12_layNodes_138 : decode cX12_layNodes 138 = .ok (.iconst 4, 1) := by decide +kernel
theorem dX12_layNodes_139 : decode cX12_layNodes 139 = .ok (.if_icmp .ge 17, 3) := by decide +kernel
theorem dX12_layNodes_142 : decode cX12_layNodes 142 = .ok (.aload_n 0, 1) := by decide +kernel
theorem dX12_layNodes_143 : decode cX12_layNodes 143 = .ok (.getfield 33, 3) := by decide +kernel
theorem dX12_layNodes_146 : decode cX12_layNodes 146 = .ok (.iconst 2, 1) := by decide +kernel
theorem dX12_layNodes_147 : decode cX12_layNodes 147 = .ok (.iload_n 1, 1) := by decide +kernel
theorem dX12_layNodes_148 : decode cX12_layNodes 148 = .ok (.imul, 1) := by decide +kernel
theorem dX12_layNodes_149 : decode cX12_layNodes 149 = .ok (.iload_n 1, 1) := by decide +kernel
theorem dX12_layNodes_150 : decode cX12_layNodes 150 = .ok (.iconst 1, 1) := by decide +kernel
theorem dX12_layNodes_151 : decode cX12_layNodes 151 = .ok (.iadd, 1) := by decide +kernel
theorem dX12_layNodes_152 : decode cX12_layNodes 152 = .ok (.iastore, 1) := by decide +kernel
theorem dX12_layNodes_153 : decode cX12_layNodes 153 = .ok (.goto 14, 3) := by decide +kernel
theorem dX12_layNodes_156 : decode cX12_layNodes 156 = .ok (.aload_n 0, 1) := by decide +kernel
theorem dX12_layNodes_157 : decode cX12_layNodes 157 = .ok (.iload_n 1, 1) := by decide +kernel
theorem dX12_layNodes_158 : decode cX12_layNodes 158 = .ok (.aload_n 0, 1) := by decide +kernel
theorem dX12_layNodes_159 : decode cX12_layNodes 159 = .ok (.getfield 27, 3) := by decide +kernel
theorem dX12_layNodes_162 : decode cX12_layNodes 162 = .ok (.iload_n 1, 1) := by decide +kernel
theorem dX12_layNodes_163 : decode cX12_layNodes 163 = .ok (.iaload, 1) := by decide +kernel
theorem dX12_layNodes_164 : decode cX12_layNodes 164 = .ok (.invokevirtual 225, 3) := by decide +kernel
theorem dX12_layNodes_167 : decode cX12_layNodes 167 = .ok (.iinc 1 1, 3) := by decide +kernel
theorem dX12_layNodes_170 : decode cX12_layNodes 170 = .ok (.goto (-46), 3) := by decide +kernel
theorem dX12_layNodes_173 : decode cX12_layNodes 173 = .ok (.return_, 1) := by decide +kernel
theorem dX12_countCome_0 : decode cX12_countCome 0 = .ok (.iconst 0, 1) := by decide +kernel
theorem dX12_countCome_1 : decode cX12_countCome 1 = .ok (.istore_n 1, 1) := by decide +kernel
theorem dX12_countCome_2 : decode cX12_countCome 2 = .ok (.iload_n 1, 1) := by decide +kernel
theorem dX12_countCome_3 : decode cX12_countCome 3 = .ok (.aload_n 0, 1) := by decide +kernel
theorem dX12_countCome_4 : decode cX12_countCome 4 = .ok (.getfield 215, 3) := by decide +kernel
theorem dX12_countCome_7 : decode cX12_countCome 7 = .ok (.if_icmp .ge 16, 3) := by decide +kernel
theorem dX12_countCome_10 : decode cX12_countCome 10 = .ok (.aload_n 0, 1) := by decide +kernel
theorem dX12_countCome_11 : decode cX12_countCome 11 = .ok (.getfield 36, 3) := by decide +kernel
theorem dX12_countCome_14 : decode cX12_countCome 14 = .ok (.iload_n 1, 1) := by decide +kernel
theorem dX12_countCome_15 : decode cX12_countCome 15 = .ok (.iconst 0, 1) := by decide +kernel
theorem dX12_countCome_16 : decode cX12_countCome 16 = .ok (.iastore, 1) := by decide +kernel
theorem dX12_countCome_17 : decode cX12_countCome 17 = .ok (.iinc 1 1, 3) := by decide +kernel
theorem dX12_countCome_20 : decode cX12_countCome 20 = .ok (.goto (-18), 3) := by decide +kernel
theorem dX12_countCome_23 : decode cX12_countCome 23 = .ok (.iconst 0, 1) := by decide +kernel
theorem dX12_countCome_24 : decode cX12_countCome 24 = .ok (.istore_n 1, 1) := by decide +kernel
theorem dX12_countCome_25 : decode cX12_countCome 25 = .ok (.iload_n 1, 1) := by decide +kernel
theorem dX12_countCome_26 : decode cX12_countCome 26 = .ok (.iconst 2, 1) := by decide +kernel
theorem dX12_countCome_27 : decode cX12_countCome 27 = .ok (.aload_n 0, 1) := by decide +kernel
theorem dX12_countCome_28 : decode cX12_countCome 28 = .ok (.getfield 215, 3) := by decide +kernel
theorem dX12_countCome_31 : decode cX12_countCome 31 = .ok (.imul, 1) := by decide +kernel
theorem dX12_countCome_32 : decode cX12_countCome 32 = .ok (.if_icmp .ge 34, 3) := by decide +kernel
theorem dX12_countCome_35 : decode cX12_countCome 35 = .ok (.aload_n 0, 1) := by decide +kernel
theorem dX12_countCome_36 : decode cX12_countCome 36 = .ok (.getfield 33, 3) := by decide +kernel
theorem dX12_countCome_39 : decode cX12_countCome 39 = .ok (.iload_n 1, 1) := by decide +kernel
theorem dX12_countCome_40 : decode cX12_countCome 40 = .ok (.iaload, 1) := by decide +kernel
theorem dX12_countCome_41 : decode cX12_countCome 41 = .ok (.iconst (-1), 1) := by decide +kernel
theorem dX12_countCome_42 : decode cX12_countCome 42 = .ok (.if_icmp .eq 18, 3) := by decide +kernel
theorem dX12_countCome_45 : decode cX12_countCome 45 = .ok (.aload_n 0, 1) := by decide +kernel
theorem dX12_countCome_46 : decode cX12_countCome 46 = .ok (.getfield 36, 3) := by decide +kernel
theorem dX12_countCome_49 : decode cX12_countCome 49 = .ok (.aload_n 0, 1) := by decide +kernel
theorem dX12_countCome_50 : decode cX12_countCome 50 = .ok (.getfield 33, 3) := by decide +kernel
theorem dX12_countCome_53 : decode cX12_countCome 53 = .ok (.iload_n 1, 1) := by decide +kernel
theorem dX12_countCome_54 : decode cX12_countCome 54 = .ok (.iaload, 1) := by decide +kernel
theorem dX12_countCome_55 : decode cX12_countCome 55 = .ok (.dup2, 1) := by decide +kernel
theorem dX12_countCome_56 : decode cX12_countCome 56 = .ok (.iaload, 1) := by decide +kernel
theorem dX12_countCome_57 : decode cX12_countCome 57 = .ok (.iconst 1, 1) := by decide +kernel
theorem dX12_countCome_58 : decode cX12_countCome 58 = .ok (.iadd, 1) := by decide +kernel
theorem dX12_countCome_59 : decode cX12_countCome 59 = .ok (.iastore, 1) := by decide +kernel
theorem dX12_countCome_60 : decode cX12_countCome 60 = .ok (.iinc 1 1, 3) := by decide +kernel
theorem dX12_countCome_63 : decode cX12_countCome 63 = .ok (.goto (-38), 3) := by decide +kernel
theorem dX12_countCome_66 : decode cX12_countCome 66 = .ok (.return_, 1) := by decide +kernel
theorem dX12_split_0 : decode cX12_split 0 = .ok (.aload_n 0, 1) := by decide +kernel
theorem dX12_split_1 : decode cX12_split 1 = .ok (.getfield 215, 3) := by decide +kernel
theorem dX12_split_4 : decode cX12_split 4 = .ok (.istore_n 1, 1) := by decide +kernel
theorem dX12_split_5 : decode cX12_split 5 = .ok (.iconst 0, 1) := by decide +kernel
theorem dX12_split_6 : decode cX12_split 6 = .ok (.istore_n 2, 1) := by decide +kernel
theorem dX12_split_7 : decode cX12_split 7 = .ok (.iload_n 2, 1) := by decide +kernel
theorem dX12_split_8 : decode cX12_split 8 = .ok (.iload_n 1, 1) := by decide +kernel
theorem dX12_split_9 : decode cX12_split 9 = .ok (.if_icmp .ge 101, 3) := by decide +kernel
theorem dX12_split_12 : decode cX12_split 12 = .ok (.aload_n 0, 1) := by decide +kernel
theorem dX12_split_13 : decode cX12_split 13 = .ok (.getfield 33, 3) := by decide +kernel
theorem dX12_split_16 : decode cX12_split 16 = .ok (.iconst 2, 1) := by decide +kernel
theorem dX12_split_17 : decode cX12_split 17 = .ok (.iload_n 2, 1) := by decide +kernel
theorem dX12_split_18 : decode cX12_split 18 = .ok (.imul, 1) := by decide +kernel
theorem dX12_split_19 : decode cX12_split 19 = .ok (.iconst 1, 1) := by decide +kernel
theorem dX12_split_20 : decode cX12_split 20 = .ok (.iadd, 1) := by decide +kernel
theorem dX12_split_21 : decode cX12_split 21 = .ok (.iaload, 1) := by decide +kernel
theorem dX12_split_22 : decode cX12_split 22 = .ok (.iconst (-1), 1) := by decide +kernel
theorem dX12_split_23 : decode cX12_split 23 = .ok (.if_icmp .ne 6, 3) := by decide +kernel
theorem dX12_split_26 : decode cX12_split 26 = .ok (.goto 78, 3) := by decide +kernel
theorem dX12_split_29 : decode cX12_split 29 = .ok (.iconst 2, 1) := by decide +kernel
theorem dX12_split_30 : decode cX12_split 30 = .ok (.iload_n 2, 1) := by decide +kernel
theorem dX12_split_31 : decode cX12_split 31 = .ok (.imul, 1) := by decide +kernel
theorem dX12_split_32 : decode cX12_split 32 = .ok (.istore_n 3, 1) := by decide +kernel
theorem dX12_split_33 : decode cX12_split 33 = .ok (.iload_n 3, 1) := by decide +kernel
theorem dX12_split_34 : decode cX12_split 34 = .ok (.iconst 2, 1) := by decide +kernel
theorem dX12_split_35 : decode cX12_split 35 = .ok (.iload_n 2, 1) := by decide +kernel
theorem dX12_split_36 : decode cX12_split 36 = .ok (.imul, 1) := by decide +kernel
theorem dX12_split_37 : decode cX12_split 37 = .ok (.iconst 2, 1) := by decide +kernel
theorem dX12_split_38 : decode cX12_split 38 = .ok (.iadd, 1) := by decide +kernel
theorem dX12_split_39 : decode cX12_split 39 = .ok (.if_icmp .ge 65, 3) := by decide +kernel
theorem dX12_split_42 : decode cX12_split 42 = .ok (.aload_n 0, 1) := by decide +kernel
theorem dX12_split_43 : decode cX12_split 43 = .ok (.getfield 36, 3) := by decide +kernel
theorem dX12_split_46 : decode cX12_split 46 = .ok (.aload_n 0, 1) := by decide +kernel
theorem dX12_split_47 : decode cX12_split 47 = .ok (.getfield 33, 3) := by decide +kernel
theorem dX12_split_50 : decode cX12_split 50 = .ok (.iload_n 3, 1) := by decide +kernel
theorem dX12_split_51 : decode cX12_split 51 = .ok (.iaload, 1) := by decide +kernel
theorem dX12_split_52 : decode cX12_split 52 = .ok (.iaload, 1) := by decide +kernel
theorem dX12_split_53 : decode cX12_split 53 = .ok (.iconst 2, 1) := by decide +kernel
theorem dX12_split_54 : decode cX12_split 54 = .ok (.if_icmp .ge 6, 3) := by decide +kernel
theorem dX12_split_57 : decode cX12_split 57 = .ok (.goto 41, 3) := by decide +kernel
theorem dX12_split_60 : decode cX12_split 60 = .ok (.aload_n 0, 1) := by decide +kernel
theorem dX12_split_61 : decode cX12_split 61 = .ok (.iconst 0, 1) := by decide +kernel
theorem dX12_split_62 : decode cX12_split 62 = .ok (.iconst (-1), 1) := by decide +kernel
theorem dX12_split_63 : decode cX12_split 63 = .ok (.iconst (-1), 1) := by decide +kernel
theorem dX12_split_64 : decode cX12_split 64 = .ok (.invokevirtual 221, 3) := by decide +kernel
theorem dX12_split_67 : decode cX12_split 67 = .ok (.aload_n 0, 1) := by decide +kernel
theorem dX12_split_68 : decode cX12_split 68 = .ok (.getfield 33, 3) := by decide +kernel
theorem dX12_split_71 : decode cX12_split 71 = .ok (.iconst 2, 1) := by decide +kernel
theorem dX12_split_72 : decode cX12_split 72 = .ok (.aload_n 0, 1) := by decide +kernel
theorem dX12_split_73 : decode cX12_split 73 = .ok (.getfield 215, 3) := by decide +kernel
theorem dX12_split_76 : decode cX12_split 76 = .ok (.imul, 1) := by decide +kernel
theorem dX12_split_77 : decode cX12_split 77 = .ok (.iconst 2, 1) := by decide +kernel
theorem dX12_split_78 : decode cX12_split 78 = .ok (.isub, 1) := by decide +kernel
theorem dX12_split_79 : decode cX12_split 79 = .ok (.aload_n 0, 1) := by decide +kernel
theorem dX12_split_80 : decode cX12_split 80 = .ok (.getfield 33, 3) := by decide +kernel
theorem dX12_split_83 : decode cX12_split 83 = .ok (.iload_n 3, 1) := by decide +kernel
theorem dX12_split_84 : decode cX12_split 84 = .ok (.iaload, 1) := by decide +kernel
theorem dX12_split_85 : decode cX12_split 85 = .ok (.iastore, 1) := by decide +kernel
theorem dX12_split_86 : decode cX12_split 86 = .ok (.aload_n 0, 1) := by decide +kernel
theorem dX12_split_87 : decode cX12_split 87 = .ok (.getfield 33, 3) := by decide +kernel
theorem dX12_split_90 : decode cX12_split 90 = .ok (.iload_n 3, 1) := by decide +kernel
theorem dX12_split_91 : decode cX12_split 91 = .ok (.aload_n 0, 1) := by decide +kernel
theorem dX12_split_92 : decode cX12_split 92 = .ok (.getfield 215, 3) := by decide +kernel
theorem dX12_split_95 : decode cX12_split 95 = .ok (.iconst 1, 1) := by decide +kernel
theorem dX12_split_96 : decode cX12_split 96 = .ok (.isub, 1) := by decide +kernel
theorem dX12_split_97 : decode cX12_split 97 = .ok (.iastore, 1) := by decide +kernel
theorem dX12_split_98 : decode cX12_split 98 = .ok (.iinc 3 1, 3) := by decide +kernel
theorem dX12_split_101 : decode cX12_split 101 = .ok (.goto (-68), 3) := by decide +kernel
theorem dX12_split_104 : decode cX12_split 104 = .ok (.iinc 2 1, 3) := by decide +kernel
theorem dX12_split_107 : decode cX12_split 107 = .ok (.goto (-100), 3) := by decide +kernel
theorem dX12_split_110 : decode cX12_split 110 = .ok (.return_, 1) := by decide +kernel
theorem dX12_isLast_0 : decode cX12_isLast 0 = .ok (.aload_n 0, 1) := by decide +kernel
theorem dX12_isLast_1 : decode cX12_isLast 1 = .ok (.getfield 33, 3) := by decide +kernel
theorem dX12_isLast_4 : decode cX12_isLast 4 = .ok (.iconst 2, 1) := by decide +kernel
theorem dX12_isLast_5 : decode cX12_isLast 5 = .ok (.iload_n 1, 1) := by decide +kernel
theorem dX12_isLast_6 : decode cX12_isLast 6 = .ok (.imul, 1) := by decide +kernel
theorem dX12_isLast_7 : decode cX12_isLast 7 = .ok (.iaload, 1) := by decide +kernel
theorem dX12_isLast_8 : decode cX12_isLast 8 = .ok (.iconst (-1), 1) := by decide +kernel
theorem dX12_isLast_9 : decode cX12_isLast 9 = .ok (.if_icmp .ne 7, 3) := by decide +kernel
theorem dX12_isLast_12 : decode cX12_isLast 12 = .ok (.iconst 1, 1) := by decide +kernel
theorem dX12_isLast_13 : decode cX12_isLast 13 = .ok (.goto 4, 3) := by decide +kernel
theorem dX12_isLast_16 : decode cX12_isLast 16 = .ok (.iconst 0, 1) := by decide +kernel
theorem dX12_isLast_17 : decode cX12_isLast 17 = .ok (.ireturn, 1) := by decide +kernel
theorem dX12_areAllLeading_0 : decode cX12_areAllLeading 0 = .ok (.iconst 0, 1) := by decide +kernel
theorem dX12_areAllLeading_1 : decode cX12_areAllLeading 1 = .ok (.istore_n 1, 1) := by decide +kernel
theorem dX12_areAllLeading_2 : decode cX12_areAllLeading 2 = .ok (.iload_n 1, 1) := by decide +kernel
theorem dX12_areAllLeading_3 : decode cX12_areAllLeading 3 = .ok (.aload_n 0, 1) := by decide +kernel
theorem dX12_areAllLeading_4 : decode cX12_areAllLeading 4 = .ok (.getfield 215, 3) := by decide +kernel
theorem dX12_areAllLeading_7 : decode cX12_areAllLeading 7 = .ok (.if_icmp .ge 20, 3) := by decide +kernel
theorem dX12_areAllLeading_10 : decode cX12_areAllLeading 10 = .ok (.aload_n 0, 1) := by decide +kernel
theorem dX12_areAllLeading_11 : decode cX12_areAllLeading 11 = .ok (.getfield 46, 3) := by decide +kernel
theorem dX12_areAllLeading_14 : decode cX12_areAllLeading 14 = .ok (.iload_n 1, 1) := by decide +kernel
theorem dX12_areAllLeading_15 : decode cX12_areAllLeading 15 = .ok (.aload_n 0, 1) := by decide +kernel
theorem dX12_areAllLeading_16 : decode cX12_areAllLeading 16 = .ok (.iload_n 1, 1) := by decide +kernel
theorem dX12_areAllLeading_17 : decode cX12_areAllLeading 17 = .ok (.invokevirtual 228, 3) := by decide +kernel
theorem dX12_areAllLeading_20 : decode cX12_areAllLeading 20 = .ok (.bastore, 1) := by decide +kernel
theorem dX12_areAllLeading_21 : decode cX12_areAllLeading 21 = .ok (.iinc 1 1, 3) := by decide +kernel
theorem dX12_areAllLeading_24 : decode cX12_areAllLeading 24 = .ok (.goto (-22), 3) := by decide +kernel
theorem dX12_areAllLeading_27 : decode cX12_areAllLeading 27 = .ok (.iconst 1, 1) := by decide +kernel
theorem dX12_areAllLeading_28 : decode cX12_areAllLeading 28 = .ok (.istore_n 1, 1) := by decide +kernel
theorem dX12_areAllLeading_29 : decode cX12_areAllLeading 29 = .ok (.iload_n 1, 1) := by decide +kernel
theorem dX12_areAllLeading_30 : decode cX12_areAllLeading 30 = .ok (.ifCond .eq 75, 3) := by decide +kernel
theorem dX12_areAllLeading_33 : decode cX12_areAllLeading 33 = .ok (.iconst 0, 1) := by decide +kernel
theorem dX12_areAllLeading_34 : decode cX12_areAllLeading 34 = .ok (.istore_n 1, 1) := by decide +kernel
theorem dX12_areAllLeading_35 : decode cX12_areAllLeading 35 = .ok (.iconst 0, 1) := by decide +kernel
theorem dX12_areAllLeading_36 : decode cX12_areAllLeading 36 = .ok (.istore_n 2, 1) := by decide +kernel
theorem dX12_areAllLeading_37 : decode cX12_areAllLeading 37 = .ok (.iload_n 2, 1) := by decide +kernel
theorem dX12_areAllLeading_38 : decode cX12_areAllLeading 38 = .ok (.iconst 2, 1) := by decide +kernel
theorem dX12_areAllLeading_39 : decode cX12_areAllLeading 39 = .ok (.aload_n 0, 1) := by decide +kernel
theorem dX12_areAllLeading_40 : decode cX12_areAllLeading 40 = .ok (.getfield 215, 3) := by decide +kernel
theorem dX12_areAllLeading_43 : decode cX12_areAllLeading 43 = .ok (.imul, 1) := by decide +kernel
theorem dX12_areAllLeading_44 : decode cX12_areAllLeading 44 = .ok (.if_icmp .ge 58, 3) := by decide +kernel
theorem dX12_areAllLeading_47 : decode cX12_areAllLeading 47 = .ok (.aload_n 0, 1) := by decide +kernel
theorem dX12_areAllLeading_48 : decode cX12_areAllLeading 48 = .ok (.getfield 33, 3) := by decide +kernel
theorem dX12_areAllLeading_51 : decode cX12_areAllLeading 51 = .ok (.iload_n 2, 1) := by decide +kernel
theorem dX12_areAllLeading_52 : decode cX12_areAllLeading 52 = .ok (.iaload, 1) := by decide +kernel
theorem dX12_areAllLeading_53 : decode cX12_areAllLeading 53 = .ok (.iconst (-1), 1) := by decide +kernel
theorem dX12_areAllLeading_54 : decode cX12_areAllLeading 54 = .ok (.if_icmp .eq 42, 3) := by decide +kernel
theorem dX12_areAllLeading_57 : decode cX12_areAllLeading 57 = .ok (.aload_n 0, 1) := by decide +kernel
theorem dX12_areAllLeading_58 : decode cX12_areAllLeading 58 = .ok (.getfield 46, 3) := by decide +kernel
theorem dX12_areAllLeading_61 : decode cX12_areAllLeading 61 = .ok (.aload_n 0, 1) := by decide +kernel
theorem dX12_areAllLeading_62 : decode cX12_areAllLeading 62 = .ok (.getfield 33, 3) := by decide +kernel
theorem dX12_areAllLeading_65 : decode cX12_areAllLeading 65 = .ok (.iload_n 2, 1) := by decide +kernel
theorem dX12_areAllLeading_66 : decode cX12_areAllLeading 66 = .ok (.iaload, 1) := by decide +kernel
theorem dX12_areAllLeading_67 : decode cX12_areAllLeading 67 = .ok (.baload, 1) := by decide +kernel
theorem dX12_areAllLeading_68 : decode cX12_areAllLeading 68 = .ok (.ifCond .eq 28, 3) := by decide +kernel
theorem dX12_areAllLeading_71 : decode cX12_areAllLeading 71 = .ok (.aload_n 0, 1) := by decide +kernel
theorem dX12_areAllLeading_72 : decode cX12_areAllLeading 72 = .ok (.getfield 46, 3) := by decide +kernel
theorem dX12_areAllLeading_75 : decode cX12_areAllLeading 75 = .ok (.iload_n 2, 1) := by decide +kernel
theorem dX12_areAllLeading_76 : decode cX12_areAllLeading 76 = .ok (.iconst 2, 1) := by decide +kernel
theorem dX12_areAllLeading_77 : decode cX12_areAllLeading 77 = .ok (.idiv, 1) := by decide +kernel
theorem dX12_areAllLeading_78 : decode cX12_areAllLeading 78 = .ok (.baload, 1) := by decide +kernel
theorem dX12_areAllLeading_79 : decode cX12_areAllLeading 79 = .ok (.ifCond .eq 6, 3) := by decide +kernel
theorem dX12_areAllLeading_82 : decode cX12_areAllLeading 82 = .ok (.goto 14, 3) := by decide +kernel
theorem dX12_areAllLeading_85 : decode cX12_areAllLeading 85 = .ok (.aload_n 0, 1) := by decide +kernel
theorem dX12_areAllLeading_86 : decode cX12_areAllLeading 86 = .ok (.getfield 46, 3) := by decide +kernel
theorem dX12_areAllLeading_89 : decode cX12_areAllLeading 89 = .ok (.iload_n 2, 1) := by decide +kernel
theorem dX12_areAllLeading_90 : decode cX12_areAllLeading 90 = .ok (.iconst 2, 1) := by decide +kernel
theorem dX12_areAllLeading_91 : decode cX12_areAllLeading 91 = .ok (.idiv, 1) := by decide +kernel
theorem dX12_areAllLeading_92 : decode cX12_areAllLeading 92 = .ok (.iconst 1, 1) := by decide +kernel
theorem dX12_areAllLeading_93 : decode cX12_areAllLeading 93 = .ok (.bastore, 1) := by decide +kernel
theorem dX12_areAllLeading_94 : decode cX12_areAllLeading 94 = .ok (.iconst 1, 1) := by decide +kernel
theorem dX12_areAllLeading_95 : decode cX12_areAllLeading 95 = .ok (.istore_n 1, 1) := by decide +kernel
theorem dX12_areAllLeading_96 : decode cX12_areAllLeading 96 = .ok (.iinc 2 1, 3) := by decide +kernel
theorem dX12_areAllLeading_99 : decode cX12_areAllLeading 99 = .ok (.goto (-62), 3) := by decide +kernel
theorem dX12_areAllLeading_102 : decode cX12_areAllLeading 102 = .ok (.goto (-73), 3) := by decide +kernel
theorem dX12_areAllLeading_105 : decode cX12_areAllLeading 105 = .ok (.iconst 0, 1) := by decide +kernel
theorem dX12_areAllLeading_106 : decode cX12_areAllLeading 106 = .ok (.istore_n 2, 1) := by decide +kernel
theorem dX12_areAllLeading_107 : decode cX12_areAllLeading 107 = .ok (.iload_n 2, 1) := by decide +kernel
theorem dX12_areAllLeading_108 : decode cX12_areAllLeading 108 = .ok (.aload_n 0, 1) := by decide +kernel
theorem dX12_areAllLeading_109 : decode cX12_areAllLeading 109 = .ok (.getfield 215, 3) := by decide +kernel
theorem dX12_areAllLeading_112 : decode cX12_areAllLeading 112 = .ok (.if_icmp .ge 20, 3) := by decide +kernel
theorem dX12_areAllLeading_115 : decode cX12_areAllLeading 115 = .ok (.aload_n 0, 1) := by decide +kernel
theorem dX12_areAllLeading_116 : decode cX12_areAllLeading 116 = .ok (.getfield 46, 3) := by decide +kernel
theorem dX12_areAllLeading_119 : decode cX12_areAllLeading 119 = .ok (.iload_n 2, 1) := by decide +kernel
theorem dX12_areAllLeading_120 : decode cX12_areAllLeading 120 = .ok (.baload, 1) := by decide +kernel
theorem dX12_areAllLeading_121 : decode cX12_areAllLeading 121 = .ok (.ifCond .ne 5, 3) := by decide +kernel
theorem dX12_areAllLeading_124 : decode cX12_areAllLeading 124 = .ok (.iconst 0, 1) := by decide +kernel
theorem dX12_areAllLeading_125 : decode cX12_areAllLeading 125 = .ok (.ireturn, 1) := by decide +kernel
theorem dX12_areAllLeading_126 : decode cX12_areAllLeading 126 = .ok (.iinc 2 1, 3) := by decide +kernel
theorem dX12_areAllLeading_129 : decode cX12_areAllLeading 129 = .ok (.goto (-22), 3) := by decide +kernel
theorem dX12_areAllLeading_132 : decode cX12_areAllLeading 132 = .ok (.iconst 1, 1) := by decide +kernel
theorem dX12_areAllLeading_133 : decode cX12_areAllLeading 133 = .ok (.ireturn, 1) := by decide +kernel
theorem dX12_lay_0 : decode cX12_lay 0 = .ok (.aload_n 0, 1) := by decide +kernel
theorem dX12_lay_1 : decode cX12_lay 1 = .ok (.iconst 1, 1) := by decide +kernel
theorem dX12_lay_2 : decode cX12_lay 2 = .ok (.putfield 231, 3) := by decide +kernel
theorem dX12_lay_5 : decode cX12_lay 5 = .ok (.aload_n 0, 1) := by decide +kernel
theorem dX12_lay_6 : decode cX12_lay 6 = .ok (.iconst 0, 1) := by decide +kernel
theorem dX12_lay_7 : decode cX12_lay 7 = .ok (.putfield 235, 3) := by decide +kernel
theorem dX12_lay_10 : decode cX12_lay 10 = .ok (.aload_n 0, 1) := by decide +kernel
theorem dX12_lay_11 : decode cX12_lay 11 = .ok (.invokevirtual 238, 3) := by decide +kernel
theorem dX12_lay_14 : decode cX12_lay 14 = .ok (.aload_n 0, 1) := by decide +kernel
theorem dX12_lay_15 : decode cX12_lay 15 = .ok (.invokevirtual 241, 3) := by decide +kernel
theorem dX12_lay_18 : decode cX12_lay 18 = .ok (.aload_n 0, 1) := by decide +kernel
theorem dX12_lay_19 : decode cX12_lay 19 = .ok (.invokevirtual 244, 3) := by decide +kernel
theorem dX12_lay_22 : decode cX12_lay 22 = .ok (.aload_n 0, 1) := by decide +kernel
theorem dX12_lay_23 : decode cX12_lay 23 = .ok (.invokevirtual 247, 3) := by decide +kernel
theorem dX12_lay_26 : decode cX12_lay 26 = .ok (.aload_n 0, 1) := by decide +kernel
theorem dX12_lay_27 : decode cX12_lay 27 = .ok (.invokevirtual 244, 3) := by decide +kernel
theorem dX12_lay_30 : decode cX12_lay 30 = .ok (.aload_n 0, 1) := by decide +kernel
theorem dX12_lay_31 : decode cX12_lay 31 = .ok (.aload_n 0, 1) := by decide +kernel
theorem dX12_lay_32 : decode cX12_lay 32 = .ok (.invokevirtual 250, 3) := by decide +kernel
theorem dX12_lay_35 : decode cX12_lay 35 = .ok (.putfield 253, 3) := by decide +kernel
theorem dX12_lay_38 : decode cX12_lay 38 = .ok (.iconst 0, 1) := by decide +kernel
theorem dX12_lay_39 : decode cX12_lay 39 = .ok (.istore_n 1, 1) := by decide +kernel
theorem dX12_lay_40 : decode cX12_lay 40 = .ok (.iload_n 1, 1) := by decide +kernel
theorem dX12_lay_41 : decode cX12_lay 41 = .ok (.aload_n 0, 1) := by decide +kernel
theorem dX12_lay_42 : decode cX12_lay 42 = .ok (.iconst 2, 1) := by decide +kernel
theorem dX12_lay_43 : decode cX12_lay 43 = .ok (.invokevirtual 218, 3) := by decide +kernel
theorem dX12_lay_46 : decode cX12_lay 46 = .ok (.if_icmp .ge 14, 3) := by decide +kernel
theorem dX12_lay_49 : decode cX12_lay 49 = .ok (.aload_n 0, 1) := by decide +kernel
theorem dX12_lay_50 : decode cX12_lay 50 = .ok (.iload_n 1, 1) := by decide +kernel
theorem dX12_lay_51 : decode cX12_lay 51 = .ok (.invokevirtual 256, 3) := by decide +kernel
theorem dX12_lay_54 : decode cX12_lay 54 = .ok (.iinc 1 1, 3) := by decide +kernel
theorem dX12_lay_57 : decode cX12_lay 57 = .ok (.goto (-17), 3) := by decide +kernel
theorem dX12_lay_60 : decode cX12_lay 60 = .ok (.aload_n 0, 1) := by decide +kernel
theorem dX12_lay_61 : decode cX12_lay 61 = .ok (.invokevirtual 259, 3) := by decide +kernel
theorem dX12_lay_64 : decode cX12_lay 64 = .ok (.aload_n 0, 1) := by decide +kernel
theorem dX12_lay_65 : decode cX12_lay 65 = .ok (.invokevirtual 262, 3) := by decide +kernel
theorem dX12_lay_68 : decode cX12_lay 68 = .ok (.aload_n 0, 1) := by decide +kernel
theorem dX12_lay_69 : decode cX12_lay 69 = .ok (.invokevirtual 265, 3) := by decide +kernel
theorem dX12_lay_72 : decode cX12_lay 72 = .ok (.return_, 1) := by decide +kernel
theorem dX12_countNodes_0 : decode cX12_countNodes 0 = .ok (.iconst 0, 1) := by decide +kernel
theorem dX12_countNodes_1 : decode cX12_countNodes 1 = .ok (.istore_n 2, 1) := by decide +kernel
theorem dX12_countNodes_2 : decode cX12_countNodes 2 = .ok (.iconst 0, 1) := by decide +kernel
theorem dX12_countNodes_3 : decode cX12_countNodes 3 = .ok (.istore_n 3, 1) := by decide +kernel
theorem dX12_countNodes_4 : decode cX12_countNodes 4 = .ok (.iload_n 3, 1) := by decide +kernel
theorem dX12_countNodes_5 : decode cX12_countNodes 5 = .ok (.aload_n 0, 1) := by decide +kernel
theorem dX12_countNodes_6 : decode cX12_countNodes 6 = .ok (.getfield 215, 3) := by decide +kernel
theorem dX12_countNodes_9 : decode cX12_countNodes 9 = .ok (.if_icmp .ge 48, 3) := by decide +kernel
theorem dX12_countNodes_12 : decode cX12_countNodes 12 = .ok (.iload_n 2, 1) := by decide +kernel
theorem dX12_countNodes_13 : decode cX12_countNodes 13 = .ok (.iload_n 1, 1) := by decide +kernel
theorem dX12_countNodes_14 : decode cX12_countNodes 14 = .ok (.iconst (-1), 1) := by decide +kernel
theorem dX12_countNodes_15 : decode cX12_countNodes 15 = .ok (.if_icmp .ne 19, 3) := by decide +kernel
theorem dX12_countNodes_18 : decode cX12_countNodes 18 = .ok (.aload_n 0, 1) := by decide +kernel
theorem dX12_countNodes_19 : decode cX12_countNodes 19 = .ok (.iload_n 3, 1) := by decide +kernel
theorem dX12_countNodes_20 : decode cX12_countNodes 20 = .ok (.invokevirtual 228, 3) := by decide +kernel
theorem dX12_countNodes_23 : decode cX12_countNodes 23 = .ok (.ifCond .eq 7, 3) := by decide +kernel
theorem dX12_countNodes_26 : decode cX12_countNodes 26 = .ok (.iconst 1, 1) := by decide +kernel
theorem dX12_countNodes_27 : decode cX12_countNodes 27 = .ok (.goto 22, 3) := by decide +kernel
theorem dX12_countNodes_30 : decode cX12_countNodes 30 = .ok (.iconst 0, 1) := by decide +kernel
theorem dX12_countNodes_31 : decode cX12_countNodes 31 = .ok (.goto 18, 3) := by decide +kernel
theorem dX12_countNodes_34 : decode cX12_countNodes 34 = .ok (.aload_n 0, 1) := by decide +kernel
theorem dX12_countNodes_35 : decode cX12_countNodes 35 = .ok (.getfield 24, 3) := by decide +kernel
theorem dX12_countNodes_38 : decode cX12_countNodes 38 = .ok (.iload_n 3, 1) := by decide +kernel
theorem dX12_countNodes_39 : decode cX12_countNodes 39 = .ok (.iaload, 1) := by decide +kernel
theorem dX12_countNodes_40 : decode cX12_countNodes 40 = .ok (.iload_n 1, 1) := by decide +kernel
theorem dX12_countNodes_41 : decode cX12_countNodes 41 = .ok (.if_icmp .ne 7, 3) := by decide +kernel
theorem dX12_countNodes_44 : decode cX12_countNodes 44 = .ok (.iconst 1, 1) := by decide +kernel
theorem dX12_countNodes_45 : decode cX12_countNodes 45 = .ok (.goto 4, 3) := by decide +kernel
theorem dX12_countNodes_48 : decode cX12_countNodes 48 = .ok (.iconst 0, 1) := by decide +kernel
theorem dX12_countNodes_49 : decode cX12_countNodes 49 = .ok (.iadd, 1) := by decide +kernel
theorem dX12_countNodes_50 : decode cX12_countNodes 50 = .ok (.istore_n 2, 1) := by decide +kernel
theorem dX12_countNodes_51 : decode cX12_countNodes 51 = .ok (.iinc 3 1, 3) := by decide +kernel
theorem dX12_countNodes_54 : decode cX12_countNodes 54 = .ok (.goto (-50), 3) := by decide +kernel
theorem dX12_countNodes_57 : decode cX12_countNodes 57 = .ok (.iload_n 2, 1) := by decide +kernel
theorem dX12_countNodes_58 : decode cX12_countNodes 58 = .ok (.ireturn, 1) := by decide +kernel
theorem dX12_edges_0 : decode cX12_edges 0 = .ok (.iconst 0, 1) := by decide +kernel
theorem dX12_edges_1 : decode cX12_edges 1 = .ok (.istore_n 1, 1) := by decide +kernel
theorem dX12_edges_2 : decode cX12_edges 2 = .ok (.iconst 0, 1) := by decide +kernel
theorem dX12_edges_3 : decode cX12_edges 3 = .ok (.istore_n 2, 1) := by decide +kernel
theorem dX12_edges_4 : decode cX12_edges 4 = .ok (.iload_n 2, 1) := by decide +kernel
theorem dX12_edges_5 : decode cX12_edges 5 = .ok (.aload_n 0, 1) := by decide +kernel
theorem dX12_edges_6 : decode cX12_edges 6 = .ok (.getfield 215, 3) := by decide +kernel
theorem dX12_edges_9 : decode cX12_edges 9 = .ok (.if_icmp .ge 18, 3) := by decide +kernel
theorem dX12_edges_12 : decode cX12_edges 12 = .ok (.iload_n 1, 1) := by decide +kernel
theorem dX12_edges_13 : decode cX12_edges 13 = .ok (.aload_n 0, 1) := by decide +kernel
theorem dX12_edges_14 : decode cX12_edges 14 = .ok (.getfield 36, 3) := by decide +kernel
theorem dX12_edges_17 : decode cX12_edges 17 = .ok (.iload_n 2, 1) := by decide +kernel
theorem dX12_edges_18 : decode cX12_edges 18 = .ok (.iaload, 1) := by decide +kernel
theorem dX12_edges_19 : decode cX12_edges 19 = .ok (.iadd, 1) := by decide +kernel
theorem dX12_edges_20 : decode cX12_edges 20 = .ok (.istore_n 1, 1) := by decide +kernel
theorem dX12_edges_21 : decode cX12_edges 21 = .ok (.iinc 2 1, 3) := by decide +kernel
theorem dX12_edges_24 : decode cX12_edges 24 = .ok (.goto (-20), 3) := by decide +kernel
theorem dX12_edges_27 : decode cX12_edges 27 = .ok (.iload_n 1, 1) := by decide +kernel
theorem dX12_edges_28 : decode cX12_edges 28 = .ok (.ireturn, 1) := by decide +kernel
theorem dX12_is_0 : decode cX12_is 0 = .ok (.iload_n 1, 1) := by decide +kernel
theorem dX12_is_1 : decode cX12_is 1 = .ok (.tableswitch 117 0 7 #[47, 64, 69, 75, 80, 86, 106, 112], 47) := by decide +kernel
theorem dX12_is_48 : decode cX12_is 48 = .ok (.aload_n 0, 1) := by decide +kernel
theorem dX12_is_49 : decode cX12_is 49 = .ok (.getfield 231, 3) := by decide +kernel
theorem dX12_is_52 : decode cX12_is 52 = .ok (.ifCond .eq 11, 3) := by decide +kernel
theorem dX12_is_55 : decode cX12_is 55 = .ok (.aload_n 0, 1) := by decide +kernel
theorem dX12_is_56 : decode cX12_is 56 = .ok (.iconst 0, 1) := by decide +kernel
theorem dX12_is_57 : decode cX12_is 57 = .ok (.invokevirtual 218, 3) := by decide +kernel
theorem dX12_is_60 : decode cX12_is 60 = .ok (.goto 4, 3) := by decide +kernel
theorem dX12_is_63 : decode cX12_is 63 = .ok (.iconst 0, 1) := by decide +kernel
theorem dX12_is_64 : decode cX12_is 64 = .ok (.ireturn, 1) := by decide +kernel
theorem dX12_is_65 : decode cX12_is 65 = .ok (.aload_n 0, 1) := by decide +kernel
theorem dX12_is_66 : decode cX12_is 66 = .ok (.getfield 215, 3) := by decide +kernel
theorem dX12_is_69 : decode cX12_is 69 = .ok (.ireturn, 1) := by decide +kernel
theorem dX12_is_70 : decode cX12_is 70 = .ok (.aload_n 0, 1) := by decide +kernel
theorem dX12_is_71 : decode cX12_is 71 = .ok (.iconst 2, 1) := by decide +kernel
theorem dX12_is_72 : decode cX12_is 72 = .ok (.invokevirtual 218, 3) := by decide +kernel
theorem dX12_is_75 : decode cX12_is 75 = .ok (.ireturn, 1) := by decide +kernel
theorem dX12_is_76 : decode cX12_is 76 = .ok (.aload_n 0, 1) := by decide +kernel
theorem dX12_is_77 : decode cX12_is 77 = .ok (.invokevirtual 268, 3) := by decide +kernel
theorem dX12_is_80 : decode cX12_is 80 = .ok (.ireturn, 1) := by decide +kernel
theorem dX12_is_81 : decode cX12_is 81 = .ok (.aload_n 0, 1) := by decide +kernel
theorem dX12_is_82 : decode cX12_is 82 = .ok (.iconst 0, 1) := by decide +kernel
theorem dX12_is_83 : decode cX12_is 83 = .ok (.invokevirtual 271, 3) := by decide +kernel
theorem dX12_is_86 : decode cX12_is 86 = .ok (.ireturn, 1) := by decide +kernel
theorem dX12_is_87 : decode cX12_is 87 = .ok (.aload_n 0, 1) := by decide +kernel
theorem dX12_is_88 : decode cX12_is 88 = .ok (.getfield 231, 3) := by decide +kernel
theorem dX12_is_91 : decode cX12_is 91 = .ok (.ifCond .eq 14, 3) := by decide +kernel
theorem dX12_is_94 : decode cX12_is 94 = .ok (.aload_n 0, 1) := by decide +kernel
theorem dX12_is_95 : decode cX12_is 95 = .ok (.getfield 253, 3) := by decide +kernel
theorem dX12_is_98 : decode cX12_is 98 = .ok (.ifCond .eq 7, 3) := by decide +kernel
theorem dX12_is_101 : decode cX12_is 101 = .ok (.iconst 1, 1) := by decide +kernel
theorem dX12_is_102 : decode cX12_is 102 = .ok (.goto 4, 3) := by decide +kernel
theorem dX12_is_105 : decode cX12_is 105 = .ok (.iconst 0, 1) := by decide +kernel
theorem dX12_is_106 : decode cX12_is 106 = .ok (.ireturn, 1) := by decide +kernel
theorem dX12_is_107 : decode cX12_is 107 = .ok (.aload_n 0, 1) := by decide +kernel
theorem dX12_is_108 : decode cX12_is 108 = .ok (.iconst (-1), 1) := by decide +kernel
theorem dX12_is_109 : decode cX12_is 109 = .ok (.invokevirtual 271, 3) := by decide +kernel
theorem dX12_is_112 : decode cX12_is 112 = .ok (.ireturn, 1) := by decide +kernel
theorem dX12_is_113 : decode cX12_is 113 = .ok (.aload_n 0, 1) := by decide +kernel
theorem dX12_is_114 : decode cX12_is 114 = .ok (.getfield 134, 3) := by decide +kernel
theorem dX12_is_117 : decode cX12_is 117 = .ok (.ireturn, 1) := by decide +kernel
theorem dX12_is_118 : decode cX12_is 118 = .ok (.iconst (-1), 1) := by decide +kernel
theorem dX12_is_119 : decode cX12_is 119 = .ok (.ireturn, 1) := by decide +kernel
theorem dX12_isNode_0 : decode cX12_isNode 0 = .ok (.iload_n 1, 1) := by decide +kernel
theorem dX12_isNode_1 : decode cX12_isNode 1 = .ok (.iconst 0, 1) := by decide +kernel
theorem dX12_isNode_2 : decode cX12_isNode 2 = .ok (.aload_n 0, 1) := by decide +kernel
theorem dX12_isNode_3 : decode cX12_isNode 3 = .ok (.getfield 215, 3) := by decide +kernel
theorem dX12_isNode_6 : decode cX12_isNode 6 = .ok (.iconst 1, 1) := by decide +kernel
theorem dX12_isNode_7 : decode cX12_isNode 7 = .ok (.isub, 1) := by decide +kernel
theorem dX12_isNode_8 : decode cX12_isNode 8 = .ok (.invokestatic 141, 3) := by decide +kernel
theorem dX12_isNode_11 : decode cX12_isNode 11 = .ok (.ireturn, 1) := by decide +kernel
theorem dX12_isExpression_0 : decode cX12_isExpression 0 = .ok (.iload_n 1, 1) := by decide +kernel
theorem dX12_isExpression_1 : decode cX12_isExpression 1 = .ok (.iconst 0, 1) := by decide +kernel
theorem dX12_isExpression_2 : decode cX12_isExpression 2 = .ok (.aload_n 0, 1) := by decide +kernel
theorem dX12_isExpression_3 : decode cX12_isExpression 3 = .ok (.iconst 2, 1) := by decide +kernel
theorem dX12_isExpression_4 : decode cX12_isExpression 4 = .ok (.invokevirtual 218, 3) := by decide +kernel
theorem dX12_isExpression_7 : decode cX12_isExpression 7 = .ok (.iconst 1, 1) := by decide +kernel
theorem dX12_isExpression_8 : decode cX12_isExpression 8 = .ok (.isub, 1) := by decide +kernel
theorem dX12_isExpression_9 : decode cX12_isExpression 9 = .ok (.invokestatic 141, 3) := by decide +kernel
theorem dX12_isExpression_12 : decode cX12_isExpression 12 = .ok (.ireturn, 1) := by decide +kernel
theorem dX12_expressionOf_0 : decode cX12_expressionOf 0 = .ok (.aload_n 0, 1) := by decide +kernel
theorem dX12_expressionOf_1 : decode cX12_expressionOf 1 = .ok (.getfield 24, 3) := by decide +kernel
theorem dX12_expressionOf_4 : decode cX12_expressionOf 4 = .ok (.iload_n 1, 1) := by decide +kernel
theorem dX12_expressionOf_5 : decode cX12_expressionOf 5 = .ok (.iaload, 1) := by decide +kernel
theorem dX12_expressionOf_6 : decode cX12_expressionOf 6 = .ok (.iconst 2, 1) := by decide +kernel
theorem dX12_expressionOf_7 : decode cX12_expressionOf 7 = .ok (.if_icmp .ne 19, 3) := by decide +kernel
theorem dX12_expressionOf_10 : decode cX12_expressionOf 10 = .ok (.aload_n 0, 1) := by decide +kernel
theorem dX12_expressionOf_11 : decode cX12_expressionOf 11 = .ok (.bipush 124, 2) := by decide +kernel
theorem dX12_expressionOf_13 : decode cX12_expressionOf 13 = .ok (.aload_n 0, 1) := by decide +kernel
theorem dX12_expressionOf_14 : decode cX12_expressionOf 14 = .ok (.getfield 30, 3) := by decide +kernel
theorem dX12_expressionOf_17 : decode cX12_expressionOf 17 = .ok (.iload_n 1, 1) := by decide +kernel
theorem dX12_expressionOf_18 : decode cX12_expressionOf 18 = .ok (.iaload, 1) := by decide +kernel
theorem dX12_expressionOf_19 : decode cX12_expressionOf 19 = .ok (.iadd, 1) := by decide +kernel
theorem dX12_expressionOf_20 : decode cX12_expressionOf 20 = .ok (.invokevirtual 218, 3) := by decide +kernel
theorem dX12_expressionOf_23 : decode cX12_expressionOf 23 = .ok (.goto 4, 3) := by decide +kernel
theorem dX12_expressionOf_26 : decode cX12_expressionOf 26 = .ok (.iconst (-1), 1) := by decide +kernel
theorem dX12_expressionOf_27 : decode cX12_expressionOf 27 = .ok (.ireturn, 1) := by decide +kernel
theorem dX12_changed_0 : decode cX12_changed 0 = .ok (.aload_n 0, 1) := by decide +kernel
theorem dX12_changed_1 : decode cX12_changed 1 = .ok (.getfield 24, 3) := by decide +kernel
theorem dX12_changed_4 : decode cX12_changed 4 = .ok (.iload_n 1, 1) := by decide +kernel
theorem dX12_changed_5 : decode cX12_changed 5 = .ok (.iaload, 1) := by decide +kernel
theorem dX12_changed_6 : decode cX12_changed 6 = .ok (.iconst 1, 1) := by decide +kernel
theorem dX12_changed_7 : decode cX12_changed 7 = .ok (.if_icmp .eq 13, 3) := by decide +kernel
theorem dX12_changed_10 : decode cX12_changed 10 = .ok (.aload_n 0, 1) := by decide +kernel
theorem dX12_changed_11 : decode cX12_changed 11 = .ok (.getfield 24, 3) := by decide +kernel
theorem dX12_changed_14 : decode cX12_changed 14 = .ok (.iload_n 1, 1) := by decide +kernel
theorem dX12_changed_15 : decode cX12_changed 15 = .ok (.iaload, 1) := by decide +kernel
theorem dX12_changed_16 : decode cX12_changed 16 = .ok (.iconst 2, 1) := by decide +kernel
theorem dX12_changed_17 : decode cX12_changed 17 = .ok (.if_icmp .ne 19, 3) := by decide +kernel
theorem dX12_changed_20 : decode cX12_changed 20 = .ok (.aload_n 0, 1) := by decide +kernel
theorem dX12_changed_21 : decode cX12_changed 21 = .ok (.bipush 64, 2) := by decide +kernel
theorem dX12_changed_23 : decode cX12_changed 23 = .ok (.aload_n 0, 1) := by decide +kernel
theorem dX12_changed_24 : decode cX12_changed 24 = .ok (.getfield 30, 3) := by decide +kernel
theorem dX12_changed_27 : decode cX12_changed 27 = .ok (.iload_n 1, 1) := by decide +kernel
theorem dX12_changed_28 : decode cX12_changed 28 = .ok (.iaload, 1) := by decide +kernel
theorem dX12_changed_29 : decode cX12_changed 29 = .ok (.iadd, 1) := by decide +kernel
theorem dX12_changed_30 : decode cX12_changed 30 = .ok (.invokevirtual 218, 3) := by decide +kernel
theorem dX12_changed_33 : decode cX12_changed 33 = .ok (.goto 4, 3) := by decide +kernel
theorem dX12_changed_36 : decode cX12_changed 36 = .ok (.iconst (-1), 1) := by decide +kernel
theorem dX12_changed_37 : decode cX12_changed 37 = .ok (.ireturn, 1) := by decide +kernel
theorem dX12_letterOf_0 : decode cX12_letterOf 0 = .ok (.aload_n 0, 1) := by decide +kernel
theorem dX12_letterOf_1 : decode cX12_letterOf 1 = .ok (.getfield 24, 3) := by decide +kernel
theorem dX12_letterOf_4 : decode cX12_letterOf 4 = .ok (.iload_n 1, 1) := by decide +kernel
theorem dX12_letterOf_5 : decode cX12_letterOf 5 = .ok (.iaload, 1) := by decide +kernel
theorem dX12_letterOf_6 : decode cX12_letterOf 6 = .ok (.iconst 5, 1) := by decide +kernel
theorem dX12_letterOf_7 : decode cX12_letterOf 7 = .ok (.if_icmp .ne 20, 3) := by decide +kernel
theorem dX12_letterOf_10 : decode cX12_letterOf 10 = .ok (.aload_n 0, 1) := by decide +kernel
theorem dX12_letterOf_11 : decode cX12_letterOf 11 = .ok (.sipush 220, 3) := by decide +kernel
theorem dX12_letterOf_14 : decode cX12_letterOf 14 = .ok (.aload_n 0, 1) := by decide +kernel
theorem dX12_letterOf_15 : decode cX12_letterOf 15 = .ok (.getfield 27, 3) := by decide +kernel
theorem dX12_letterOf_18 : decode cX12_letterOf 18 = .ok (.iload_n 1, 1) := by decide +kernel
theorem dX12_letterOf_19 : decode cX12_letterOf 19 = .ok (.iaload, 1) := by decide +kernel
theorem dX12_letterOf_20 : decode cX12_letterOf 20 = .ok (.iadd, 1) := by decide +kernel
theorem dX12_letterOf_21 : decode cX12_letterOf 21 = .ok (.invokevirtual 218, 3) := by decide +kernel
theorem dX12_letterOf_24 : decode cX12_letterOf 24 = .ok (.goto 8, 3) := by decide +kernel
theorem dX12_letterOf_27 : decode cX12_letterOf 27 = .ok (.aload_n 0, 1) := by decide +kernel
theorem dX12_letterOf_28 : decode cX12_letterOf 28 = .ok (.iload_n 1, 1) := by decide +kernel
theorem dX12_letterOf_29 : decode cX12_letterOf 29 = .ok (.invokevirtual 274, 3) := by decide +kernel
theorem dX12_letterOf_32 : decode cX12_letterOf 32 = .ok (.ireturn, 1) := by decide +kernel
theorem dX12_node_0 : decode cX12_node 0 = .ok (.aload_n 0, 1) := by decide +kernel
theorem dX12_node_1 : decode cX12_node 1 = .ok (.iload_n 1, 1) := by decide +kernel
theorem dX12_node_2 : decode cX12_node 2 = .ok (.invokevirtual 277, 3) := by decide +kernel
theorem dX12_node_5 : decode cX12_node 5 = .ok (.ifCond .ne 6, 3) := by decide +kernel
theorem dX12_node_8 : decode cX12_node 8 = .ok (.bipush (-2), 2) := by decide +kernel
theorem dX12_node_10 : decode cX12_node 10 = .ok (.ireturn, 1) := by decide +kernel
theorem dX12_node_11 : decode cX12_node 11 = .ok (.iload_n 2, 1) := by decide +kernel
theorem dX12_node_12 : decode cX12_node 12 = .ok (.tableswitch 139 0 7 #[48, 55, 62, 68, 74, 112, 119, 128], 48) := by decide +kernel
theorem dX12_node_60 : decode cX12_node 60 = .ok (.aload_n 0, 1) := by decide +kernel
theorem dX12_node_61 : decode cX12_node 61 = .ok (.getfield 24, 3) := by decide +kernel
theorem dX12_node_64 : decode cX12_node 64 = .ok (.iload_n 1, 1) := by decide +kernel
theorem dX12_node_65 : decode cX12_node 65 = .ok (.iaload, 1) := by decide +kernel
theorem dX12_node_66 : decode cX12_node 66 = .ok (.ireturn, 1) := by decide +kernel
theorem dX12_node_67 : decode cX12_node 67 = .ok (.aload_n 0, 1) := by decide +kernel
theorem dX12_node_68 : decode cX12_node 68 = .ok (.getfield 27, 3) := by decide +kernel
theorem dX12_node_71 : decode cX12_node 71 = .ok (.iload_n 1, 1) := by decide +kernel
theorem dX12_node_72 : decode cX12_node 72 = .ok (.iaload, 1) := by decide +kernel
theorem dX12_node_73 : decode cX12_node 73 = .ok (.ireturn, 1) := by decide +kernel
theorem dX12_node_74 : decode cX12_node 74 = .ok (.aload_n 0, 1) := by decide +kernel
theorem dX12_node_75 : decode cX12_node 75 = .ok (.iload_n 1, 1) := by decide +kernel
theorem dX12_node_76 : decode cX12_node 76 = .ok (.invokevirtual 280, 3) := by decide +kernel
theorem dX12_node_79 : decode cX12_node 79 = .ok (.ireturn, 1) := by decide +kernel
theorem dX12_node_80 : decode cX12_node 80 = .ok (.aload_n 0, 1) := by decide +kernel
theorem dX12_node_81 : decode cX12_node 81 = .ok (.iload_n 1, 1) := by decide +kernel
theorem dX12_node_82 : decode cX12_node 82 = .ok (.invokevirtual 283, 3) := by decide +kernel
theorem dX12_node_85 : decode cX12_node 85 = .ok (.ireturn, 1) := by decide +kernel
theorem dX12_node_86 : decode cX12_node 86 = .ok (.aload_n 0, 1) := by decide +kernel
theorem dX12_node_87 : decode cX12_node 87 = .ok (.getfield 33, 3) := by decide +kernel
theorem dX12_node_90 : decode cX12_node 90 = .ok (.iconst 2, 1) := by decide +kernel
theorem dX12_node_91 : decode cX12_node 91 = .ok (.iload_n 1, 1) := by decide +kernel
theorem dX12_node_92 : decode cX12_node 92 = .ok (.imul, 1) := by decide +kernel
theorem dX12_node_93 : decode cX12_node 93 = .ok (.iaload, 1) := by decide +kernel
theorem dX12_node_94 : decode cX12_node 94 = .ok (.iconst (-1), 1) := by decide +kernel
theorem dX12_node_95 : decode cX12_node 95 = .ok (.if_icmp .eq 7, 3) := by decide +kernel
theorem dX12_node_98 : decode cX12_node 98 = .ok (.iconst 1, 1) := by decide +kernel
theorem dX12_node_99 : decode cX12_node 99 = .ok (.goto 4, 3) := by decide +kernel
theorem dX12_node_102 : decode cX12_node 102 = .ok (.iconst 0, 1) := by decide +kernel
theorem dX12_node_103 : decode cX12_node 103 = .ok (.aload_n 0, 1) := by decide +kernel
theorem dX12_node_104 : decode cX12_node 104 = .ok (.getfield 33, 3) := by decide +kernel
theorem dX12_node_107 : decode cX12_node 107 = .ok (.iconst 2, 1) := by decide +kernel
theorem dX12_node_108 : decode cX12_node 108 = .ok (.iload_n 1, 1) := by decide +kernel
theorem dX12_node_109 : decode cX12_node 109 = .ok (.imul, 1) := by decide +kernel
theorem dX12_node_110 : decode cX12_node 110 = .ok (.iconst 1, 1) := by decide +kernel
theorem dX12_node_111 : decode cX12_node 111 = .ok (.iadd, 1) := by decide +kernel
theorem dX12_node_112 : decode cX12_node 112 = .ok (.iaload, 1) := by decide +kernel
theorem dX12_node_113 : decode cX12_node 113 = .ok (.iconst (-1), 1) := by decide +kernel
theorem dX12_node_114 : decode cX12_node 114 = .ok (.if_icmp .eq 7, 3) := by decide +kernel
theorem dX12_node_117 : decode cX12_node 117 = .ok (.iconst 1, 1) := by decide +kernel
theorem dX12_node_118 : decode cX12_node 118 = .ok (.goto 4, 3) := by decide +kernel
theorem dX12_node_121 : decode cX12_node 121 = .ok (.iconst 0, 1) := by decide +kernel
theorem dX12_node_122 : decode cX12_node 122 = .ok (.iadd, 1) := by decide +kernel
theorem dX12_node_123 : decode cX12_node 123 = .ok (.ireturn, 1) := by decide +kernel
theorem dX12_node_124 : decode cX12_node 124 = .ok (.aload_n 0, 1) := by decide +kernel
theorem dX12_node_125 : decode cX12_node 125 = .ok (.getfield 36, 3) := by decide +kernel
theorem dX12_node_128 : decode cX12_node 128 = .ok (.iload_n 1, 1) := by decide +kernel
theorem dX12_node_129 : decode cX12_node 129 = .ok (.iaload, 1) := by decide +kernel
theorem dX12_node_130 : decode cX12_node 130 = .ok (.ireturn, 1) := by decide +kernel
theorem dX12_node_131 : decode cX12_node 131 = .ok (.aload_n 0, 1) := by decide +kernel
theorem dX12_node_132 : decode cX12_node 132 = .ok (.getfield 33, 3) := by decide +kernel
theorem dX12_node_135 : decode cX12_node 135 = .ok (.iconst 2, 1) := by decide +kernel
theorem dX12_node_136 : decode cX12_node 136 = .ok (.iload_n 1, 1) := by decide +kernel
theorem dX12_node_137 : decode cX12_node 137 = .ok (.imul, 1) := by decide +kernel
theorem dX12_node_138 : decode cX12_node 138 = .ok (.iaload, 1) := by decide +kernel
theorem dX12_node_139 : decode cX12_node 139 = .ok (.ireturn, 1) := by decide +kernel
theorem dX12_node_140 : decode cX12_node 140 = .ok (.aload_n 0, 1) := by decide +kernel
theorem dX12_node_141 : decode cX12_node 141 = .ok (.getfield 33, 3) := by decide +kernel
theorem dX12_node_144 : decode cX12_node 144 = .ok (.iconst 2, 1) := by decide +kernel
theorem dX12_node_145 : decode cX12_node 145 = .ok (.iload_n 1, 1) := by decide +kernel
theorem dX12_node_146 : decode cX12_node 146 = .ok (.imul, 1) := by decide +kernel
theorem dX12_node_147 : decode cX12_node 147 = .ok (.iconst 1, 1) := by decide +kernel
theorem dX12_node_148 : decode cX12_node 148 = .ok (.iadd, 1) := by decide +kernel
theorem dX12_node_149 : decode cX12_node 149 = .ok (.iaload, 1) := by decide +kernel
theorem dX12_node_150 : decode cX12_node 150 = .ok (.ireturn, 1) := by decide +kernel
theorem dX12_node_151 : decode cX12_node 151 = .ok (.bipush (-2), 2) := by decide +kernel
theorem dX12_node_153 : decode cX12_node 153 = .ok (.ireturn, 1) := by decide +kernel
theorem dX12_isRisky_0 : decode cX12_isRisky 0 = .ok (.aload_n 0, 1) := by decide +kernel
theorem dX12_isRisky_1 : decode cX12_isRisky 1 = .ok (.sipush 268, 3) := by decide +kernel
theorem dX12_isRisky_4 : decode cX12_isRisky 4 = .ok (.iload_n 1, 1) := by decide +kernel
theorem dX12_isRisky_5 : decode cX12_isRisky 5 = .ok (.iadd, 1) := by decide +kernel
theorem dX12_isRisky_6 : decode cX12_isRisky 6 = .ok (.invokevirtual 218, 3) := by decide +kernel
theorem dX12_isRisky_9 : decode cX12_isRisky 9 = .ok (.bipush 47, 2) := by decide +kernel
theorem dX12_isRisky_11 : decode cX12_isRisky 11 = .ok (.if_icmp .eq 17, 3) := by decide +kernel
theorem dX12_isRisky_14 : decode cX12_isRisky 14 = .ok (.aload_n 0, 1) := by decide +kernel
theorem dX12_isRisky_15 : decode cX12_isRisky 15 = .ok (.sipush 268, 3) := by decide +kernel
theorem dX12_isRisky_18 : decode cX12_isRisky 18 = .ok (.iload_n 1, 1) := by decide +kernel
theorem dX12_isRisky_19 : decode cX12_isRisky 19 = .ok (.iadd, 1) := by decide +kernel
theorem dX12_isRisky_20 : decode cX12_isRisky 20 = .ok (.invokevirtual 218, 3) := by decide +kernel
theorem dX12_isRisky_23 : decode cX12_isRisky 23 = .ok (.bipush 37, 2) := by decide +kernel
theorem dX12_isRisky_25 : decode cX12_isRisky 25 = .ok (.if_icmp .ne 25, 3) := by decide +kernel
theorem dX12_isRisky_28 : decode cX12_isRisky 28 = .ok (.aload_n 0, 1) := by decide +kernel
theorem dX12_isRisky_29 : decode cX12_isRisky 29 = .ok (.sipush 292, 3) := by decide +kernel
theorem dX12_isRisky_32 : decode cX12_isRisky 32 = .ok (.iconst 2, 1) := by decide +kernel
theorem dX12_isRisky_33 : decode cX12_isRisky 33 = .ok (.iload_n 1, 1) := by decide +kernel
theorem dX12_isRisky_34 : decode cX12_isRisky 34 = .ok (.imul, 1) := by decide +kernel
theorem dX12_isRisky_35 : decode cX12_isRisky 35 = .ok (.iadd, 1) := by decide +kernel
theorem dX12_isRisky_36 : decode cX12_isRisky 36 = .ok (.iconst 1, 1) := by decide +kernel
theorem dX12_isRisky_37 : decode cX12_isRisky 37 = .ok (.iadd, 1) := by decide +kernel
theorem dX12_isRisky_38 : decode cX12_isRisky 38 = .ok (.invokevirtual 218, 3) := by decide +kernel
theorem dX12_isRisky_41 : decode cX12_isRisky 41 = .ok (.bipush 27, 2) := by decide +kernel
theorem dX12_isRisky_43 : decode cX12_isRisky 43 = .ok (.if_icmp .ge 7, 3) := by decide +kernel
theorem dX12_isRisky_46 : decode cX12_isRisky 46 = .ok (.iconst 1, 1) := by decide +kernel
theorem dX12_isRisky_47 : decode cX12_isRisky 47 = .ok (.goto 4, 3) := by decide +kernel
theorem dX12_isRisky_50 : decode cX12_isRisky 50 = .ok (.iconst 0, 1) := by decide +kernel
theorem dX12_isRisky_51 : decode cX12_isRisky 51 = .ok (.ireturn, 1) := by decide +kernel
theorem dX12_risky_0 : decode cX12_risky 0 = .ok (.iconst 0, 1) := by decide +kernel
theorem dX12_risky_1 : decode cX12_risky 1 = .ok (.istore_n 1, 1) := by decide +kernel
theorem dX12_risky_2 : decode cX12_risky 2 = .ok (.iconst 0, 1) := by decide +kernel
theorem dX12_risky_3 : decode cX12_risky 3 = .ok (.istore_n 2, 1) := by decide +kernel
theorem dX12_risky_4 : decode cX12_risky 4 = .ok (.iload_n 2, 1) := by decide +kernel
theorem dX12_risky_5 : decode cX12_risky 5 = .ok (.aload_n 0, 1) := by decide +kernel
theorem dX12_risky_6 : decode cX12_risky 6 = .ok (.iconst 2, 1) := by decide +kernel
theorem dX12_risky_7 : decode cX12_risky 7 = .ok (.invokevirtual 218, 3) := by decide +kernel
theorem dX12_risky_10 : decode cX12_risky 10 = .ok (.if_icmp .ge 25, 3) := by decide +kernel
theorem dX12_risky_13 : decode cX12_risky 13 = .ok (.iload_n 1, 1) := by decide +kernel
theorem dX12_risky_14 : decode cX12_risky 14 = .ok (.aload_n 0, 1) := by decide +kernel
theorem dX12_risky_15 : decode cX12_risky 15 = .ok (.iload_n 2, 1) := by decide +kernel
theorem dX12_risky_16 : decode cX12_risky 16 = .ok (.invokevirtual 286, 3) := by decide +kernel
theorem dX12_risky_19 : decode cX12_risky 19 = .ok (.ifCond .eq 7, 3) := by decide +kernel
theorem dX12_risky_22 : decode cX12_risky 22 = .ok (.iconst 1, 1) := by decide +kernel
theorem dX12_risky_23 : decode cX12_risky 23 = .ok (.goto 4, 3) := by decide +kernel
theorem dX12_risky_26 : decode cX12_risky 26 = .ok (.iconst 0, 1) := by decide +kernel
theorem dX12_risky_27 : decode cX12_risky 27 = .ok (.iadd, 1) := by decide +kernel
theorem dX12_risky_28 : decode cX12_risky 28 = .ok (.istore_n 1, 1) := by decide +kernel
theorem dX12_risky_29 : decode cX12_risky 29 = .ok (.iinc 2 1, 3) := by decide +kernel
theorem dX12_risky_32 : decode cX12_risky 32 = .ok (.goto (-28), 3) := by decide +kernel
theorem dX12_risky_35 : decode cX12_risky 35 = .ok (.iload_n 1, 1) := by decide +kernel
theorem dX12_risky_36 : decode cX12_risky 36 = .ok (.ireturn, 1) := by decide +kernel
theorem dX12_cell_0 : decode cX12_cell 0 = .ok (.bipush 112, 2) := by decide +kernel
theorem dX12_cell_2 : decode cX12_cell 2 = .ok (.bipush 24, 2) := by decide +kernel
theorem dX12_cell_4 : decode cX12_cell 4 = .ok (.iload_n 0, 1) := by decide +kernel
theorem dX12_cell_5 : decode cX12_cell 5 = .ok (.imul, 1) := by decide +kernel
theorem dX12_cell_6 : decode cX12_cell 6 = .ok (.iload_n 1, 1) := by decide +kernel
theorem dX12_cell_7 : decode cX12_cell 7 = .ok (.iadd, 1) := by decide +kernel
theorem dX12_cell_8 : decode cX12_cell 8 = .ok (.imul, 1) := by decide +kernel
theorem dX12_cell_9 : decode cX12_cell 9 = .ok (.iload_n 2, 1) := by decide +kernel
theorem dX12_cell_10 : decode cX12_cell 10 = .ok (.iadd, 1) := by decide +kernel
theorem dX12_cell_11 : decode cX12_cell 11 = .ok (.ireturn, 1) := by decide +kernel
theorem dX12_so_0 : decode cX12_so 0 = .ok (.aload_n 0, 1) := by decide +kernel
theorem dX12_so_1 : decode cX12_so 1 = .ok (.getfield 49, 3) := by decide +kernel
theorem dX12_so_4 : decode cX12_so 4 = .ok (.iload_n 1, 1) := by decide +kernel
theorem dX12_so_5 : decode cX12_so 5 = .ok (.iload_n 2, 1) := by decide +kernel
theorem dX12_so_6 : decode cX12_so 6 = .ok (.iload_n 3, 1) := by decide +kernel
theorem dX12_so_7 : decode cX12_so 7 = .ok (.invokestatic 289, 3) := by decide +kernel
theorem dX12_so_10 : decode cX12_so 10 = .ok (.baload, 1) := by decide +kernel
theorem dX12_so_11 : decode cX12_so 11 = .ok (.ireturn, 1) := by decide +kernel
theorem dX12_set_0 : decode cX12_set 0 = .ok (.aload_n 0, 1) := by decide +kernel
theorem dX12_set_1 : decode cX12_set 1 = .ok (.getfield 49, 3) := by decide +kernel
theorem dX12_set_4 : decode cX12_set 4 = .ok (.iload_n 1, 1) := by decide +kernel
theorem dX12_set_5 : decode cX12_set 5 = .ok (.iload_n 2, 1) := by decide +kernel
theorem dX12_set_6 : decode cX12_set 6 = .ok (.iload_n 3, 1) := by decide +kernel
theorem dX12_set_7 : decode cX12_set 7 = .ok (.invokestatic 289, 3) := by decide +kernel
theorem dX12_set_10 : decode cX12_set 10 = .ok (.iload 4, 2) := by decide +kernel
theorem dX12_set_12 : decode cX12_set 12 = .ok (.bastore, 1) := by decide +kernel
theorem dX12_set_13 : decode cX12_set 13 = .ok (.return_, 1) := by decide +kernel
theorem dX12_doesUse_0 : decode cX12_doesUse 0 = .ok (.aload_n 0, 1) := by decide +kernel
theorem dX12_doesUse_1 : decode cX12_doesUse 1 = .ok (.iload_n 2, 1) := by decide +kernel
theorem dX12_doesUse_2 : decode cX12_doesUse 2 = .ok (.invokevirtual 280, 3) := by decide +kernel
theorem dX12_doesUse_5 : decode cX12_doesUse 5 = .ok (.iload_n 1, 1) := by decide +kernel
theorem dX12_doesUse_6 : decode cX12_doesUse 6 = .ok (.if_icmp .ne 7, 3) := by decide +kernel
theorem dX12_doesUse_9 : decode cX12_doesUse 9 = .ok (.iconst 1, 1) := by decide +kernel
theorem dX12_doesUse_10 : decode cX12_doesUse 10 = .ok (.goto 4, 3) := by decide +kernel
theorem dX12_doesUse_13 : decode cX12_doesUse 13 = .ok (.iconst 0, 1) := by decide +kernel
theorem dX12_doesUse_14 : decode cX12_doesUse 14 = .ok (.ireturn, 1) := by decide +kernel
theorem dX12_doesKeep_0 : decode cX12_doesKeep 0 = .ok (.aload_n 0, 1) := by decide +kernel
theorem dX12_doesKeep_1 : decode cX12_doesKeep 1 = .ok (.iload_n 2, 1) := by decide +kernel
theorem dX12_doesKeep_2 : decode cX12_doesKeep 2 = .ok (.invokevirtual 274, 3) := by decide +kernel
theorem dX12_doesKeep_5 : decode cX12_doesKeep 5 = .ok (.istore_n 3, 1) := by decide +kernel
theorem dX12_doesKeep_6 : decode cX12_doesKeep 6 = .ok (.iload_n 3, 1) := by decide +kernel
theorem dX12_doesKeep_7 : decode cX12_doesKeep 7 = .ok (.iconst (-1), 1) := by decide +kernel
theorem dX12_doesKeep_8 : decode cX12_doesKeep 8 = .ok (.if_icmp .eq 37, 3) := by decide +kernel
theorem dX12_doesKeep_11 : decode cX12_doesKeep 11 = .ok (.aload_n 0, 1) := by decide +kernel
theorem dX12_doesKeep_12 : decode cX12_doesKeep 12 = .ok (.sipush 292, 3) := by decide +kernel
theorem dX12_doesKeep_15 : decode cX12_doesKeep 15 = .ok (.iconst 2, 1) := by decide +kernel
theorem dX12_doesKeep_16 : decode cX12_doesKeep 16 = .ok (.iload_n 1, 1) := by decide +kernel
theorem dX12_doesKeep_17 : decode cX12_doesKeep 17 = .ok (.imul, 1) := by decide +kernel
theorem dX12_doesKeep_18 : decode cX12_doesKeep 18 = .ok (.iadd, 1) := by decide +kernel
theorem dX12_doesKeep_19 : decode cX12_doesKeep 19 = .ok (.invokevirtual 218, 3) := by decide +kernel
theorem dX12_doesKeep_22 : decode cX12_doesKeep 22 = .ok (.iload_n 3, 1) := by decide +kernel
theorem dX12_doesKeep_23 : decode cX12_doesKeep 23 = .ok (.if_icmp .eq 20, 3) := by decide +kernel
theorem dX12_doesKeep_26 : decode cX12_doesKeep 26 = .ok (.aload_n 0, 1) := by decide +kernel
theorem dX12_doesKeep_27 : decode cX12_doesKeep 27 = .ok (.sipush 292, 3) := by decide +kernel
theorem dX12_doesKeep_30 : decode cX12_doesKeep 30 = .ok (.iconst 2, 1) := by decide +kernel
theorem dX12_doesKeep_31 : decode cX12_doesKeep 31 = .ok (.iload_n 1, 1) := by decide +kernel
theorem dX12_doesKeep_32 : decode cX12_doesKeep 32 = .ok (.imul, 1) := by decide +kernel
theorem dX12_doesKeep_33 : decode cX12_doesKeep 33 = .ok (.iadd, 1) := by decide +kernel
theorem dX12_doesKeep_34 : decode cX12_doesKeep 34 = .ok (.iconst 1, 1) := by decide +kernel
theorem dX12_doesKeep_35 : decode cX12_doesKeep 35 = .ok (.iadd, 1) := by decide +kernel
theorem dX12_doesKeep_36 : decode cX12_doesKeep 36 = .ok (.invokevirtual 218, 3) := by decide +kernel
theorem dX12_doesKeep_39 : decode cX12_doesKeep 39 = .ok (.iload_n 3, 1) := by decide +kernel
theorem dX12_doesKeep_40 : decode cX12_doesKeep 40 = .ok (.if_icmp .ne 5, 3) := by decide +kernel
theorem dX12_doesKeep_43 : decode cX12_doesKeep 43 = .ok (.iconst 0, 1) := by decide +kernel
theorem dX12_doesKeep_44 : decode cX12_doesKeep 44 = .ok (.ireturn, 1) := by decide +kernel
theorem dX12_doesKeep_45 : decode cX12_doesKeep 45 = .ok (.aload_n 0, 1) := by decide +kernel
theorem dX12_doesKeep_46 : decode cX12_doesKeep 46 = .ok (.iload_n 1, 1) := by decide +kernel
theorem dX12_doesKeep_47 : decode cX12_doesKeep 47 = .ok (.invokevirtual 286, 3) := by decide +kernel
theorem dX12_doesKeep_50 : decode cX12_doesKeep 50 = .ok (.ifCond .ne 5, 3) := by decide +kernel
theorem dX12_doesKeep_53 : decode cX12_doesKeep 53 = .ok (.iconst 1, 1) := by decide +kernel
theorem dX12_doesKeep_54 : decode cX12_doesKeep 54 = .ok (.ireturn, 1) := by decide +kernel
theorem dX12_doesKeep_55 : decode cX12_doesKeep 55 = .ok (.aload_n 0, 1) := by decide +kernel
theorem dX12_doesKeep_56 : decode cX12_doesKeep 56 = .ok (.iload_n 2, 1) := by decide +kernel
theorem dX12_doesKeep_57 : decode cX12_doesKeep 57 = .ok (.invokevirtual 280, 3) := by decide +kernel
theorem dX12_doesKeep_60 : decode cX12_doesKeep 60 = .ok (.istore 4, 2) := by decide +kernel
theorem dX12_doesKeep_62 : decode cX12_doesKeep 62 = .ok (.aload_n 0, 1) := by decide +kernel
theorem dX12_doesKeep_63 : decode cX12_doesKeep 63 = .ok (.getfield 24, 3) := by decide +kernel
theorem dX12_doesKeep_66 : decode cX12_doesKeep 66 = .ok (.iload_n 2, 1) := by decide +kernel
theorem dX12_doesKeep_67 : decode cX12_doesKeep 67 = .ok (.iaload, 1) := by decide +kernel
theorem dX12_doesKeep_68 : decode cX12_doesKeep 68 = .ok (.iconst 3, 1) := by decide +kernel
theorem dX12_doesKeep_69 : decode cX12_doesKeep 69 = .ok (.if_icmp .eq 28, 3) := by decide +kernel
theorem dX12_doesKeep_72 : decode cX12_doesKeep 72 = .ok (.iload 4, 2) := by decide +kernel
theorem dX12_doesKeep_74 : decode cX12_doesKeep 74 = .ok (.iconst (-1), 1) := by decide +kernel
theorem dX12_doesKeep_75 : decode cX12_doesKeep 75 = .ok (.if_icmp .eq 18, 3) := by decide +kernel
theorem dX12_doesKeep_78 : decode cX12_doesKeep 78 = .ok (.iload 4, 2) := by decide +kernel
theorem dX12_doesKeep_80 : decode cX12_doesKeep 80 = .ok (.iload_n 1, 1) := by decide +kernel
theorem dX12_doesKeep_81 : decode cX12_doesKeep 81 = .ok (.if_icmp .eq 12, 3) := by decide +kernel
theorem dX12_doesKeep_84 : decode cX12_doesKeep 84 = .ok (.aload_n 0, 1) := by decide +kernel
theorem dX12_doesKeep_85 : decode cX12_doesKeep 85 = .ok (.iload 4, 2) := by decide +kernel
theorem dX12_doesKeep_87 : decode cX12_doesKeep 87 = .ok (.invokevirtual 286, 3) := by decide +kernel
theorem dX12_doesKeep_90 : decode cX12_doesKeep 90 = .ok (.ifCond .ne 7, 3) := by decide +kernel
theorem dX12_doesKeep_93 : decode cX12_doesKeep 93 = .ok (.iconst 1, 1) := by decide +kernel
theorem dX12_doesKeep_94 : decode cX12_doesKeep 94 = .ok (.goto 4, 3) := by decide +kernel
theorem dX12_doesKeep_97 : decode cX12_doesKeep 97 = .ok (.iconst 0, 1) := by decide +kernel
theorem dX12_doesKeep_98 : decode cX12_doesKeep 98 = .ok (.ireturn, 1) := by decide +kernel
theorem dX12_staysAhead_0 : decode cX12_staysAhead 0 = .ok (.iconst 1, 1) := by decide +kernel
theorem dX12_staysAhead_1 : decode cX12_staysAhead 1 = .ok (.istore 4, 2) := by decide +kernel
theorem dX12_staysAhead_3 : decode cX12_staysAhead 3 = .ok (.iconst 2, 1) := by decide +kernel
theorem dX12_staysAhead_4 : decode cX12_staysAhead 4 = .ok (.iload_n 3, 1) := by decide +kernel
theorem dX12_staysAhead_5 : decode cX12_staysAhead 5 = .ok (.imul, 1) := by decide +kernel
theorem dX12_staysAhead_6 : decode cX12_staysAhead 6 = .ok (.istore 5, 2) := by decide +kernel
theorem dX12_staysAhead_8 : decode cX12_staysAhead 8 = .ok (.iload 5, 2) := by decide +kernel
theorem dX12_staysAhead_10 : decode cX12_staysAhead 10 = .ok (.iconst 2, 1) := by decide +kernel
theorem dX12_staysAhead_11 : decode cX12_staysAhead 11 = .ok (.iload_n 3, 1) := by decide +kernel
theorem dX12_staysAhead_12 : decode cX12_staysAhead 12 = .ok (.imul, 1) := by decide +kernel
theorem dX12_staysAhead_13 : decode cX12_staysAhead 13 = .ok (.iconst 2, 1) := by decide +kernel
theorem dX12_staysAhead_14 : decode cX12_staysAhead 14 = .ok (.iadd, 1) := by decide +kernel
theorem dX12_staysAhead_15 : decode cX12_staysAhead 15 = .ok (.if_icmp .ge 95, 3) := by decide +kernel
theorem dX12_staysAhead_18 : decode cX12_staysAhead 18 = .ok (.iload 4, 2) := by decide +kernel
theorem dX12_staysAhead_20 : decode cX12_staysAhead 20 = .ok (.ifCond .eq 90, 3) := by decide +kernel
theorem dX12_staysAhead_23 : decode cX12_staysAhead 23 = .ok (.aload_n 0, 1) := by decide +kernel
theorem dX12_staysAhead_24 : decode cX12_staysAhead 24 = .ok (.getfield 33, 3) := by decide +kernel
theorem dX12_staysAhead_27 : decode cX12_staysAhead 27 = .ok (.iload 5, 2) := by decide +kernel
theorem dX12_staysAhead_29 : decode cX12_staysAhead 29 = .ok (.iaload, 1) := by decide +kernel
theorem dX12_staysAhead_30 : decode cX12_staysAhead 30 = .ok (.iconst (-1), 1) := by decide +kernel
theorem dX12_staysAhead_31 : decode cX12_staysAhead 31 = .ok (.if_icmp .ne 6, 3) := by decide +kernel
theorem dX12_staysAhead_34 : decode cX12_staysAhead 34 = .ok (.goto 70, 3) := by decide +kernel
theorem dX12_staysAhead_37 : decode cX12_staysAhead 37 = .ok (.aload_n 0, 1) := by decide +kernel
theorem dX12_staysAhead_38 : decode cX12_staysAhead 38 = .ok (.getfield 33, 3) := by decide +kernel
theorem dX12_staysAhead_41 : decode cX12_staysAhead 41 = .ok (.iload 5, 2) := by decide +kernel
theorem dX12_staysAhead_43 : decode cX12_staysAhead 43 = .ok (.iaload, 1) := by decide +kernel
theorem dX12_staysAhead_44 : decode cX12_staysAhead 44 = .ok (.istore 6, 2) := by decide +kernel
theorem dX12_staysAhead_46 : decode cX12_staysAhead 46 = .ok (.iload_n 1, 1) := by decide +kernel
theorem dX12_staysAhead_47 : decode cX12_staysAhead 47 = .ok (.iconst 2, 1) := by decide +kernel
theorem dX12_staysAhead_48 : decode cX12_staysAhead 48 = .ok (.if_icmp .ne 14, 3) := by decide +kernel
theorem dX12_staysAhead_51 : decode cX12_staysAhead 51 = .ok (.aload_n 0, 1) := by decide +kernel
theorem dX12_staysAhead_52 : decode cX12_staysAhead 52 = .ok (.iconst 2, 1) := by decide +kernel
theorem dX12_staysAhead_53 : decode cX12_staysAhead 53 = .ok (.iload_n 2, 1) := by decide +kernel
theorem dX12_staysAhead_54 : decode cX12_staysAhead 54 = .ok (.iload 6, 2) := by decide +kernel
theorem dX12_staysAhead_56 : decode cX12_staysAhead 56 = .ok (.invokevirtual 292, 3) := by decide +kernel
theorem dX12_staysAhead_59 : decode cX12_staysAhead 59 = .ok (.goto 43, 3) := by decide +kernel
theorem dX12_staysAhead_62 : decode cX12_staysAhead 62 = .ok (.aload_n 0, 1) := by decide +kernel
theorem dX12_staysAhead_63 : decode cX12_staysAhead 63 = .ok (.bipush 6, 2) := by decide +kernel
theorem dX12_staysAhead_65 : decode cX12_staysAhead 65 = .ok (.iload_n 2, 1) := by decide +kernel
theorem dX12_staysAhead_66 : decode cX12_staysAhead 66 = .ok (.iload 6, 2) := by decide +kernel
theorem dX12_staysAhead_68 : decode cX12_staysAhead 68 = .ok (.invokevirtual 292, 3) := by decide +kernel
theorem dX12_staysAhead_71 : decode cX12_staysAhead 71 = .ok (.ifCond .ne 26, 3) := by decide +kernel
theorem dX12_staysAhead_74 : decode cX12_staysAhead 74 = .ok (.aload_n 0, 1) := by decide +kernel
theorem dX12_staysAhead_75 : decode cX12_staysAhead 75 = .ok (.iconst 0, 1) := by decide +kernel
theorem dX12_staysAhead_76 : decode cX12_staysAhead 76 = .ok (.iload_n 2, 1) := by decide +kernel
theorem dX12_staysAhead_77 : decode cX12_staysAhead 77 = .ok (.iload 6, 2) := by decide +kernel
theorem dX12_staysAhead_79 : decode cX12_staysAhead 79 = .ok (.invokevirtual 292, 3) := by decide +kernel
theorem dX12_staysAhead_82 : decode cX12_staysAhead 82 = .ok (.ifCond .ne 19, 3) := by decide +kernel
theorem dX12_staysAhead_85 : decode cX12_staysAhead 85 = .ok (.aload_n 0, 1) := by decide +kernel
theorem dX12_staysAhead_86 : decode cX12_staysAhead 86 = .ok (.bipush 7, 2) := by decide +kernel
theorem dX12_staysAhead_88 : decode cX12_staysAhead 88 = .ok (.iload_n 2, 1) := by decide +kernel
theorem dX12_staysAhead_89 : decode cX12_staysAhead 89 = .ok (.iload 6, 2) := by decide +kernel
theorem dX12_staysAhead_91 : decode cX12_staysAhead 91 = .ok (.invokevirtual 292, 3) := by decide +kernel
theorem dX12_staysAhead_94 : decode cX12_staysAhead 94 = .ok (.ifCond .eq 7, 3) := by decide +kernel
theorem dX12_staysAhead_97 : decode cX12_staysAhead 97 = .ok (.iconst 1, 1) := by decide +kernel
theorem dX12_staysAhead_98 : decode cX12_staysAhead 98 = .ok (.goto 4, 3) := by decide +kernel
theorem dX12_staysAhead_101 : decode cX12_staysAhead 101 = .ok (.iconst 0, 1) := by decide +kernel
theorem dX12_staysAhead_102 : decode cX12_staysAhead 102 = .ok (.istore 4, 2) := by decide +kernel
theorem dX12_staysAhead_104 : decode cX12_staysAhead 104 = .ok (.iinc 5 1, 3) := by decide +kernel
theorem dX12_staysAhead_107 : decode cX12_staysAhead 107 = .ok (.goto (-99), 3) := by decide +kernel
theorem dX12_staysAhead_110 : decode cX12_staysAhead 110 = .ok (.iload_n 1, 1) := by decide +kernel
theorem dX12_staysAhead_111 : decode cX12_staysAhead 111 = .ok (.iconst 2, 1) := by decide +kernel
theorem dX12_staysAhead_112 : decode cX12_staysAhead 112 = .ok (.if_icmp .ne 42, 3) := by decide +kernel
theorem dX12_staysAhead_115 : decode cX12_staysAhead 115 = .ok (.aload_n 0, 1) := by decide +kernel
theorem dX12_staysAhead_116 : decode cX12_staysAhead 116 = .ok (.iconst 0, 1) := by decide +kernel
theorem dX12_staysAhead_117 : decode cX12_staysAhead 117 = .ok (.iload_n 2, 1) := by decide +kernel
theorem dX12_staysAhead_118 : decode cX12_staysAhead 118 = .ok (.iload_n 3, 1) := by decide +kernel
theorem dX12_staysAhead_119 : decode cX12_staysAhead 119 = .ok (.invokevirtual 292, 3) := by decide +kernel
theorem dX12_staysAhead_122 : decode cX12_staysAhead 122 = .ok (.ifCond .ne 26, 3) := by decide +kernel
theorem dX12_staysAhead_125 : decode cX12_staysAhead 125 = .ok (.aload_n 0, 1) := by decide +kernel
theorem dX12_staysAhead_126 : decode cX12_staysAhead 126 = .ok (.iconst 1, 1) := by decide +kernel
theorem dX12_staysAhead_127 : decode cX12_staysAhead 127 = .ok (.iload_n 2, 1) := by decide +kernel
theorem dX12_staysAhead_128 : decode cX12_staysAhead 128 = .ok (.iload_n 3, 1) := by decide +kernel
theorem dX12_staysAhead_129 : decode cX12_staysAhead 129 = .ok (.invokevirtual 292, 3) := by decide +kernel
theorem dX12_staysAhead_132 : decode cX12_staysAhead 132 = .ok (.ifCond .eq 20, 3) := by decide +kernel
theorem dX12_staysAhead_135 : decode cX12_staysAhead 135 = .ok (.aload_n 0, 1) := by decide +kernel
theorem dX12_staysAhead_136 : decode cX12_staysAhead 136 = .ok (.iload_n 3, 1) := by decide +kernel
theorem dX12_staysAhead_137 : decode cX12_staysAhead 137 = .ok (.invokevirtual 228, 3) := by decide +kernel
theorem dX12_staysAhead_140 : decode cX12_staysAhead 140 = .ok (.ifCond .ne 12, 3) := by decide +kernel
theorem dX12_staysAhead_143 : decode cX12_staysAhead 143 = .ok (.iload 4, 2) := by decide +kernel
theorem dX12_staysAhead_145 : decode cX12_staysAhead 145 = .ok (.ifCond .eq 7, 3) := by decide +kernel
theorem dX12_staysAhead_148 : decode cX12_staysAhead 148 = .ok (.iconst 1, 1) := by decide +kernel
theorem dX12_staysAhead_149 : decode cX12_staysAhead 149 = .ok (.goto 4, 3) := by decide +kernel
theorem dX12_staysAhead_152 : decode cX12_staysAhead 152 = .ok (.iconst 0, 1) := by decide +kernel
theorem dX12_staysAhead_153 : decode cX12_staysAhead 153 = .ok (.ireturn, 1) := by decide +kernel
theorem dX12_staysAhead_154 : decode cX12_staysAhead 154 = .ok (.iload 4, 2) := by decide +kernel
theorem dX12_staysAhead_156 : decode cX12_staysAhead 156 = .ok (.ireturn, 1) := by decide +kernel
theorem dX12_layAhead_0 : decode cX12_layAhead 0 = .ok (.iconst 0, 1) := by decide +kernel
theorem dX12_layAhead_1 : decode cX12_layAhead 1 = .ok (.istore_n 3, 1) := by decide +kernel
theorem dX12_layAhead_2 : decode cX12_layAhead 2 = .ok (.iload_n 3, 1) := by decide +kernel
theorem dX12_layAhead_3 : decode cX12_layAhead 3 = .ok (.aload_n 0, 1) := by decide +kernel
theorem dX12_layAhead_4 : decode cX12_layAhead 4 = .ok (.getfield 215, 3) := by decide +kernel
theorem dX12_layAhead_7 : decode cX12_layAhead 7 = .ok (.if_icmp .ge 17, 3) := by decide +kernel
theorem dX12_layAhead_10 : decode cX12_layAhead 10 = .ok (.aload_n 0, 1) := by decide +kernel
theorem dX12_layAhead_11 : decode cX12_layAhead 11 = .ok (.iload_n 1, 1) := by decide +kernel
theorem dX12_layAhead_12 : decode cX12_layAhead 12 = .ok (.iload_n 2, 1) := by decide +kernel
theorem dX12_layAhead_13 : decode cX12_layAhead 13 = .ok (.iload_n 3, 1) := by decide +kernel
theorem dX12_layAhead_14 : decode cX12_layAhead 14 = .ok (.iconst 1, 1) := by decide +kernel
theorem dX12_layAhead_15 : decode cX12_layAhead 15 = .ok (.invokevirtual 295, 3) := by decide +kernel
theorem dX12_layAhead_18 : decode cX12_layAhead 18 = .ok (.iinc 3 1, 3) := by decide +kernel
theorem dX12_layAhead_21 : decode cX12_layAhead 21 = .ok (.goto (-19), 3) := by decide +kernel
theorem dX12_layAhead_24 : decode cX12_layAhead 24 = .ok (.iconst 1, 1) := by decide +kernel
theorem dX12_layAhead_25 : decode cX12_layAhead 25 = .ok (.istore_n 3, 1) := by decide +kernel
theorem dX12_layAhead_26 : decode cX12_layAhead 26 = .ok (.iload_n 3, 1) := by decide +kernel
theorem dX12_layAhead_27 : decode cX12_layAhead 27 = .ok (.ifCond .eq 63, 3) := by decide +kernel
theorem dX12_layAhead_30 : decode cX12_layAhead 30 = .ok (.iconst 0, 1) := by decide +kernel
theorem dX12_layAhead_31 : decode cX12_layAhead 31 = .ok (.istore_n 3, 1) := by decide +kernel
theorem dX12_layAhead_32 : decode cX12_layAhead 32 = .ok (.aload_n 0, 1) := by decide +kernel
theorem dX12_layAhead_33 : decode cX12_layAhead 33 = .ok (.getfield 215, 3) := by decide +kernel
theorem dX12_layAhead_36 : decode cX12_layAhead 36 = .ok (.iconst 1, 1) := by decide +kernel
theorem dX12_layAhead_37 : decode cX12_layAhead 37 = .ok (.isub, 1) := by decide +kernel
theorem dX12_layAhead_38 : decode cX12_layAhead 38 = .ok (.istore 4, 2) := by decide +kernel
theorem dX12_layAhead_40 : decode cX12_layAhead 40 = .ok (.iload 4, 2) := by decide +kernel
theorem dX12_layAhead_42 : decode cX12_layAhead 42 = .ok (.ifCond .lt 45, 3) := by decide +kernel
theorem dX12_layAhead_45 : decode cX12_layAhead 45 = .ok (.aload_n 0, 1) := by decide +kernel
theorem dX12_layAhead_46 : decode cX12_layAhead 46 = .ok (.iload_n 1, 1) := by decide +kernel
theorem dX12_layAhead_47 : decode cX12_layAhead 47 = .ok (.iload_n 2, 1) := by decide +kernel
theorem dX12_layAhead_48 : decode cX12_layAhead 48 = .ok (.iload 4, 2) := by decide +kernel
theorem dX12_layAhead_50 : decode cX12_layAhead 50 = .ok (.invokevirtual 292, 3) := by decide +kernel
theorem dX12_layAhead_53 : decode cX12_layAhead 53 = .ok (.ifCond .eq 28, 3) := by decide +kernel
theorem dX12_layAhead_56 : decode cX12_layAhead 56 = .ok (.aload_n 0, 1) := by decide +kernel
theorem dX12_layAhead_57 : decode cX12_layAhead 57 = .ok (.iload_n 1, 1) := by decide +kernel
theorem dX12_layAhead_58 : decode cX12_layAhead 58 = .ok (.iload_n 2, 1) := by decide +kernel
theorem dX12_layAhead_59 : decode cX12_layAhead 59 = .ok (.iload 4, 2) := by decide +kernel
theorem dX12_layAhead_61 : decode cX12_layAhead 61 = .ok (.invokevirtual 299, 3) := by decide +kernel
theorem dX12_layAhead_64 : decode cX12_layAhead 64 = .ok (.ifCond .eq 6, 3) := by decide +kernel
theorem dX12_layAhead_67 : decode cX12_layAhead 67 = .ok (.goto 14, 3) := by decide +kernel
theorem dX12_layAhead_70 : decode cX12_layAhead 70 = .ok (.aload_n 0, 1) := by decide +kernel
theorem dX12_layAhead_71 : decode cX12_layAhead 71 = .ok (.iload_n 1, 1) := by decide +kernel
theorem dX12_layAhead_72 : decode cX12_layAhead 72 = .ok (.iload_n 2, 1) := by decide +kernel
theorem dX12_layAhead_73 : decode cX12_layAhead 73 = .ok (.iload 4, 2) := by decide +kernel
theorem dX12_layAhead_75 : decode cX12_layAhead 75 = .ok (.iconst 0, 1) := by decide +kernel
theorem dX12_layAhead_76 : decode cX12_layAhead 76 = .ok (.invokevirtual 295, 3) := by decide +kernel
theorem dX12_layAhead_79 : decode cX12_layAhead 79 = .ok (.iconst 1, 1) := by decide +kernel
theorem dX12_layAhead_80 : decode cX12_layAhead 80 = .ok (.istore_n 3, 1) := by decide +kernel
theorem dX12_layAhead_81 : decode cX12_layAhead 81 = .ok (.iinc 4 (-1), 3) := by decide +kernel
theorem dX12_layAhead_84 : decode cX12_layAhead 84 = .ok (.goto (-44), 3) := by decide +kernel
theorem dX12_layAhead_87 : decode cX12_layAhead 87 = .ok (.goto (-61), 3) := by decide +kernel
theorem dX12_layAhead_90 : decode cX12_layAhead 90 = .ok (.return_, 1) := by decide +kernel
theorem dX12_lets_0 : decode cX12_lets 0 = .ok (.iload_n 1, 1) := by decide +kernel
theorem dX12_lets_1 : decode cX12_lets 1 = .ok (.iconst 3, 1) := by decide +kernel
theorem dX12_lets_2 : decode cX12_lets 2 = .ok (.if_icmp .ne 41, 3) := by decide +kernel
theorem dX12_lets_5 : decode cX12_lets 5 = .ok (.aload_n 0, 1) := by decide +kernel
theorem dX12_lets_6 : decode cX12_lets 6 = .ok (.iconst 1, 1) := by decide +kernel
theorem dX12_lets_7 : decode cX12_lets 7 = .ok (.iload_n 2, 1) := by decide +kernel
theorem dX12_lets_8 : decode cX12_lets 8 = .ok (.iload_n 3, 1) := by decide +kernel
theorem dX12_lets_9 : decode cX12_lets 9 = .ok (.invokevirtual 292, 3) := by decide +kernel
theorem dX12_lets_12 : decode cX12_lets 12 = .ok (.ifCond .eq 27, 3) := by decide +kernel
theorem dX12_lets_15 : decode cX12_lets 15 = .ok (.aload_n 0, 1) := by decide +kernel
theorem dX12_lets_16 : decode cX12_lets 16 = .ok (.iconst 0, 1) := by decide +kernel
theorem dX12_lets_17 : decode cX12_lets 17 = .ok (.iload_n 2, 1) := by decide +kernel
theorem dX12_lets_18 : decode cX12_lets 18 = .ok (.iload_n 3, 1) := by decide +kernel
theorem dX12_lets_19 : decode cX12_lets 19 = .ok (.invokevirtual 292, 3) := by decide +kernel
theorem dX12_lets_22 : decode cX12_lets 22 = .ok (.ifCond .ne 13, 3) := by decide +kernel
theorem dX12_lets_25 : decode cX12_lets 25 = .ok (.aload_n 0, 1) := by decide +kernel
theorem dX12_lets_26 : decode cX12_lets 26 = .ok (.iconst 3, 1) := by decide +kernel
theorem dX12_lets_27 : decode cX12_lets 27 = .ok (.iload_n 2, 1) := by decide +kernel
theorem dX12_lets_28 : decode cX12_lets 28 = .ok (.iload_n 3, 1) := by decide +kernel
theorem dX12_lets_29 : decode cX12_lets 29 = .ok (.invokevirtual 292, 3) := by decide +kernel
theorem dX12_lets_32 : decode cX12_lets 32 = .ok (.ifCond .eq 7, 3) := by decide +kernel
theorem dX12_lets_35 : decode cX12_lets 35 = .ok (.iconst 1, 1) := by decide +kernel
theorem dX12_lets_36 : decode cX12_lets 36 = .ok (.goto 32, 3) := by decide +kernel
theorem dX12_lets_39 : decode cX12_lets 39 = .ok (.iconst 0, 1) := by decide +kernel
theorem dX12_lets_40 : decode cX12_lets 40 = .ok (.goto 28, 3) := by decide +kernel
theorem dX12_lets_43 : decode cX12_lets 43 = .ok (.aload_n 0, 1) := by decide +kernel
theorem dX12_lets_44 : decode cX12_lets 44 = .ok (.iconst 5, 1) := by decide +kernel
theorem dX12_lets_45 : decode cX12_lets 45 = .ok (.iload_n 2, 1) := by decide +kernel
theorem dX12_lets_46 : decode cX12_lets 46 = .ok (.iload_n 3, 1) := by decide +kernel
theorem dX12_lets_47 : decode cX12_lets 47 = .ok (.invokevirtual 292, 3) := by decide +kernel
theorem dX12_lets_50 : decode cX12_lets 50 = .ok (.ifCond .eq 17, 3) := by decide +kernel
theorem dX12_lets_53 : decode cX12_lets 53 = .ok (.aload_n 0, 1) := by decide +kernel
theorem dX12_lets_54 : decode cX12_lets 54 = .ok (.iconst 0, 1) := by decide +kernel
theorem dX12_lets_55 : decode cX12_lets 55 = .ok (.iload_n 2, 1) := by decide +kernel
theorem dX12_lets_56 : decode cX12_lets 56 = .ok (.iload_n 3, 1) := by decide +kernel
theorem dX12_lets_57 : decode cX12_lets 57 = .ok (.invokevirtual 292, 3) := by decide +kernel
theorem dX12_lets_60 : decode cX12_lets 60 = .ok (.ifCond .ne 7, 3) := by decide +kernel
theorem dX12_lets_63 : decode cX12_lets 63 = .ok (.iconst 1, 1) := by decide +kernel
theorem dX12_lets_64 : decode cX12_lets 64 = .ok (.goto 4, 3) := by decide +kernel
theorem dX12_lets_67 : decode cX12_lets 67 = .ok (.iconst 0, 1) := by decide +kernel
theorem dX12_lets_68 : decode cX12_lets 68 = .ok (.ireturn, 1) := by decide +kernel
theorem dX12_layBehind_0 : decode cX12_layBehind 0 = .ok (.iconst 0, 1) := by decide +kernel
theorem dX12_layBehind_1 : decode cX12_layBehind 1 = .ok (.istore_n 3, 1) := by decide +kernel
theorem dX12_layBehind_2 : decode cX12_layBehind 2 = .ok (.iload_n 3, 1) := by decide +kernel
theorem dX12_layBehind_3 : decode cX12_layBehind 3 = .ok (.aload_n 0, 1) := by decide +kernel
theorem dX12_layBehind_4 : decode cX12_layBehind 4 = .ok (.getfield 215, 3) := by decide +kernel
theorem dX12_layBehind_7 : decode cX12_layBehind 7 = .ok (.if_icmp .ge 40, 3) := by decide +kernel
theorem dX12_layBehind_10 : decode cX12_layBehind 10 = .ok (.aload_n 0, 1) := by decide +kernel
theorem dX12_layBehind_11 : decode cX12_layBehind 11 = .ok (.iload_n 1, 1) := by decide +kernel
theorem dX12_layBehind_12 : decode cX12_layBehind 12 = .ok (.iload_n 2, 1) := by decide +kernel
theorem dX12_layBehind_13 : decode cX12_layBehind 13 = .ok (.iload_n 3, 1) := by decide +kernel
theorem dX12_layBehind_14 : decode cX12_layBehind 14 = .ok (.iload_n 3, 1) := by decide +kernel
theorem dX12_layBehind_15 : decode cX12_layBehind 15 = .ok (.ifCond .gt 18, 3) := by decide +kernel
theorem dX12_layBehind_18 : decode cX12_layBehind 18 = .ok (.iload_n 1, 1) := by decide +kernel
theorem dX12_layBehind_19 : decode cX12_layBehind 19 = .ok (.iconst 5, 1) := by decide +kernel
theorem dX12_layBehind_20 : decode cX12_layBehind 20 = .ok (.if_icmp .ne 17, 3) := by decide +kernel
theorem dX12_layBehind_23 : decode cX12_layBehind 23 = .ok (.aload_n 0, 1) := by decide +kernel
theorem dX12_layBehind_24 : decode cX12_layBehind 24 = .ok (.iconst 4, 1) := by decide +kernel
theorem dX12_layBehind_25 : decode cX12_layBehind 25 = .ok (.iload_n 2, 1) := by decide +kernel
theorem dX12_layBehind_26 : decode cX12_layBehind 26 = .ok (.iconst 0, 1) := by decide +kernel
theorem dX12_layBehind_27 : decode cX12_layBehind 27 = .ok (.invokevirtual 292, 3) := by decide +kernel
theorem dX12_layBehind_30 : decode cX12_layBehind 30 = .ok (.ifCond .eq 7, 3) := by decide +kernel
theorem dX12_layBehind_33 : decode cX12_layBehind 33 = .ok (.iconst 1, 1) := by decide +kernel
theorem dX12_layBehind_34 : decode cX12_layBehind 34 = .ok (.goto 4, 3) := by decide +kernel
theorem dX12_layBehind_37 : decode cX12_layBehind 37 = .ok (.iconst 0, 1) := by decide +kernel
theorem dX12_layBehind_38 : decode cX12_layBehind 38 = .ok (.invokevirtual 295, 3) := by decide +kernel
theorem dX12_layBehind_41 : decode cX12_layBehind 41 = .ok (.iinc 3 1, 3) := by decide +kernel
theorem dX12_layBehind_44 : decode cX12_layBehind 44 = .ok (.goto (-42), 3) := by decide +kernel
theorem dX12_layBehind_47 : decode cX12_layBehind 47 = .ok (.iconst 1, 1) := by decide +kernel
theorem dX12_layBehind_48 : decode cX12_layBehind 48 = .ok (.istore_n 3, 1) := by decide +kernel
theorem dX12_layBehind_49 : decode cX12_layBehind 49 = .ok (.iload_n 3, 1) := by decide +kernel
theorem dX12_layBehind_50 : decode cX12_layBehind 50 = .ok (.ifCond .eq 97, 3) := by decide +kernel
theorem dX12_layBehind_53 : decode cX12_layBehind 53 = .ok (.iconst 0, 1) := by decide +kernel
theorem dX12_layBehind_54 : decode cX12_layBehind 54 = .ok (.istore_n 3, 1) := by decide +kernel
theorem dX12_layBehind_55 : decode cX12_layBehind 55 = .ok (.iconst 0, 1) := by decide +kernel
theorem dX12_layBehind_56 : decode cX12_layBehind 56 = .ok (.istore 4, 2) := by decide +kernel
theorem dX12_layBehind_58 : decode cX12_layBehind 58 = .ok (.iload 4, 2) := by decide +kernel
theorem dX12_layBehind_60 : decode cX12_layBehind 60 = .ok (.iconst 2, 1) := by decide +kernel
theorem dX12_layBehind_61 : decode cX12_layBehind 61 = .ok (.aload_n 0, 1) := by decide +kernel
theorem dX12_layBehind_62 : decode cX12_layBehind 62 = .ok (.getfield 215, 3) := by decide +kernel
theorem dX12_layBehind_65 : decode cX12_layBehind 65 = .ok (.imul, 1) := by decide +kernel
theorem dX12_layBehind_66 : decode cX12_layBehind 66 = .ok (.if_icmp .ge 78, 3) := by decide +kernel
theorem dX12_layBehind_69 : decode cX12_layBehind 69 = .ok (.aload_n 0, 1) := by decide +kernel
theorem dX12_layBehind_70 : decode cX12_layBehind 70 = .ok (.getfield 33, 3) := by decide +kernel
theorem dX12_layBehind_73 : decode cX12_layBehind 73 = .ok (.iload 4, 2) := by decide +kernel
theorem dX12_layBehind_75 : decode cX12_layBehind 75 = .ok (.iaload, 1) := by decide +kernel
theorem dX12_layBehind_76 : decode cX12_layBehind 76 = .ok (.istore 5, 2) := by decide +kernel
theorem dX12_layBehind_78 : decode cX12_layBehind 78 = .ok (.iload 5, 2) := by decide +kernel
theorem dX12_layBehind_80 : decode cX12_layBehind 80 = .ok (.iconst (-1), 1) := by decide +kernel
theorem dX12_layBehind_81 : decode cX12_layBehind 81 = .ok (.if_icmp .eq 57, 3) := by decide +kernel
theorem dX12_layBehind_84 : decode cX12_layBehind 84 = .ok (.aload_n 0, 1) := by decide +kernel
theorem dX12_layBehind_85 : decode cX12_layBehind 85 = .ok (.iload_n 1, 1) := by decide +kernel
theorem dX12_layBehind_86 : decode cX12_layBehind 86 = .ok (.iload_n 2, 1) := by decide +kernel
theorem dX12_layBehind_87 : decode cX12_layBehind 87 = .ok (.iload 5, 2) := by decide +kernel
theorem dX12_layBehind_89 : decode cX12_layBehind 89 = .ok (.invokevirtual 292, 3) := by decide +kernel
theorem dX12_layBehind_92 : decode cX12_layBehind 92 = .ok (.ifCond .eq 46, 3) := by decide +kernel
theorem dX12_layBehind_95 : decode cX12_layBehind 95 = .ok (.iload_n 1, 1) := by decide +kernel
theorem dX12_layBehind_96 : decode cX12_layBehind 96 = .ok (.iconst 5, 1) := by decide +kernel
theorem dX12_layBehind_97 : decode cX12_layBehind 97 = .ok (.if_icmp .ne 14, 3) := by decide +kernel
theorem dX12_layBehind_100 : decode cX12_layBehind 100 = .ok (.aload_n 0, 1) := by decide +kernel
theorem dX12_layBehind_101 : decode cX12_layBehind 101 = .ok (.iconst 4, 1) := by decide +kernel
theorem dX12_layBehind_102 : decode cX12_layBehind 102 = .ok (.iload_n 2, 1) := by decide +kernel
theorem dX12_layBehind_103 : decode cX12_layBehind 103 = .ok (.iload 5, 2) := by decide +kernel
theorem dX12_layBehind_105 : decode cX12_layBehind 105 = .ok (.invokevirtual 292, 3) := by decide +kernel
theorem dX12_layBehind_108 : decode cX12_layBehind 108 = .ok (.ifCond .ne 30, 3) := by decide +kernel
theorem dX12_layBehind_111 : decode cX12_layBehind 111 = .ok (.aload_n 0, 1) := by decide +kernel
theorem dX12_layBehind_112 : decode cX12_layBehind 112 = .ok (.iload_n 1, 1) := by decide +kernel
theorem dX12_layBehind_113 : decode cX12_layBehind 113 = .ok (.iload_n 2, 1) := by decide +kernel
theorem dX12_layBehind_114 : decode cX12_layBehind 114 = .ok (.iload 4, 2) := by decide +kernel
theorem dX12_layBehind_116 : decode cX12_layBehind 116 = .ok (.iconst 2, 1) := by decide +kernel
theorem dX12_layBehind_117 : decode cX12_layBehind 117 = .ok (.idiv, 1) := by decide +kernel
theorem dX12_layBehind_118 : decode cX12_layBehind 118 = .ok (.invokevirtual 302, 3) := by decide +kernel
theorem dX12_layBehind_121 : decode cX12_layBehind 121 = .ok (.ifCond .eq 6, 3) := by decide +kernel
theorem dX12_layBehind_124 : decode cX12_layBehind 124 = .ok (.goto 14, 3) := by decide +kernel
theorem dX12_layBehind_127 : decode cX12_layBehind 127 = .ok (.aload_n 0, 1) := by decide +kernel
theorem dX12_layBehind_128 : decode cX12_layBehind 128 = .ok (.iload_n 1, 1) := by decide +kernel
theorem dX12_layBehind_129 : decode cX12_layBehind 129 = .ok (.iload_n 2, 1) := by decide +kernel
theorem dX12_layBehind_130 : decode cX12_layBehind 130 = .ok (.iload 5, 2) := by decide +kernel
theorem dX12_layBehind_132 : decode cX12_layBehind 132 = .ok (.iconst 0, 1) := by decide +kernel
theorem dX12_layBehind_133 : decode cX12_layBehind 133 = .ok (.invokevirtual 295, 3) := by decide +kernel
theorem dX12_layBehind_136 : decode cX12_layBehind 136 = .ok (.iconst 1, 1) := by decide +kernel
theorem dX12_layBehind_137 : decode cX12_layBehind 137 = .ok (.istore_n 3, 1) := by decide +kernel
theorem dX12_layBehind_138 : decode cX12_layBehind 138 = .ok (.iinc 4 1, 3) := by decide +kernel
theorem dX12_layBehind_141 : decode cX12_layBehind 141 = .ok (.goto (-83), 3) := by decide +kernel
theorem dX12_layBehind_144 : decode cX12_layBehind 144 = .ok (.goto (-95), 3) := by decide +kernel
theorem dX12_layBehind_147 : decode cX12_layBehind 147 = .ok (.return_, 1) := by decide +kernel
theorem dX12_layEarly_0 : decode cX12_layEarly 0 = .ok (.iconst 0, 1) := by decide +kernel
theorem dX12_layEarly_1 : decode cX12_layEarly 1 = .ok (.istore_n 2, 1) := by decide +kernel
theorem dX12_layEarly_2 : decode cX12_layEarly 2 = .ok (.iload_n 2, 1) := by decide +kernel
theorem dX12_layEarly_3 : decode cX12_layEarly 3 = .ok (.aload_n 0, 1) := by decide +kernel
theorem dX12_layEarly_4 : decode cX12_layEarly 4 = .ok (.getfield 215, 3) := by decide +kernel
theorem dX12_layEarly_7 : decode cX12_layEarly 7 = .ok (.if_icmp .ge 35, 3) := by decide +kernel
theorem dX12_layEarly_10 : decode cX12_layEarly 10 = .ok (.aload_n 0, 1) := by decide +kernel
theorem dX12_layEarly_11 : decode cX12_layEarly 11 = .ok (.iconst 4, 1) := by decide +kernel
theorem dX12_layEarly_12 : decode cX12_layEarly 12 = .ok (.iload_n 1, 1) := by decide +kernel
theorem dX12_layEarly_13 : decode cX12_layEarly 13 = .ok (.iload_n 2, 1) := by decide +kernel
theorem dX12_layEarly_14 : decode cX12_layEarly 14 = .ok (.iload_n 2, 1) := by decide +kernel
theorem dX12_layEarly_15 : decode cX12_layEarly 15 = .ok (.ifCond .ne 17, 3) := by decide +kernel
theorem dX12_layEarly_18 : decode cX12_layEarly 18 = .ok (.aload_n 0, 1) := by decide +kernel
theorem dX12_layEarly_19 : decode cX12_layEarly 19 = .ok (.iconst 2, 1) := by decide +kernel
theorem dX12_layEarly_20 : decode cX12_layEarly 20 = .ok (.iload_n 1, 1) := by decide +kernel
theorem dX12_layEarly_21 : decode cX12_layEarly 21 = .ok (.iconst 0, 1) := by decide +kernel
theorem dX12_layEarly_22 : decode cX12_layEarly 22 = .ok (.invokevirtual 292, 3) := by decide +kernel
theorem dX12_layEarly_25 : decode cX12_layEarly 25 = .ok (.ifCond .eq 7, 3) := by decide +kernel
theorem dX12_layEarly_28 : decode cX12_layEarly 28 = .ok (.iconst 1, 1) := by decide +kernel
theorem dX12_layEarly_29 : decode cX12_layEarly 29 = .ok (.goto 4, 3) := by decide +kernel
theorem dX12_layEarly_32 : decode cX12_layEarly 32 = .ok (.iconst 0, 1) := by decide +kernel
theorem dX12_layEarly_33 : decode cX12_layEarly 33 = .ok (.invokevirtual 295, 3) := by decide +kernel
theorem dX12_layEarly_36 : decode cX12_layEarly 36 = .ok (.iinc 2 1, 3) := by decide +kernel
theorem dX12_layEarly_39 : decode cX12_layEarly 39 = .ok (.goto (-37), 3) := by decide +kernel
theorem dX12_layEarly_42 : decode cX12_layEarly 42 = .ok (.iconst 0, 1) := by decide +kernel
theorem dX12_layEarly_43 : decode cX12_layEarly 43 = .ok (.istore_n 2, 1) := by decide +kernel
theorem dX12_layEarly_44 : decode cX12_layEarly 44 = .ok (.iload_n 2, 1) := by decide +kernel
theorem dX12_layEarly_45 : decode cX12_layEarly 45 = .ok (.iconst 2, 1) := by decide +kernel
theorem dX12_layEarly_46 : decode cX12_layEarly 46 = .ok (.aload_n 0, 1) := by decide +kernel
theorem dX12_layEarly_47 : decode cX12_layEarly 47 = .ok (.getfield 215, 3) := by decide +kernel
theorem dX12_layEarly_50 : decode cX12_layEarly 50 = .ok (.imul, 1) := by decide +kernel
theorem dX12_layEarly_51 : decode cX12_layEarly 51 = .ok (.if_icmp .ge 77, 3) := by decide +kernel
theorem dX12_layEarly_54 : decode cX12_layEarly 54 = .ok (.aload_n 0, 1) := by decide +kernel
theorem dX12_layEarly_55 : decode cX12_layEarly 55 = .ok (.getfield 33, 3) := by decide +kernel
theorem dX12_layEarly_58 : decode cX12_layEarly 58 = .ok (.iload_n 2, 1) := by decide +kernel
theorem dX12_layEarly_59 : decode cX12_layEarly 59 = .ok (.iaload, 1) := by decide +kernel
theorem dX12_layEarly_60 : decode cX12_layEarly 60 = .ok (.istore_n 3, 1) := by decide +kernel
theorem dX12_layEarly_61 : decode cX12_layEarly 61 = .ok (.iload_n 2, 1) := by decide +kernel
theorem dX12_layEarly_62 : decode cX12_layEarly 62 = .ok (.iconst 2, 1) := by decide +kernel
theorem dX12_layEarly_63 : decode cX12_layEarly 63 = .ok (.idiv, 1) := by decide +kernel
theorem dX12_layEarly_64 : decode cX12_layEarly 64 = .ok (.istore 4, 2) := by decide +kernel
theorem dX12_layEarly_66 : decode cX12_layEarly 66 = .ok (.iload_n 3, 1) := by decide +kernel
theorem dX12_layEarly_67 : decode cX12_layEarly 67 = .ok (.iconst (-1), 1) := by decide +kernel
theorem dX12_layEarly_68 : decode cX12_layEarly 68 = .ok (.if_icmp .eq 54, 3) := by decide +kernel
theorem dX12_layEarly_71 : decode cX12_layEarly 71 = .ok (.aload_n 0, 1) := by decide +kernel
theorem dX12_layEarly_72 : decode cX12_layEarly 72 = .ok (.iconst 2, 1) := by decide +kernel
theorem dX12_layEarly_73 : decode cX12_layEarly 73 = .ok (.iload_n 1, 1) := by decide +kernel
theorem dX12_layEarly_74 : decode cX12_layEarly 74 = .ok (.iload_n 3, 1) := by decide +kernel
theorem dX12_layEarly_75 : decode cX12_layEarly 75 = .ok (.invokevirtual 292, 3) := by decide +kernel
theorem dX12_layEarly_78 : decode cX12_layEarly 78 = .ok (.ifCond .eq 44, 3) := by decide +kernel
theorem dX12_layEarly_81 : decode cX12_layEarly 81 = .ok (.aload_n 0, 1) := by decide +kernel
theorem dX12_layEarly_82 : decode cX12_layEarly 82 = .ok (.iconst 1, 1) := by decide +kernel
theorem dX12_layEarly_83 : decode cX12_layEarly 83 = .ok (.iload_n 1, 1) := by decide +kernel
theorem dX12_layEarly_84 : decode cX12_layEarly 84 = .ok (.iload 4, 2) := by decide +kernel
theorem dX12_layEarly_86 : decode cX12_layEarly 86 = .ok (.invokevirtual 292, 3) := by decide +kernel
theorem dX12_layEarly_89 : decode cX12_layEarly 89 = .ok (.ifCond .eq 25, 3) := by decide +kernel
theorem dX12_layEarly_92 : decode cX12_layEarly 92 = .ok (.aload_n 0, 1) := by decide +kernel
theorem dX12_layEarly_93 : decode cX12_layEarly 93 = .ok (.iconst 2, 1) := by decide +kernel
theorem dX12_layEarly_94 : decode cX12_layEarly 94 = .ok (.iload_n 1, 1) := by decide +kernel
theorem dX12_layEarly_95 : decode cX12_layEarly 95 = .ok (.iload 4, 2) := by decide +kernel
theorem dX12_layEarly_97 : decode cX12_layEarly 97 = .ok (.invokevirtual 292, 3) := by decide +kernel
theorem dX12_layEarly_100 : decode cX12_layEarly 100 = .ok (.ifCond .ne 22, 3) := by decide +kernel
theorem dX12_layEarly_103 : decode cX12_layEarly 103 = .ok (.aload_n 0, 1) := by decide +kernel
theorem dX12_layEarly_104 : decode cX12_layEarly 104 = .ok (.iconst 3, 1) := by decide +kernel
theorem dX12_layEarly_105 : decode cX12_layEarly 105 = .ok (.iload_n 1, 1) := by decide +kernel
theorem dX12_layEarly_106 : decode cX12_layEarly 106 = .ok (.iload 4, 2) := by decide +kernel
theorem dX12_layEarly_108 : decode cX12_layEarly 108 = .ok (.invokevirtual 292, 3) := by decide +kernel
theorem dX12_layEarly_111 : decode cX12_layEarly 111 = .ok (.ifCond .ne 11, 3) := by decide +kernel
theorem dX12_layEarly_114 : decode cX12_layEarly 114 = .ok (.aload_n 0, 1) := by decide +kernel
theorem dX12_layEarly_115 : decode cX12_layEarly 115 = .ok (.iconst 4, 1) := by decide +kernel
theorem dX12_layEarly_116 : decode cX12_layEarly 116 = .ok (.iload_n 1, 1) := by decide +kernel
theorem dX12_layEarly_117 : decode cX12_layEarly 117 = .ok (.iload_n 3, 1) := by decide +kernel
theorem dX12_layEarly_118 : decode cX12_layEarly 118 = .ok (.iconst 1, 1) := by decide +kernel
theorem dX12_layEarly_119 : decode cX12_layEarly 119 = .ok (.invokevirtual 295, 3) := by decide +kernel
theorem dX12_layEarly_122 : decode cX12_layEarly 122 = .ok (.iinc 2 1, 3) := by decide +kernel
theorem dX12_layEarly_125 : decode cX12_layEarly 125 = .ok (.goto (-81), 3) := by decide +kernel
theorem dX12_layEarly_128 : decode cX12_layEarly 128 = .ok (.return_, 1) := by decide +kernel
theorem dX12_layLate_0 : decode cX12_layLate 0 = .ok (.iconst 0, 1) := by decide +kernel
theorem dX12_layLate_1 : decode cX12_layLate 1 = .ok (.istore_n 2, 1) := by decide +kernel
theorem dX12_layLate_2 : decode cX12_layLate 2 = .ok (.iload_n 2, 1) := by decide +kernel
theorem dX12_layLate_3 : decode cX12_layLate 3 = .ok (.aload_n 0, 1) := by decide +kernel
theorem dX12_layLate_4 : decode cX12_layLate 4 = .ok (.getfield 215, 3) := by decide +kernel
theorem dX12_layLate_7 : decode cX12_layLate 7 = .ok (.if_icmp .ge 102, 3) := by decide +kernel
theorem dX12_layLate_10 : decode cX12_layLate 10 = .ok (.aload_n 0, 1) := by decide +kernel
theorem dX12_layLate_11 : decode cX12_layLate 11 = .ok (.iconst 0, 1) := by decide +kernel
theorem dX12_layLate_12 : decode cX12_layLate 12 = .ok (.iload_n 1, 1) := by decide +kernel
theorem dX12_layLate_13 : decode cX12_layLate 13 = .ok (.iload_n 2, 1) := by decide +kernel
theorem dX12_layLate_14 : decode cX12_layLate 14 = .ok (.invokevirtual 292, 3) := by decide +kernel
theorem dX12_layLate_17 : decode cX12_layLate 17 = .ok (.istore_n 3, 1) := by decide +kernel
theorem dX12_layLate_18 : decode cX12_layLate 18 = .ok (.iconst 2, 1) := by decide +kernel
theorem dX12_layLate_19 : decode cX12_layLate 19 = .ok (.iload_n 2, 1) := by decide +kernel
theorem dX12_layLate_20 : decode cX12_layLate 20 = .ok (.imul, 1) := by decide +kernel
theorem dX12_layLate_21 : decode cX12_layLate 21 = .ok (.istore 4, 2) := by decide +kernel
theorem dX12_layLate_23 : decode cX12_layLate 23 = .ok (.iload 4, 2) := by decide +kernel
theorem dX12_layLate_25 : decode cX12_layLate 25 = .ok (.iconst 2, 1) := by decide +kernel
theorem dX12_layLate_26 : decode cX12_layLate 26 = .ok (.iload_n 2, 1) := by decide +kernel
theorem dX12_layLate_27 : decode cX12_layLate 27 = .ok (.imul, 1) := by decide +kernel
theorem dX12_layLate_28 : decode cX12_layLate 28 = .ok (.iconst 2, 1) := by decide +kernel
theorem dX12_layLate_29 : decode cX12_layLate 29 = .ok (.iadd, 1) := by decide +kernel
theorem dX12_layLate_30 : decode cX12_layLate 30 = .ok (.if_icmp .ge 46, 3) := by decide +kernel
theorem dX12_layLate_33 : decode cX12_layLate 33 = .ok (.iload_n 3, 1) := by decide +kernel
theorem dX12_layLate_34 : decode cX12_layLate 34 = .ok (.ifCond .ne 30, 3) := by decide +kernel
theorem dX12_layLate_37 : decode cX12_layLate 37 = .ok (.aload_n 0, 1) := by decide +kernel
theorem dX12_layLate_38 : decode cX12_layLate 38 = .ok (.getfield 33, 3) := by decide +kernel
theorem dX12_layLate_41 : decode cX12_layLate 41 = .ok (.iload 4, 2) := by decide +kernel
theorem dX12_layLate_43 : decode cX12_layLate 43 = .ok (.iaload, 1) := by decide +kernel
theorem dX12_layLate_44 : decode cX12_layLate 44 = .ok (.iconst (-1), 1) := by decide +kernel
theorem dX12_layLate_45 : decode cX12_layLate 45 = .ok (.if_icmp .eq 23, 3) := by decide +kernel
theorem dX12_layLate_48 : decode cX12_layLate 48 = .ok (.aload_n 0, 1) := by decide +kernel
theorem dX12_layLate_49 : decode cX12_layLate 49 = .ok (.iconst 5, 1) := by decide +kernel
theorem dX12_layLate_50 : decode cX12_layLate 50 = .ok (.iload_n 1, 1) := by decide +kernel
theorem dX12_layLate_51 : decode cX12_layLate 51 = .ok (.aload_n 0, 1) := by decide +kernel
theorem dX12_layLate_52 : decode cX12_layLate 52 = .ok (.getfield 33, 3) := by decide +kernel
theorem dX12_layLate_55 : decode cX12_layLate 55 = .ok (.iload 4, 2) := by decide +kernel
theorem dX12_layLate_57 : decode cX12_layLate 57 = .ok (.iaload, 1) := by decide +kernel
theorem dX12_layLate_58 : decode cX12_layLate 58 = .ok (.invokevirtual 292, 3) := by decide +kernel
theorem dX12_layLate_61 : decode cX12_layLate 61 = .ok (.ifCond .ne 7, 3) := by decide +kernel
theorem dX12_layLate_64 : decode cX12_layLate 64 = .ok (.iconst 1, 1) := by decide +kernel
theorem dX12_layLate_65 : decode cX12_layLate 65 = .ok (.goto 4, 3) := by decide +kernel
theorem dX12_layLate_68 : decode cX12_layLate 68 = .ok (.iconst 0, 1) := by decide +kernel
theorem dX12_layLate_69 : decode cX12_layLate 69 = .ok (.istore_n 3, 1) := by decide +kernel
theorem dX12_layLate_70 : decode cX12_layLate 70 = .ok (.iinc 4 1, 3) := by decide +kernel
theorem dX12_layLate_73 : decode cX12_layLate 73 = .ok (.goto (-50), 3) := by decide +kernel
theorem dX12_layLate_76 : decode cX12_layLate 76 = .ok (.aload_n 0, 1) := by decide +kernel
theorem dX12_layLate_77 : decode cX12_layLate 77 = .ok (.bipush 6, 2) := by decide +kernel
theorem dX12_layLate_79 : decode cX12_layLate 79 = .ok (.iload_n 1, 1) := by decide +kernel
theorem dX12_layLate_80 : decode cX12_layLate 80 = .ok (.iload_n 2, 1) := by decide +kernel
theorem dX12_layLate_81 : decode cX12_layLate 81 = .ok (.iload_n 3, 1) := by decide +kernel
theorem dX12_layLate_82 : decode cX12_layLate 82 = .ok (.ifCond .eq 17, 3) := by decide +kernel
theorem dX12_layLate_85 : decode cX12_layLate 85 = .ok (.aload_n 0, 1) := by decide +kernel
theorem dX12_layLate_86 : decode cX12_layLate 86 = .ok (.iconst 5, 1) := by decide +kernel
theorem dX12_layLate_87 : decode cX12_layLate 87 = .ok (.iload_n 1, 1) := by decide +kernel
theorem dX12_layLate_88 : decode cX12_layLate 88 = .ok (.iload_n 2, 1) := by decide +kernel
theorem dX12_layLate_89 : decode cX12_layLate 89 = .ok (.invokevirtual 292, 3) := by decide +kernel
theorem dX12_layLate_92 : decode cX12_layLate 92 = .ok (.ifCond .eq 7, 3) := by decide +kernel
theorem dX12_layLate_95 : decode cX12_layLate 95 = .ok (.iconst 1, 1) := by decide +kernel
theorem dX12_layLate_96 : decode cX12_layLate 96 = .ok (.goto 4, 3) := by decide +kernel
theorem dX12_layLate_99 : decode cX12_layLate 99 = .ok (.iconst 0, 1) := by decide +kernel
theorem dX12_layLate_100 : decode cX12_layLate 100 = .ok (.invokevirtual 295, 3) := by decide +kernel
theorem dX12_layLate_103 : decode cX12_layLate 103 = .ok (.iinc 2 1, 3) := by decide +kernel
theorem dX12_layLate_106 : decode cX12_layLate 106 = .ok (.goto (-104), 3) := by decide +kernel
theorem dX12_layLate_109 : decode cX12_layLate 109 = .ok (.return_, 1) := by decide +kernel
theorem dX12_layFacts_0 : decode cX12_layFacts 0 = .ok (.iconst 0, 1) := by decide +kernel
theorem dX12_layFacts_1 : decode cX12_layFacts 1 = .ok (.istore_n 2, 1) := by decide +kernel
theorem dX12_layFacts_2 : decode cX12_layFacts 2 = .ok (.iload_n 2, 1) := by decide +kernel
theorem dX12_layFacts_3 : decode cX12_layFacts 3 = .ok (.aload_n 0, 1) := by decide +kernel
theorem dX12_layFacts_4 : decode cX12_layFacts 4 = .ok (.getfield 215, 3) := by decide +kernel
theorem dX12_layFacts_7 : decode cX12_layFacts 7 = .ok (.if_icmp .ge 35, 3) := by decide +kernel
theorem dX12_layFacts_10 : decode cX12_layFacts 10 = .ok (.aload_n 0, 1) := by decide +kernel
theorem dX12_layFacts_11 : decode cX12_layFacts 11 = .ok (.iconst 0, 1) := by decide +kernel
theorem dX12_layFacts_12 : decode cX12_layFacts 12 = .ok (.iload_n 1, 1) := by decide +kernel
theorem dX12_layFacts_13 : decode cX12_layFacts 13 = .ok (.iload_n 2, 1) := by decide +kernel
theorem dX12_layFacts_14 : decode cX12_layFacts 14 = .ok (.aload_n 0, 1) := by decide +kernel
theorem dX12_layFacts_15 : decode cX12_layFacts 15 = .ok (.iload_n 1, 1) := by decide +kernel
theorem dX12_layFacts_16 : decode cX12_layFacts 16 = .ok (.iload_n 2, 1) := by decide +kernel
theorem dX12_layFacts_17 : decode cX12_layFacts 17 = .ok (.invokevirtual 305, 3) := by decide +kernel
theorem dX12_layFacts_20 : decode cX12_layFacts 20 = .ok (.invokevirtual 295, 3) := by decide +kernel
theorem dX12_layFacts_23 : decode cX12_layFacts 23 = .ok (.aload_n 0, 1) := by decide +kernel
theorem dX12_layFacts_24 : decode cX12_layFacts 24 = .ok (.iconst 1, 1) := by decide +kernel
theorem dX12_layFacts_25 : decode cX12_layFacts 25 = .ok (.iload_n 1, 1) := by decide +kernel
theorem dX12_layFacts_26 : decode cX12_layFacts 26 = .ok (.iload_n 2, 1) := by decide +kernel
theorem dX12_layFacts_27 : decode cX12_layFacts 27 = .ok (.aload_n 0, 1) := by decide +kernel
theorem dX12_layFacts_28 : decode cX12_layFacts 28 = .ok (.iload_n 1, 1) := by decide +kernel
theorem dX12_layFacts_29 : decode cX12_layFacts 29 = .ok (.iload_n 2, 1) := by decide +kernel
theorem dX12_layFacts_30 : decode cX12_layFacts 30 = .ok (.invokevirtual 308, 3) := by decide +kernel
theorem dX12_layFacts_33 : decode cX12_layFacts 33 = .ok (.invokevirtual 295, 3) := by decide +kernel
theorem dX12_layFacts_36 : decode cX12_layFacts 36 = .ok (.iinc 2 1, 3) := by decide +kernel
theorem dX12_layFacts_39 : decode cX12_layFacts 39 = .ok (.goto (-37), 3) := by decide +kernel
theorem dX12_layFacts_42 : decode cX12_layFacts 42 = .ok (.aload_n 0, 1) := by decide +kernel
theorem dX12_layFacts_43 : decode cX12_layFacts 43 = .ok (.iconst 2, 1) := by decide +kernel
theorem dX12_layFacts_44 : decode cX12_layFacts 44 = .ok (.iload_n 1, 1) := by decide +kernel
theorem dX12_layFacts_45 : decode cX12_layFacts 45 = .ok (.invokevirtual 311, 3) := by decide +kernel
theorem dX12_layFacts_48 : decode cX12_layFacts 48 = .ok (.aload_n 0, 1) := by decide +kernel
theorem dX12_layFacts_49 : decode cX12_layFacts 49 = .ok (.iconst 3, 1) := by decide +kernel
theorem dX12_layFacts_50 : decode cX12_layFacts 50 = .ok (.iload_n 1, 1) := by decide +kernel
theorem dX12_layFacts_51 : decode cX12_layFacts 51 = .ok (.invokevirtual 314, 3) := by decide +kernel
theorem dX12_layFacts_54 : decode cX12_layFacts 54 = .ok (.aload_n 0, 1) := by decide +kernel
theorem dX12_layFacts_55 : decode cX12_layFacts 55 = .ok (.iload_n 1, 1) := by decide +kernel
theorem dX12_layFacts_56 : decode cX12_layFacts 56 = .ok (.invokevirtual 317, 3) := by decide +kernel
theorem dX12_layFacts_59 : decode cX12_layFacts 59 = .ok (.aload_n 0, 1) := by decide +kernel
theorem dX12_layFacts_60 : decode cX12_layFacts 60 = .ok (.iconst 5, 1) := by decide +kernel
theorem dX12_layFacts_61 : decode cX12_layFacts 61 = .ok (.iload_n 1, 1) := by decide +kernel
theorem dX12_layFacts_62 : decode cX12_layFacts 62 = .ok (.invokevirtual 314, 3) := by decide +kernel
theorem dX12_layFacts_65 : decode cX12_layFacts 65 = .ok (.aload_n 0, 1) := by decide +kernel
theorem dX12_layFacts_66 : decode cX12_layFacts 66 = .ok (.iload_n 1, 1) := by decide +kernel
theorem dX12_layFacts_67 : decode cX12_layFacts 67 = .ok (.invokevirtual 320, 3) := by decide +kernel
theorem dX12_layFacts_70 : decode cX12_layFacts 70 = .ok (.aload_n 0, 1) := by decide +kernel
theorem dX12_layFacts_71 : decode cX12_layFacts 71 = .ok (.bipush 7, 2) := by decide +kernel
theorem dX12_layFacts_73 : decode cX12_layFacts 73 = .ok (.iload_n 1, 1) := by decide +kernel
theorem dX12_layFacts_74 : decode cX12_layFacts 74 = .ok (.invokevirtual 311, 3) := by decide +kernel
theorem dX12_layFacts_77 : decode cX12_layFacts 77 = .ok (.iconst 0, 1) := by decide +kernel
theorem dX12_layFacts_78 : decode cX12_layFacts 78 = .ok (.istore_n 2, 1) := by decide +kernel
theorem dX12_layFacts_79 : decode cX12_layFacts 79 = .ok (.iload_n 2, 1) := by decide +kernel
theorem dX12_layFacts_80 : decode cX12_layFacts 80 = .ok (.iconst 2, 1) := by decide +kernel
theorem dX12_layFacts_81 : decode cX12_layFacts 81 = .ok (.if_icmp .ge 143, 3) := by decide +kernel
theorem dX12_layFacts_84 : decode cX12_layFacts 84 = .ok (.iconst 0, 1) := by decide +kernel
theorem dX12_layFacts_85 : decode cX12_layFacts 85 = .ok (.istore_n 3, 1) := by decide +kernel
theorem dX12_layFacts_86 : decode cX12_layFacts 86 = .ok (.iload_n 3, 1) := by decide +kernel
theorem dX12_layFacts_87 : decode cX12_layFacts 87 = .ok (.aload_n 0, 1) := by decide +kernel
theorem dX12_layFacts_88 : decode cX12_layFacts 88 = .ok (.getfield 215, 3) := by decide +kernel
theorem dX12_layFacts_91 : decode cX12_layFacts 91 = .ok (.if_icmp .ge 121, 3) := by decide +kernel
theorem dX12_layFacts_94 : decode cX12_layFacts 94 = .ok (.aload_n 0, 1) := by decide +kernel
theorem dX12_layFacts_95 : decode cX12_layFacts 95 = .ok (.bipush 6, 2) := by decide +kernel
theorem dX12_layFacts_97 : decode cX12_layFacts 97 = .ok (.iload_n 1, 1) := by decide +kernel
theorem dX12_layFacts_98 : decode cX12_layFacts 98 = .ok (.iload_n 3, 1) := by decide +kernel
theorem dX12_layFacts_99 : decode cX12_layFacts 99 = .ok (.invokevirtual 292, 3) := by decide +kernel
theorem dX12_layFacts_102 : decode cX12_layFacts 102 = .ok (.ifCond .eq 18, 3) := by decide +kernel
theorem dX12_layFacts_105 : decode cX12_layFacts 105 = .ok (.aload_n 0, 1) := by decide +kernel
theorem dX12_layFacts_106 : decode cX12_layFacts 106 = .ok (.bipush 7, 2) := by decide +kernel
theorem dX12_layFacts_108 : decode cX12_layFacts 108 = .ok (.iload_n 1, 1) := by decide +kernel
theorem dX12_layFacts_109 : decode cX12_layFacts 109 = .ok (.iload_n 3, 1) := by decide +kernel
theorem dX12_layFacts_110 : decode cX12_layFacts 110 = .ok (.invokevirtual 292, 3) := by decide +kernel
theorem dX12_layFacts_113 : decode cX12_layFacts 113 = .ok (.ifCond .eq 7, 3) := by decide +kernel
theorem dX12_layFacts_116 : decode cX12_layFacts 116 = .ok (.iconst 1, 1) := by decide +kernel
theorem dX12_layFacts_117 : decode cX12_layFacts 117 = .ok (.goto 4, 3) := by decide +kernel
theorem dX12_layFacts_120 : decode cX12_layFacts 120 = .ok (.iconst 0, 1) := by decide +kernel
theorem dX12_layFacts_121 : decode cX12_layFacts 121 = .ok (.istore 4, 2) := by decide +kernel
theorem dX12_layFacts_123 : decode cX12_layFacts 123 = .ok (.aload_n 0, 1) := by decide +kernel
theorem dX12_layFacts_124 : decode cX12_layFacts 124 = .ok (.getfield 52, 3) := by decide +kernel
theorem dX12_layFacts_127 : decode cX12_layFacts 127 = .ok (.iload_n 2, 1) := by decide +kernel
theorem dX12_layFacts_128 : decode cX12_layFacts 128 = .ok (.iconst 0, 1) := by decide +kernel
theorem dX12_layFacts_129 : decode cX12_layFacts 129 = .ok (.iload_n 1, 1) := by decide +kernel
theorem dX12_layFacts_130 : decode cX12_layFacts 130 = .ok (.iload_n 3, 1) := by decide +kernel
theorem dX12_layFacts_131 : decode cX12_layFacts 131 = .ok (.invokestatic 323, 3) := by decide +kernel
theorem dX12_layFacts_134 : decode cX12_layFacts 134 = .ok (.iload_n 2, 1) := by decide +kernel
theorem dX12_layFacts_135 : decode cX12_layFacts 135 = .ok (.ifCond .ne 13, 3) := by decide +kernel
theorem dX12_layFacts_138 : decode cX12_layFacts 138 = .ok (.aload_n 0, 1) := by decide +kernel
theorem dX12_layFacts_139 : decode cX12_layFacts 139 = .ok (.iconst 4, 1) := by decide +kernel
theorem dX12_layFacts_140 : decode cX12_layFacts 140 = .ok (.iload_n 1, 1) := by decide +kernel
theorem dX12_layFacts_141 : decode cX12_layFacts 141 = .ok (.iload_n 3, 1) := by decide +kernel
theorem dX12_layFacts_142 : decode cX12_layFacts 142 = .ok (.invokevirtual 292, 3) := by decide +kernel
theorem dX12_layFacts_145 : decode cX12_layFacts 145 = .ok (.goto 24, 3) := by decide +kernel
theorem dX12_layFacts_148 : decode cX12_layFacts 148 = .ok (.aload_n 0, 1) := by decide +kernel
theorem dX12_layFacts_149 : decode cX12_layFacts 149 = .ok (.bipush 6, 2) := by decide +kernel
theorem dX12_layFacts_151 : decode cX12_layFacts 151 = .ok (.iload_n 1, 1) := by decide +kernel
theorem dX12_layFacts_152 : decode cX12_layFacts 152 = .ok (.iload_n 3, 1) := by decide +kernel
theorem dX12_layFacts_153 : decode cX12_layFacts 153 = .ok (.invokevirtual 292, 3) := by decide +kernel
theorem dX12_layFacts_156 : decode cX12_layFacts 156 = .ok (.ifCond .eq 12, 3) := by decide +kernel
theorem dX12_layFacts_159 : decode cX12_layFacts 159 = .ok (.iload 4, 2) := by decide +kernel
theorem dX12_layFacts_161 : decode cX12_layFacts 161 = .ok (.ifCond .ne 7, 3) := by decide +kernel
theorem dX12_layFacts_164 : decode cX12_layFacts 164 = .ok (.iconst 1, 1) := by decide +kernel
theorem dX12_layFacts_165 : decode cX12_layFacts 165 = .ok (.goto 4, 3) := by decide +kernel
theorem dX12_layFacts_168 : decode cX12_layFacts 168 = .ok (.iconst 0, 1) := by decide +kernel
theorem dX12_layFacts_169 : decode cX12_layFacts 169 = .ok (.bastore, 1) := by decide +kernel
theorem dX12_layFacts_170 : decode cX12_layFacts 170 = .ok (.aload_n 0, 1) := by decide +kernel
theorem dX12_layFacts_171 : decode cX12_layFacts 171 = .ok (.getfield 52, 3) := by decide +kernel
theorem dX12_layFacts_174 : decode cX12_layFacts 174 = .ok (.iload_n 2, 1) := by decide +kernel
theorem dX12_layFacts_175 : decode cX12_layFacts 175 = .ok (.iconst 1, 1) := by decide +kernel
theorem dX12_layFacts_176 : decode cX12_layFacts 176 = .ok (.iload_n 1, 1) := by decide +kernel
theorem dX12_layFacts_177 : decode cX12_layFacts 177 = .ok (.iload_n 3, 1) := by decide +kernel
theorem dX12_layFacts_178 : decode cX12_layFacts 178 = .ok (.invokestatic 323, 3) := by decide +kernel
theorem dX12_layFacts_181 : decode cX12_layFacts 181 = .ok (.aload_n 0, 1) := by decide +kernel
theorem dX12_layFacts_182 : decode cX12_layFacts 182 = .ok (.iconst 0, 1) := by decide +kernel
theorem dX12_layFacts_183 : decode cX12_layFacts 183 = .ok (.iload_n 1, 1) := by decide +kernel
theorem dX12_layFacts_184 : decode cX12_layFacts 184 = .ok (.iload_n 3, 1) := by decide +kernel
theorem dX12_layFacts_185 : decode cX12_layFacts 185 = .ok (.invokevirtual 292, 3) := by decide +kernel
theorem dX12_layFacts_188 : decode cX12_layFacts 188 = .ok (.ifCond .eq 16, 3) := by decide +kernel
theorem dX12_layFacts_191 : decode cX12_layFacts 191 = .ok (.iload_n 2, 1) := by decide +kernel
theorem dX12_layFacts_192 : decode cX12_layFacts 192 = .ok (.ifCond .eq 8, 3) := by decide +kernel
theorem dX12_layFacts_195 : decode cX12_layFacts 195 = .ok (.iload 4, 2) := by decide +kernel
theorem dX12_layFacts_197 : decode cX12_layFacts 197 = .ok (.ifCond .ne 7, 3) := by decide +kernel
theorem dX12_layFacts_200 : decode cX12_layFacts 200 = .ok (.iconst 1, 1) := by decide +kernel
theorem dX12_layFacts_201 : decode cX12_layFacts 201 = .ok (.goto 4, 3) := by decide +kernel
theorem dX12_layFacts_204 : decode cX12_layFacts 204 = .ok (.iconst 0, 1) := by decide +kernel
theorem dX12_layFacts_205 : decode cX12_layFacts 205 = .ok (.bastore, 1) := by decide +kernel
theorem dX12_layFacts_206 : decode cX12_layFacts 206 = .ok (.iinc 3 1, 3) := by decide +kernel
theorem dX12_layFacts_209 : decode cX12_layFacts 209 = .ok (.goto (-123), 3) := by decide +kernel
theorem dX12_layFacts_212 : decode cX12_layFacts 212 = .ok (.aload_n 0, 1) := by decide +kernel
theorem dX12_layFacts_213 : decode cX12_layFacts 213 = .ok (.iload_n 2, 1) := by decide +kernel
theorem dX12_layFacts_214 : decode cX12_layFacts 214 = .ok (.iload_n 1, 1) := by decide +kernel
theorem dX12_layFacts_215 : decode cX12_layFacts 215 = .ok (.invokevirtual 326, 3) := by decide +kernel
theorem dX12_layFacts_218 : decode cX12_layFacts 218 = .ok (.iinc 2 1, 3) := by decide +kernel
theorem dX12_layFacts_221 : decode cX12_layFacts 221 = .ok (.goto (-142), 3) := by decide +kernel
theorem dX12_layFacts_224 : decode cX12_layFacts 224 = .ok (.return_, 1) := by decide +kernel
theorem dX12_at_0 : decode cX12_at 0 = .ok (.bipush 112, 2) := by decide +kernel
theorem dX12_at_2 : decode cX12_at 2 = .ok (.bipush 24, 2) := by decide +kernel
theorem dX12_at_4 : decode cX12_at 4 = .ok (.iconst 3, 1) := by decide +kernel
theorem dX12_at_5 : decode cX12_at 5 = .ok (.iload_n 0, 1) := by decide +kernel
theorem dX12_at_6 : decode cX12_at 6 = .ok (.imul, 1) := by decide +kernel
theorem dX12_at_7 : decode cX12_at 7 = .ok (.iload_n 1, 1) := by decide +kernel
theorem dX12_at_8 : decode cX12_at 8 = .ok (.iadd, 1) := by decide +kernel
theorem dX12_at_9 : decode cX12_at 9 = .ok (.imul, 1) := by decide +kernel
theorem dX12_at_10 : decode cX12_at 10 = .ok (.iload_n 2, 1) := by decide +kernel
theorem dX12_at_11 : decode cX12_at 11 = .ok (.iadd, 1) := by decide +kernel
theorem dX12_at_12 : decode cX12_at 12 = .ok (.imul, 1) := by decide +kernel
theorem dX12_at_13 : decode cX12_at 13 = .ok (.iload_n 3, 1) := by decide +kernel
theorem dX12_at_14 : decode cX12_at 14 = .ok (.iadd, 1) := by decide +kernel
theorem dX12_at_15 : decode cX12_at 15 = .ok (.ireturn, 1) := by decide +kernel
theorem dX12_layAlive_0 : decode cX12_layAlive 0 = .ok (.iconst 0, 1) := by decide +kernel
theorem dX12_layAlive_1 : decode cX12_layAlive 1 = .ok (.istore_n 3, 1) := by decide +kernel
theorem dX12_layAlive_2 : decode cX12_layAlive 2 = .ok (.iload_n 3, 1) := by decide +kernel
theorem dX12_layAlive_3 : decode cX12_layAlive 3 = .ok (.aload_n 0, 1) := by decide +kernel
theorem dX12_layAlive_4 : decode cX12_layAlive 4 = .ok (.getfield 215, 3) := by decide +kernel
theorem dX12_layAlive_7 : decode cX12_layAlive 7 = .ok (.if_icmp .ge 33, 3) := by decide +kernel
theorem dX12_layAlive_10 : decode cX12_layAlive 10 = .ok (.aload_n 0, 1) := by decide +kernel
theorem dX12_layAlive_11 : decode cX12_layAlive 11 = .ok (.getfield 52, 3) := by decide +kernel
theorem dX12_layAlive_14 : decode cX12_layAlive 14 = .ok (.iload_n 1, 1) := by decide +kernel
theorem dX12_layAlive_15 : decode cX12_layAlive 15 = .ok (.iconst 2, 1) := by decide +kernel
theorem dX12_layAlive_16 : decode cX12_layAlive 16 = .ok (.iload_n 2, 1) := by decide +kernel
theorem dX12_layAlive_17 : decode cX12_layAlive 17 = .ok (.iload_n 3, 1) := by decide +kernel
theorem dX12_layAlive_18 : decode cX12_layAlive 18 = .ok (.invokestatic 323, 3) := by decide +kernel
theorem dX12_layAlive_21 : decode cX12_layAlive 21 = .ok (.aload_n 0, 1) := by decide +kernel
theorem dX12_layAlive_22 : decode cX12_layAlive 22 = .ok (.getfield 52, 3) := by decide +kernel
theorem dX12_layAlive_25 : decode cX12_layAlive 25 = .ok (.iload_n 1, 1) := by decide +kernel
theorem dX12_layAlive_26 : decode cX12_layAlive 26 = .ok (.iconst 1, 1) := by decide +kernel
theorem dX12_layAlive_27 : decode cX12_layAlive 27 = .ok (.iload_n 2, 1) := by decide +kernel
theorem dX12_layAlive_28 : decode cX12_layAlive 28 = .ok (.iload_n 3, 1) := by decide +kernel
theorem dX12_layAlive_29 : decode cX12_layAlive 29 = .ok (.invokestatic 323, 3) := by decide +kernel
theorem dX12_layAlive_32 : decode cX12_layAlive 32 = .ok (.baload, 1) := by decide +kernel
theorem dX12_layAlive_33 : decode cX12_layAlive 33 = .ok (.bastore, 1) := by decide +kernel
theorem dX12_layAlive_34 : decode cX12_layAlive 34 = .ok (.iinc 3 1, 3) := by decide +kernel
theorem dX12_layAlive_37 : decode cX12_layAlive 37 = .ok (.goto (-35), 3) := by decide +kernel
theorem dX12_layAlive_40 : decode cX12_layAlive 40 = .ok (.iconst 1, 1) := by decide +kernel
theorem dX12_layAlive_41 : decode cX12_layAlive 41 = .ok (.istore_n 3, 1) := by decide +kernel
theorem dX12_layAlive_42 : decode cX12_layAlive 42 = .ok (.iload_n 3, 1) := by decide +kernel
theorem dX12_layAlive_43 : decode cX12_layAlive 43 = .ok (.ifCond .eq 114, 3) := by decide +kernel
theorem dX12_layAlive_46 : decode cX12_layAlive 46 = .ok (.iconst 0, 1) := by decide +kernel
theorem dX12_layAlive_47 : decode cX12_layAlive 47 = .ok (.istore_n 3, 1) := by decide +kernel
theorem dX12_layAlive_48 : decode cX12_layAlive 48 = .ok (.iconst 0, 1) := by decide +kernel
theorem dX12_layAlive_49 : decode cX12_layAlive 49 = .ok (.istore 4, 2) := by decide +kernel
theorem dX12_layAlive_51 : decode cX12_layAlive 51 = .ok (.iload 4, 2) := by decide +kernel
theorem dX12_layAlive_53 : decode cX12_layAlive 53 = .ok (.iconst 2, 1) := by decide +kernel
theorem dX12_layAlive_54 : decode cX12_layAlive 54 = .ok (.aload_n 0, 1) := by decide +kernel
theorem dX12_layAlive_55 : decode cX12_layAlive 55 = .ok (.getfield 215, 3) := by decide +kernel
theorem dX12_layAlive_58 : decode cX12_layAlive 58 = .ok (.imul, 1) := by decide +kernel
theorem dX12_layAlive_59 : decode cX12_layAlive 59 = .ok (.if_icmp .ge 95, 3) := by decide +kernel
theorem dX12_layAlive_62 : decode cX12_layAlive 62 = .ok (.aload_n 0, 1) := by decide +kernel
theorem dX12_layAlive_63 : decode cX12_layAlive 63 = .ok (.getfield 33, 3) := by decide +kernel
theorem dX12_layAlive_66 : decode cX12_layAlive 66 = .ok (.iload 4, 2) := by decide +kernel
theorem dX12_layAlive_68 : decode cX12_layAlive 68 = .ok (.iaload, 1) := by decide +kernel
theorem dX12_layAlive_69 : decode cX12_layAlive 69 = .ok (.istore 5, 2) := by decide +kernel
theorem dX12_layAlive_71 : decode cX12_layAlive 71 = .ok (.iload 5, 2) := by decide +kernel
theorem dX12_layAlive_73 : decode cX12_layAlive 73 = .ok (.iconst (-1), 1) := by decide +kernel
theorem dX12_layAlive_74 : decode cX12_layAlive 74 = .ok (.if_icmp .eq 74, 3) := by decide +kernel
theorem dX12_layAlive_77 : decode cX12_layAlive 77 = .ok (.aload_n 0, 1) := by decide +kernel
theorem dX12_layAlive_78 : decode cX12_layAlive 78 = .ok (.getfield 52, 3) := by decide +kernel
theorem dX12_layAlive_81 : decode cX12_layAlive 81 = .ok (.iload_n 1, 1) := by decide +kernel
theorem dX12_layAlive_82 : decode cX12_layAlive 82 = .ok (.iconst 2, 1) := by decide +kernel
theorem dX12_layAlive_83 : decode cX12_layAlive 83 = .ok (.iload_n 2, 1) := by decide +kernel
theorem dX12_layAlive_84 : decode cX12_layAlive 84 = .ok (.iload 4, 2) := by decide +kernel
theorem dX12_layAlive_86 : decode cX12_layAlive 86 = .ok (.iconst 2, 1) := by decide +kernel
theorem dX12_layAlive_87 : decode cX12_layAlive 87 = .ok (.idiv, 1) := by decide +kernel
theorem dX12_layAlive_88 : decode cX12_layAlive 88 = .ok (.invokestatic 323, 3) := by decide +kernel
theorem dX12_layAlive_91 : decode cX12_layAlive 91 = .ok (.baload, 1) := by decide +kernel
theorem dX12_layAlive_92 : decode cX12_layAlive 92 = .ok (.ifCond .ne 56, 3) := by decide +kernel
theorem dX12_layAlive_95 : decode cX12_layAlive 95 = .ok (.aload_n 0, 1) := by decide +kernel
theorem dX12_layAlive_96 : decode cX12_layAlive 96 = .ok (.getfield 52, 3) := by decide +kernel
theorem dX12_layAlive_99 : decode cX12_layAlive 99 = .ok (.iload_n 1, 1) := by decide +kernel
theorem dX12_layAlive_100 : decode cX12_layAlive 100 = .ok (.iconst 0, 1) := by decide +kernel
theorem dX12_layAlive_101 : decode cX12_layAlive 101 = .ok (.iload_n 2, 1) := by decide +kernel
theorem dX12_layAlive_102 : decode cX12_layAlive 102 = .ok (.iload 5, 2) := by decide +kernel
theorem dX12_layAlive_104 : decode cX12_layAlive 104 = .ok (.invokestatic 323, 3) := by decide +kernel
theorem dX12_layAlive_107 : decode cX12_layAlive 107 = .ok (.baload, 1) := by decide +kernel
theorem dX12_layAlive_108 : decode cX12_layAlive 108 = .ok (.ifCond .ne 40, 3) := by decide +kernel
theorem dX12_layAlive_111 : decode cX12_layAlive 111 = .ok (.aload_n 0, 1) := by decide +kernel
theorem dX12_layAlive_112 : decode cX12_layAlive 112 = .ok (.getfield 52, 3) := by decide +kernel
theorem dX12_layAlive_115 : decode cX12_layAlive 115 = .ok (.iload_n 1, 1) := by decide +kernel
theorem dX12_layAlive_116 : decode cX12_layAlive 116 = .ok (.iconst 2, 1) := by decide +kernel
theorem dX12_layAlive_117 : decode cX12_layAlive 117 = .ok (.iload_n 2, 1) := by decide +kernel
theorem dX12_layAlive_118 : decode cX12_layAlive 118 = .ok (.iload 5, 2) := by decide +kernel
theorem dX12_layAlive_120 : decode cX12_layAlive 120 = .ok (.invokestatic 323, 3) := by decide +kernel
theorem dX12_layAlive_123 : decode cX12_layAlive 123 = .ok (.baload, 1) := by decide +kernel
theorem dX12_layAlive_124 : decode cX12_layAlive 124 = .ok (.ifCond .ne 6, 3) := by decide +kernel
theorem dX12_layAlive_127 : decode cX12_layAlive 127 = .ok (.goto 21, 3) := by decide +kernel
theorem dX12_layAlive_130 : decode cX12_layAlive 130 = .ok (.aload_n 0, 1) := by decide +kernel
theorem dX12_layAlive_131 : decode cX12_layAlive 131 = .ok (.getfield 52, 3) := by decide +kernel
theorem dX12_layAlive_134 : decode cX12_layAlive 134 = .ok (.iload_n 1, 1) := by decide +kernel
theorem dX12_layAlive_135 : decode cX12_layAlive 135 = .ok (.iconst 2, 1) := by decide +kernel
theorem dX12_layAlive_136 : decode cX12_layAlive 136 = .ok (.iload_n 2, 1) := by decide +kernel
theorem dX12_layAlive_137 : decode cX12_layAlive 137 = .ok (.iload 4, 2) := by decide +kernel
theorem dX12_layAlive_139 : decode cX12_layAlive 139 = .ok (.iconst 2, 1) := by decide +kernel
theorem dX12_layAlive_140 : decode cX12_layAlive 140 = .ok (.idiv, 1) := by decide +kernel
theorem dX12_layAlive_141 : decode cX12_layAlive 141 = .ok (.invokestatic 323, 3) := by decide +kernel
theorem dX12_layAlive_144 : decode cX12_layAlive 144 = .ok (.iconst 1, 1) := by decide +kernel
theorem dX12_layAlive_145 : decode cX12_layAlive 145 = .ok (.bastore, 1) := by decide +kernel
theorem dX12_layAlive_146 : decode cX12_layAlive 146 = .ok (.iconst 1, 1) := by decide +kernel
theorem dX12_layAlive_147 : decode cX12_layAlive 147 = .ok (.istore_n 3, 1) := by decide +kernel
theorem dX12_layAlive_148 : decode cX12_layAlive 148 = .ok (.iinc 4 1, 3) := by decide +kernel
theorem dX12_layAlive_151 : decode cX12_layAlive 151 = .ok (.goto (-100), 3) := by decide +kernel
theorem dX12_layAlive_154 : decode cX12_layAlive 154 = .ok (.goto (-112), 3) := by decide +kernel
theorem dX12_layAlive_157 : decode cX12_layAlive 157 = .ok (.return_, 1) := by decide +kernel
theorem dX12_isHow_0 : decode cX12_isHow 0 = .ok (.iload_n 0, 1) := by decide +kernel
theorem dX12_isHow_1 : decode cX12_isHow 1 = .ok (.iconst 0, 1) := by decide +kernel
theorem dX12_isHow_2 : decode cX12_isHow 2 = .ok (.iconst 1, 1) := by decide +kernel
theorem dX12_isHow_3 : decode cX12_isHow 3 = .ok (.invokestatic 141, 3) := by decide +kernel
theorem dX12_isHow_6 : decode cX12_isHow 6 = .ok (.ireturn, 1) := by decide +kernel
theorem dX12_fact_0 : decode cX12_fact 0 = .ok (.aload_n 0, 1) := by decide +kernel
theorem dX12_fact_1 : decode cX12_fact 1 = .ok (.getfield 253, 3) := by decide +kernel
theorem dX12_fact_4 : decode cX12_fact 4 = .ok (.ifCond .eq 47, 3) := by decide +kernel
theorem dX12_fact_7 : decode cX12_fact 7 = .ok (.aload_n 0, 1) := by decide +kernel
theorem dX12_fact_8 : decode cX12_fact 8 = .ok (.iload_n 1, 1) := by decide +kernel
theorem dX12_fact_9 : decode cX12_fact 9 = .ok (.invokevirtual 329, 3) := by decide +kernel
theorem dX12_fact_12 : decode cX12_fact 12 = .ok (.ifCond .eq 39, 3) := by decide +kernel
theorem dX12_fact_15 : decode cX12_fact 15 = .ok (.aload_n 0, 1) := by decide +kernel
theorem dX12_fact_16 : decode cX12_fact 16 = .ok (.iload_n 2, 1) := by decide +kernel
theorem dX12_fact_17 : decode cX12_fact 17 = .ok (.invokevirtual 277, 3) := by decide +kernel
theorem dX12_fact_20 : decode cX12_fact 20 = .ok (.ifCond .eq 31, 3) := by decide +kernel
theorem dX12_fact_23 : decode cX12_fact 23 = .ok (.iload_n 3, 1) := by decide +kernel
theorem dX12_fact_24 : decode cX12_fact 24 = .ok (.iconst 0, 1) := by decide +kernel
theorem dX12_fact_25 : decode cX12_fact 25 = .ok (.bipush 7, 2) := by decide +kernel
theorem dX12_fact_27 : decode cX12_fact 27 = .ok (.invokestatic 141, 3) := by decide +kernel
theorem dX12_fact_30 : decode cX12_fact 30 = .ok (.ifCond .eq 21, 3) := by decide +kernel
theorem dX12_fact_33 : decode cX12_fact 33 = .ok (.aload_n 0, 1) := by decide +kernel
theorem dX12_fact_34 : decode cX12_fact 34 = .ok (.iload_n 3, 1) := by decide +kernel
theorem dX12_fact_35 : decode cX12_fact 35 = .ok (.iload_n 1, 1) := by decide +kernel
theorem dX12_fact_36 : decode cX12_fact 36 = .ok (.iload_n 2, 1) := by decide +kernel
theorem dX12_fact_37 : decode cX12_fact 37 = .ok (.invokevirtual 292, 3) := by decide +kernel
theorem dX12_fact_40 : decode cX12_fact 40 = .ok (.ifCond .eq 7, 3) := by decide +kernel
theorem dX12_fact_43 : decode cX12_fact 43 = .ok (.iconst 1, 1) := by decide +kernel
theorem dX12_fact_44 : decode cX12_fact 44 = .ok (.goto 8, 3) := by decide +kernel
theorem dX12_fact_47 : decode cX12_fact 47 = .ok (.iconst 0, 1) := by decide +kernel
theorem dX12_fact_48 : decode cX12_fact 48 = .ok (.goto 4, 3) := by decide +kernel
theorem dX12_fact_51 : decode cX12_fact 51 = .ok (.iconst (-1), 1) := by decide +kernel
theorem dX12_fact_52 : decode cX12_fact 52 = .ok (.ireturn, 1) := by decide +kernel
theorem dX12_placed_0 : decode cX12_placed 0 = .ok (.aload_n 0, 1) := by decide +kernel
theorem dX12_placed_1 : decode cX12_placed 1 = .ok (.getfield 253, 3) := by decide +kernel
theorem dX12_placed_4 : decode cX12_placed 4 = .ok (.ifCond .eq 60, 3) := by decide +kernel
theorem dX12_placed_7 : decode cX12_placed 7 = .ok (.aload_n 0, 1) := by decide +kernel
theorem dX12_placed_8 : decode cX12_placed 8 = .ok (.iload_n 1, 1) := by decide +kernel
theorem dX12_placed_9 : decode cX12_placed 9 = .ok (.invokevirtual 329, 3) := by decide +kernel
theorem dX12_placed_12 : decode cX12_placed 12 = .ok (.ifCond .eq 52, 3) := by decide +kernel
theorem dX12_placed_15 : decode cX12_placed 15 = .ok (.aload_n 0, 1) := by decide +kernel
theorem dX12_placed_16 : decode cX12_placed 16 = .ok (.iload_n 2, 1) := by decide +kernel
theorem dX12_placed_17 : decode cX12_placed 17 = .ok (.invokevirtual 277, 3) := by decide +kernel
theorem dX12_placed_20 : decode cX12_placed 20 = .ok (.ifCond .eq 44, 3) := by decide +kernel
theorem dX12_placed_23 : decode cX12_placed 23 = .ok (.iload_n 3, 1) := by decide +kernel
theorem dX12_placed_24 : decode cX12_placed 24 = .ok (.invokestatic 332, 3) := by decide +kernel
theorem dX12_placed_27 : decode cX12_placed 27 = .ok (.ifCond .eq 37, 3) := by decide +kernel
theorem dX12_placed_30 : decode cX12_placed 30 = .ok (.iload 4, 2) := by decide +kernel
theorem dX12_placed_32 : decode cX12_placed 32 = .ok (.iconst 0, 1) := by decide +kernel
theorem dX12_placed_33 : decode cX12_placed 33 = .ok (.iconst 2, 1) := by decide +kernel
theorem dX12_placed_34 : decode cX12_placed 34 = .ok (.invokestatic 141, 3) := by decide +kernel
theorem dX12_placed_37 : decode cX12_placed 37 = .ok (.ifCond .eq 27, 3) := by decide +kernel
theorem dX12_placed_40 : decode cX12_placed 40 = .ok (.aload_n 0, 1) := by decide +kernel
theorem dX12_placed_41 : decode cX12_placed 41 = .ok (.getfield 52, 3) := by decide +kernel
theorem dX12_placed_44 : decode cX12_placed 44 = .ok (.iload_n 3, 1) := by decide +kernel
theorem dX12_placed_45 : decode cX12_placed 45 = .ok (.iload 4, 2) := by decide +kernel
theorem dX12_placed_47 : decode cX12_placed 47 = .ok (.iload_n 1, 1) := by decide +kernel
theorem dX12_placed_48 : decode cX12_placed 48 = .ok (.iload_n 2, 1) := by decide +kernel
theorem dX12_placed_49 : decode cX12_placed 49 = .ok (.invokestatic 323, 3) := by decide +kernel
theorem dX12_placed_52 : decode cX12_placed 52 = .ok (.baload, 1) := by decide +kernel
theorem dX12_placed_53 : decode cX12_placed 53 = .ok (.ifCond .eq 7, 3) := by decide +kernel
theorem dX12_placed_56 : decode cX12_placed 56 = .ok (.iconst 1, 1) := by decide +kernel
theorem dX12_placed_57 : decode cX12_placed 57 = .ok (.goto 8, 3) := by decide +kernel
theorem dX12_placed_60 : decode cX12_placed 60 = .ok (.iconst 0, 1) := by decide +kernel
theorem dX12_placed_61 : decode cX12_placed 61 = .ok (.goto 4, 3) := by decide +kernel
theorem dX12_placed_64 : decode cX12_placed 64 = .ok (.iconst (-1), 1) := by decide +kernel
theorem dX12_placed_65 : decode cX12_placed 65 = .ok (.ireturn, 1) := by decide +kernel
theorem dX12_expression_0 : decode cX12_expression 0 = .ok (.aload_n 0, 1) := by decide +kernel
theorem dX12_expression_1 : decode cX12_expression 1 = .ok (.iload_n 1, 1) := by decide +kernel
theorem dX12_expression_2 : decode cX12_expression 2 = .ok (.invokevirtual 329, 3) := by decide +kernel
theorem dX12_expression_5 : decode cX12_expression 5 = .ok (.ifCond .ne 6, 3) := by decide +kernel
theorem dX12_expression_8 : decode cX12_expression 8 = .ok (.bipush (-2), 2) := by decide +kernel
theorem dX12_expression_10 : decode cX12_expression 10 = .ok (.ireturn, 1) := by decide +kernel
theorem dX12_expression_11 : decode cX12_expression 11 = .ok (.iconst 0, 1) := by decide +kernel
theorem dX12_expression_12 : decode cX12_expression 12 = .ok (.istore_n 3, 1) := by decide +kernel
theorem dX12_expression_13 : decode cX12_expression 13 = .ok (.iload_n 2, 1) := by decide +kernel
theorem dX12_expression_14 : decode cX12_expression 14 = .ok (.tableswitch 129 0 5 #[38, 48, 48, 64, 78, 78], 38) := by decide +kernel
theorem dX12_expression_52 : decode cX12_expression 52 = .ok (.aload_n 0, 1) := by decide +kernel
theorem dX12_expression_53 : decode cX12_expression 53 = .ok (.sipush 268, 3) := by decide +kernel
theorem dX12_expression_56 : decode cX12_expression 56 = .ok (.iload_n 1, 1) := by decide +kernel
theorem dX12_expression_57 : decode cX12_expression 57 = .ok (.iadd, 1) := by decide +kernel
theorem dX12_expression_58 : decode cX12_expression 58 = .ok (.invokevirtual 218, 3) := by decide +kernel
theorem dX12_expression_61 : decode cX12_expression 61 = .ok (.ireturn, 1) := by decide +kernel
theorem dX12_expression_62 : decode cX12_expression 62 = .ok (.aload_n 0, 1) := by decide +kernel
theorem dX12_expression_63 : decode cX12_expression 63 = .ok (.sipush 292, 3) := by decide +kernel
theorem dX12_expression_66 : decode cX12_expression 66 = .ok (.iconst 2, 1) := by decide +kernel
theorem dX12_expression_67 : decode cX12_expression 67 = .ok (.iload_n 1, 1) := by decide +kernel
theorem dX12_expression_68 : decode cX12_expression 68 = .ok (.imul, 1) := by decide +kernel
theorem dX12_expression_69 : decode cX12_expression 69 = .ok (.iadd, 1) := by decide +kernel
theorem dX12_expression_70 : decode cX12_expression 70 = .ok (.iload_n 2, 1) := by decide +kernel
theorem dX12_expression_71 : decode cX12_expression 71 = .ok (.iadd, 1) := by decide +kernel
theorem dX12_expression_72 : decode cX12_expression 72 = .ok (.iconst 1, 1) := by decide +kernel
theorem dX12_expression_73 : decode cX12_expression 73 = .ok (.isub, 1) := by decide +kernel
theorem dX12_expression_74 : decode cX12_expression 74 = .ok (.invokevirtual 218, 3) := by decide +kernel
theorem dX12_expression_77 : decode cX12_expression 77 = .ok (.ireturn, 1) := by decide +kernel
theorem dX12_expression_78 : decode cX12_expression 78 = .ok (.aload_n 0, 1) := by decide +kernel
theorem dX12_expression_79 : decode cX12_expression 79 = .ok (.iload_n 1, 1) := by decide +kernel
theorem dX12_expression_80 : decode cX12_expression 80 = .ok (.invokevirtual 286, 3) := by decide +kernel
theorem dX12_expression_83 : decode cX12_expression 83 = .ok (.ifCond .eq 7, 3) := by decide +kernel
theorem dX12_expression_86 : decode cX12_expression 86 = .ok (.iconst 1, 1) := by decide +kernel
theorem dX12_expression_87 : decode cX12_expression 87 = .ok (.goto 4, 3) := by decide +kernel
theorem dX12_expression_90 : decode cX12_expression 90 = .ok (.iconst 0, 1) := by decide +kernel
theorem dX12_expression_91 : decode cX12_expression 91 = .ok (.ireturn, 1) := by decide +kernel
theorem dX12_expression_92 : decode cX12_expression 92 = .ok (.iconst 0, 1) := by decide +kernel
theorem dX12_expression_93 : decode cX12_expression 93 = .ok (.istore 4, 2) := by decide +kernel
theorem dX12_expression_95 : decode cX12_expression 95 = .ok (.iload 4, 2) := by decide +kernel
theorem dX12_expression_97 : decode cX12_expression 97 = .ok (.aload_n 0, 1) := by decide +kernel
theorem dX12_expression_98 : decode cX12_expression 98 = .ok (.getfield 215, 3) := by decide +kernel
theorem dX12_expression_101 : decode cX12_expression 101 = .ok (.if_icmp .ge 40, 3) := by decide +kernel
theorem dX12_expression_104 : decode cX12_expression 104 = .ok (.iload_n 3, 1) := by decide +kernel
theorem dX12_expression_105 : decode cX12_expression 105 = .ok (.aload_n 0, 1) := by decide +kernel
theorem dX12_expression_106 : decode cX12_expression 106 = .ok (.iload_n 2, 1) := by decide +kernel
theorem dX12_expression_107 : decode cX12_expression 107 = .ok (.iconst 4, 1) := by decide +kernel
theorem dX12_expression_108 : decode cX12_expression 108 = .ok (.isub, 1) := by decide +kernel
theorem dX12_expression_109 : decode cX12_expression 109 = .ok (.iload_n 1, 1) := by decide +kernel
theorem dX12_expression_110 : decode cX12_expression 110 = .ok (.iload 4, 2) := by decide +kernel
theorem dX12_expression_112 : decode cX12_expression 112 = .ok (.invokevirtual 292, 3) := by decide +kernel
theorem dX12_expression_115 : decode cX12_expression 115 = .ok (.iload_n 2, 1) := by decide +kernel
theorem dX12_expression_116 : decode cX12_expression 116 = .ok (.iconst 4, 1) := by decide +kernel
theorem dX12_expression_117 : decode cX12_expression 117 = .ok (.if_icmp .ne 7, 3) := by decide +kernel
theorem dX12_expression_120 : decode cX12_expression 120 = .ok (.iconst 1, 1) := by decide +kernel
theorem dX12_expression_121 : decode cX12_expression 121 = .ok (.goto 4, 3) := by decide +kernel
theorem dX12_expression_124 : decode cX12_expression 124 = .ok (.iconst 0, 1) := by decide +kernel
theorem dX12_expression_125 : decode cX12_expression 125 = .ok (.if_icmp .ne 7, 3) := by decide +kernel
theorem dX12_expression_128 : decode cX12_expression 128 = .ok (.iconst 1, 1) := by decide +kernel
theorem dX12_expression_129 : decode cX12_expression 129 = .ok (.goto 4, 3) := by decide +kernel
theorem dX12_expression_132 : decode cX12_expression 132 = .ok (.iconst 0, 1) := by decide +kernel
theorem dX12_expression_133 : decode cX12_expression 133 = .ok (.iadd, 1) := by decide +kernel
theorem dX12_expression_134 : decode cX12_expression 134 = .ok (.istore_n 3, 1) := by decide +kernel
theorem dX12_expression_135 : decode cX12_expression 135 = .ok (.iinc 4 1, 3) := by decide +kernel
theorem dX12_expression_138 : decode cX12_expression 138 = .ok (.goto (-43), 3) := by decide +kernel
theorem dX12_expression_141 : decode cX12_expression 141 = .ok (.iload_n 3, 1) := by decide +kernel
theorem dX12_expression_142 : decode cX12_expression 142 = .ok (.ireturn, 1) := by decide +kernel
theorem dX12_expression_143 : decode cX12_expression 143 = .ok (.bipush (-2), 2) := by decide +kernel
theorem dX12_expression_145 : decode cX12_expression 145 = .ok (.ireturn, 1) := by decide +kernel
theorem dX12_countPlaced_0 : decode cX12_countPlaced 0 = .ok (.iconst 0, 1) := by decide +kernel
theorem dX12_countPlaced_1 : decode cX12_countPlaced 1 = .ok (.istore 4, 2) := by decide +kernel
theorem dX12_countPlaced_3 : decode cX12_countPlaced 3 = .ok (.iconst 0, 1) := by decide +kernel
theorem dX12_countPlaced_4 : decode cX12_countPlaced 4 = .ok (.istore 5, 2) := by decide +kernel
theorem dX12_countPlaced_6 : decode cX12_countPlaced 6 = .ok (.iload 5, 2) := by decide +kernel
theorem dX12_countPlaced_8 : decode cX12_countPlaced 8 = .ok (.aload_n 0, 1) := by decide +kernel
theorem dX12_countPlaced_9 : decode cX12_countPlaced 9 = .ok (.getfield 215, 3) := by decide +kernel
theorem dX12_countPlaced_12 : decode cX12_countPlaced 12 = .ok (.if_icmp .ge 35, 3) := by decide +kernel
theorem dX12_countPlaced_15 : decode cX12_countPlaced 15 = .ok (.iload 4, 2) := by decide +kernel
theorem dX12_countPlaced_17 : decode cX12_countPlaced 17 = .ok (.aload_n 0, 1) := by decide +kernel
theorem dX12_countPlaced_18 : decode cX12_countPlaced 18 = .ok (.getfield 52, 3) := by decide +kernel
theorem dX12_countPlaced_21 : decode cX12_countPlaced 21 = .ok (.iload_n 1, 1) := by decide +kernel
theorem dX12_countPlaced_22 : decode cX12_countPlaced 22 = .ok (.iload_n 2, 1) := by decide +kernel
theorem dX12_countPlaced_23 : decode cX12_countPlaced 23 = .ok (.iload_n 3, 1) := by decide +kernel
theorem dX12_countPlaced_24 : decode cX12_countPlaced 24 = .ok (.iload 5, 2) := by decide +kernel
theorem dX12_countPlaced_26 : decode cX12_countPlaced 26 = .ok (.invokestatic 323, 3) := by decide +kernel
theorem dX12_countPlaced_29 : decode cX12_countPlaced 29 = .ok (.baload, 1) := by decide +kernel
theorem dX12_countPlaced_30 : decode cX12_countPlaced 30 = .ok (.ifCond .eq 7, 3) := by decide +kernel
theorem dX12_countPlaced_33 : decode cX12_countPlaced 33 = .ok (.iconst 1, 1) := by decide +kernel
theorem dX12_countPlaced_34 : decode cX12_countPlaced 34 = .ok (.goto 4, 3) := by decide +kernel
theorem dX12_countPlaced_37 : decode cX12_countPlaced 37 = .ok (.iconst 0, 1) := by decide +kernel
theorem dX12_countPlaced_38 : decode cX12_countPlaced 38 = .ok (.iadd, 1) := by decide +kernel
theorem dX12_countPlaced_39 : decode cX12_countPlaced 39 = .ok (.istore 4, 2) := by decide +kernel
theorem dX12_countPlaced_41 : decode cX12_countPlaced 41 = .ok (.iinc 5 1, 3) := by decide +kernel
theorem dX12_countPlaced_44 : decode cX12_countPlaced 44 = .ok (.goto (-38), 3) := by decide +kernel
theorem dX12_countPlaced_47 : decode cX12_countPlaced 47 = .ok (.iload 4, 2) := by decide +kernel
theorem dX12_countPlaced_49 : decode cX12_countPlaced 49 = .ok (.ireturn, 1) := by decide +kernel
theorem dX12_doClash_0 : decode cX12_doClash 0 = .ok (.iconst 0, 1) := by decide +kernel
theorem dX12_doClash_1 : decode cX12_doClash 1 = .ok (.istore 4, 2) := by decide +kernel
theorem dX12_doClash_3 : decode cX12_doClash 3 = .ok (.iload 4, 2) := by decide +kernel
theorem dX12_doClash_5 : decode cX12_doClash 5 = .ok (.aload_n 0, 1) := by decide +kernel
theorem dX12_doClash_6 : decode cX12_doClash 6 = .ok (.getfield 215, 3) := by decide +kernel
theorem dX12_doClash_9 : decode cX12_doClash 9 = .ok (.if_icmp .ge 43, 3) := by decide +kernel
theorem dX12_doClash_12 : decode cX12_doClash 12 = .ok (.aload_n 0, 1) := by decide +kernel
theorem dX12_doClash_13 : decode cX12_doClash 13 = .ok (.getfield 52, 3) := by decide +kernel
theorem dX12_doClash_16 : decode cX12_doClash 16 = .ok (.iload_n 1, 1) := by decide +kernel
theorem dX12_doClash_17 : decode cX12_doClash 17 = .ok (.iconst 2, 1) := by decide +kernel
theorem dX12_doClash_18 : decode cX12_doClash 18 = .ok (.iload_n 2, 1) := by decide +kernel
theorem dX12_doClash_19 : decode cX12_doClash 19 = .ok (.iload 4, 2) := by decide +kernel
theorem dX12_doClash_21 : decode cX12_doClash 21 = .ok (.invokestatic 323, 3) := by decide +kernel
theorem dX12_doClash_24 : decode cX12_doClash 24 = .ok (.baload, 1) := by decide +kernel
theorem dX12_doClash_25 : decode cX12_doClash 25 = .ok (.ifCond .eq 21, 3) := by decide +kernel
theorem dX12_doClash_28 : decode cX12_doClash 28 = .ok (.aload_n 0, 1) := by decide +kernel
theorem dX12_doClash_29 : decode cX12_doClash 29 = .ok (.getfield 52, 3) := by decide +kernel
theorem dX12_doClash_32 : decode cX12_doClash 32 = .ok (.iload_n 1, 1) := by decide +kernel
theorem dX12_doClash_33 : decode cX12_doClash 33 = .ok (.iconst 2, 1) := by decide +kernel
theorem dX12_doClash_34 : decode cX12_doClash 34 = .ok (.iload_n 3, 1) := by decide +kernel
theorem dX12_doClash_35 : decode cX12_doClash 35 = .ok (.iload 4, 2) := by decide +kernel
theorem dX12_doClash_37 : decode cX12_doClash 37 = .ok (.invokestatic 323, 3) := by decide +kernel
theorem dX12_doClash_40 : decode cX12_doClash 40 = .ok (.baload, 1) := by decide +kernel
theorem dX12_doClash_41 : decode cX12_doClash 41 = .ok (.ifCond .eq 5, 3) := by decide +kernel
theorem dX12_doClash_44 : decode cX12_doClash 44 = .ok (.iconst 1, 1) := by decide +kernel
theorem dX12_doClash_45 : decode cX12_doClash 45 = .ok (.ireturn, 1) := by decide +kernel
theorem dX12_doClash_46 : decode cX12_doClash 46 = .ok (.iinc 4 1, 3) := by decide +kernel
theorem dX12_doClash_49 : decode cX12_doClash 49 = .ok (.goto (-46), 3) := by decide +kernel
theorem dX12_doClash_52 : decode cX12_doClash 52 = .ok (.iconst 0, 1) := by decide +kernel
theorem dX12_doClash_53 : decode cX12_doClash 53 = .ok (.ireturn, 1) := by decide +kernel
theorem dX12_clashes_0 : decode cX12_clashes 0 = .ok (.iconst 0, 1) := by decide +kernel
theorem dX12_clashes_1 : decode cX12_clashes 1 = .ok (.istore_n 3, 1) := by decide +kernel
theorem dX12_clashes_2 : decode cX12_clashes 2 = .ok (.iconst 0, 1) := by decide +kernel
theorem dX12_clashes_3 : decode cX12_clashes 3 = .ok (.istore 4, 2) := by decide +kernel
theorem dX12_clashes_5 : decode cX12_clashes 5 = .ok (.iload 4, 2) := by decide +kernel
theorem dX12_clashes_7 : decode cX12_clashes 7 = .ok (.aload_n 0, 1) := by decide +kernel
theorem dX12_clashes_8 : decode cX12_clashes 8 = .ok (.iconst 2, 1) := by decide +kernel
theorem dX12_clashes_9 : decode cX12_clashes 9 = .ok (.invokevirtual 218, 3) := by decide +kernel
theorem dX12_clashes_12 : decode cX12_clashes 12 = .ok (.if_icmp .ge 34, 3) := by decide +kernel
theorem dX12_clashes_15 : decode cX12_clashes 15 = .ok (.iload_n 3, 1) := by decide +kernel
theorem dX12_clashes_16 : decode cX12_clashes 16 = .ok (.iload 4, 2) := by decide +kernel
theorem dX12_clashes_18 : decode cX12_clashes 18 = .ok (.iload_n 2, 1) := by decide +kernel
theorem dX12_clashes_19 : decode cX12_clashes 19 = .ok (.if_icmp .eq 18, 3) := by decide +kernel
theorem dX12_clashes_22 : decode cX12_clashes 22 = .ok (.aload_n 0, 1) := by decide +kernel
theorem dX12_clashes_23 : decode cX12_clashes 23 = .ok (.iload_n 1, 1) := by decide +kernel
theorem dX12_clashes_24 : decode cX12_clashes 24 = .ok (.iload_n 2, 1) := by decide +kernel
theorem dX12_clashes_25 : decode cX12_clashes 25 = .ok (.iload 4, 2) := by decide +kernel
theorem dX12_clashes_27 : decode cX12_clashes 27 = .ok (.invokevirtual 335, 3) := by decide +kernel
theorem dX12_clashes_30 : decode cX12_clashes 30 = .ok (.ifCond .eq 7, 3) := by decide +kernel
theorem dX12_clashes_33 : decode cX12_clashes 33 = .ok (.iconst 1, 1) := by decide +kernel
theorem dX12_clashes_34 : decode cX12_clashes 34 = .ok (.goto 4, 3) := by decide +kernel
theorem dX12_clashes_37 : decode cX12_clashes 37 = .ok (.iconst 0, 1) := by decide +kernel
theorem dX12_clashes_38 : decode cX12_clashes 38 = .ok (.iadd, 1) := by decide +kernel
theorem dX12_clashes_39 : decode cX12_clashes 39 = .ok (.istore_n 3, 1) := by decide +kernel
theorem dX12_clashes_40 : decode cX12_clashes 40 = .ok (.iinc 4 1, 3) := by decide +kernel
theorem dX12_clashes_43 : decode cX12_clashes 43 = .ok (.goto (-38), 3) := by decide +kernel
theorem dX12_clashes_46 : decode cX12_clashes 46 = .ok (.iload_n 3, 1) := by decide +kernel
theorem dX12_clashes_47 : decode cX12_clashes 47 = .ok (.ireturn, 1) := by decide +kernel
theorem dX12_placement_0 : decode cX12_placement 0 = .ok (.aload_n 0, 1) := by decide +kernel
theorem dX12_placement_1 : decode cX12_placement 1 = .ok (.getfield 253, 3) := by decide +kernel
theorem dX12_placement_4 : decode cX12_placement 4 = .ok (.ifCond .eq 32, 3) := by decide +kernel
theorem dX12_placement_7 : decode cX12_placement 7 = .ok (.iload_n 1, 1) := by decide +kernel
theorem dX12_placement_8 : decode cX12_placement 8 = .ok (.iconst (-1), 1) := by decide +kernel
theorem dX12_placement_9 : decode cX12_placement 9 = .ok (.if_icmp .eq 11, 3) := by decide +kernel
theorem dX12_placement_12 : decode cX12_placement 12 = .ok (.aload_n 0, 1) := by decide +kernel
theorem dX12_placement_13 : decode cX12_placement 13 = .ok (.iload_n 1, 1) := by decide +kernel
theorem dX12_placement_14 : decode cX12_placement 14 = .ok (.invokevirtual 329, 3) := by decide +kernel
theorem dX12_placement_17 : decode cX12_placement 17 = .ok (.ifCond .eq 19, 3) := by decide +kernel
theorem dX12_placement_20 : decode cX12_placement 20 = .ok (.iload_n 2, 1) := by decide +kernel
theorem dX12_placement_21 : decode cX12_placement 21 = .ok (.invokestatic 332, 3) := by decide +kernel
theorem dX12_placement_24 : decode cX12_placement 24 = .ok (.ifCond .eq 12, 3) := by decide +kernel
theorem dX12_placement_27 : decode cX12_placement 27 = .ok (.iload_n 3, 1) := by decide +kernel
theorem dX12_placement_28 : decode cX12_placement 28 = .ok (.iconst 0, 1) := by decide +kernel
theorem dX12_placement_29 : decode cX12_placement 29 = .ok (.iconst 3, 1) := by decide +kernel
theorem dX12_placement_30 : decode cX12_placement 30 = .ok (.invokestatic 141, 3) := by decide +kernel
theorem dX12_placement_33 : decode cX12_placement 33 = .ok (.ifCond .ne 5, 3) := by decide +kernel
theorem dX12_placement_36 : decode cX12_placement 36 = .ok (.iconst (-1), 1) := by decide +kernel
theorem dX12_placement_37 : decode cX12_placement 37 = .ok (.ireturn, 1) := by decide +kernel
theorem dX12_placement_38 : decode cX12_placement 38 = .ok (.iload_n 1, 1) := by decide +kernel
theorem dX12_placement_39 : decode cX12_placement 39 = .ok (.iconst (-1), 1) := by decide +kernel
theorem dX12_placement_40 : decode cX12_placement 40 = .ok (.if_icmp .eq 25, 3) := by decide +kernel
theorem dX12_placement_43 : decode cX12_placement 43 = .ok (.iload_n 3, 1) := by decide +kernel
theorem dX12_placement_44 : decode cX12_placement 44 = .ok (.iconst 3, 1) := by decide +kernel
theorem dX12_placement_45 : decode cX12_placement 45 = .ok (.if_icmp .ge 13, 3) := by decide +kernel
theorem dX12_placement_48 : decode cX12_placement 48 = .ok (.aload_n 0, 1) := by decide +kernel
theorem dX12_placement_49 : decode cX12_placement 49 = .ok (.iload_n 2, 1) := by decide +kernel
theorem dX12_placement_50 : decode cX12_placement 50 = .ok (.iload_n 3, 1) := by decide +kernel
theorem dX12_placement_51 : decode cX12_placement 51 = .ok (.iload_n 1, 1) := by decide +kernel
theorem dX12_placement_52 : decode cX12_placement 52 = .ok (.invokevirtual 338, 3) := by decide +kernel
theorem dX12_placement_55 : decode cX12_placement 55 = .ok (.goto 9, 3) := by decide +kernel
theorem dX12_placement_58 : decode cX12_placement 58 = .ok (.aload_n 0, 1) := by decide +kernel
theorem dX12_placement_59 : decode cX12_placement 59 = .ok (.iload_n 2, 1) := by decide +kernel
theorem dX12_placement_60 : decode cX12_placement 60 = .ok (.iload_n 1, 1) := by decide +kernel
theorem dX12_placement_61 : decode cX12_placement 61 = .ok (.invokevirtual 341, 3) := by decide +kernel
theorem dX12_placement_64 : decode cX12_placement 64 = .ok (.ireturn, 1) := by decide +kernel
theorem dX12_placement_65 : decode cX12_placement 65 = .ok (.iconst 0, 1) := by decide +kernel
theorem dX12_placement_66 : decode cX12_placement 66 = .ok (.istore 4, 2) := by decide +kernel
theorem dX12_placement_68 : decode cX12_placement 68 = .ok (.iconst 0, 1) := by decide +kernel
theorem dX12_placement_69 : decode cX12_placement 69 = .ok (.istore 5, 2) := by decide +kernel
theorem dX12_placement_71 : decode cX12_placement 71 = .ok (.iload 5, 2) := by decide +kernel
theorem dX12_placement_73 : decode cX12_placement 73 = .ok (.aload_n 0, 1) := by decide +kernel
theorem dX12_placement_74 : decode cX12_placement 74 = .ok (.iconst 2, 1) := by decide +kernel
theorem dX12_placement_75 : decode cX12_placement 75 = .ok (.invokevirtual 218, 3) := by decide +kernel
theorem dX12_placement_78 : decode cX12_placement 78 = .ok (.if_icmp .ge 37, 3) := by decide +kernel
theorem dX12_placement_81 : decode cX12_placement 81 = .ok (.iload 4, 2) := by decide +kernel
theorem dX12_placement_83 : decode cX12_placement 83 = .ok (.iload_n 3, 1) := by decide +kernel
theorem dX12_placement_84 : decode cX12_placement 84 = .ok (.iconst 3, 1) := by decide +kernel
theorem dX12_placement_85 : decode cX12_placement 85 = .ok (.if_icmp .ge 14, 3) := by decide +kernel
theorem dX12_placement_88 : decode cX12_placement 88 = .ok (.aload_n 0, 1) := by decide +kernel
theorem dX12_placement_89 : decode cX12_placement 89 = .ok (.iload_n 2, 1) := by decide +kernel
theorem dX12_placement_90 : decode cX12_placement 90 = .ok (.iload_n 3, 1) := by decide +kernel
theorem dX12_placement_91 : decode cX12_placement 91 = .ok (.iload 5, 2) := by decide +kernel
theorem dX12_placement_93 : decode cX12_placement 93 = .ok (.invokevirtual 338, 3) := by decide +kernel
theorem dX12_placement_96 : decode cX12_placement 96 = .ok (.goto 10, 3) := by decide +kernel
theorem dX12_placement_99 : decode cX12_placement 99 = .ok (.aload_n 0, 1) := by decide +kernel
theorem dX12_placement_100 : decode cX12_placement 100 = .ok (.iload_n 2, 1) := by decide +kernel
theorem dX12_placement_101 : decode cX12_placement 101 = .ok (.iload 5, 2) := by decide +kernel
theorem dX12_placement_103 : decode cX12_placement 103 = .ok (.invokevirtual 341, 3) := by decide +kernel
theorem dX12_placement_106 : decode cX12_placement 106 = .ok (.iadd, 1) := by decide +kernel
theorem dX12_placement_107 : decode cX12_placement 107 = .ok (.istore 4, 2) := by decide +kernel
theorem dX12_placement_109 : decode cX12_placement 109 = .ok (.iinc 5 1, 3) := by decide +kernel
theorem dX12_placement_112 : decode cX12_placement 112 = .ok (.goto (-41), 3) := by decide +kernel
theorem dX12_placement_115 : decode cX12_placement 115 = .ok (.iload_n 3, 1) := by decide +kernel
theorem dX12_placement_116 : decode cX12_placement 116 = .ok (.iconst 3, 1) := by decide +kernel
theorem dX12_placement_117 : decode cX12_placement 117 = .ok (.if_icmp .ge 8, 3) := by decide +kernel
theorem dX12_placement_120 : decode cX12_placement 120 = .ok (.iload 4, 2) := by decide +kernel
theorem dX12_placement_122 : decode cX12_placement 122 = .ok (.goto 7, 3) := by decide +kernel
theorem dX12_placement_125 : decode cX12_placement 125 = .ok (.iload 4, 2) := by decide +kernel
theorem dX12_placement_127 : decode cX12_placement 127 = .ok (.iconst 2, 1) := by decide +kernel
theorem dX12_placement_128 : decode cX12_placement 128 = .ok (.idiv, 1) := by decide +kernel
theorem dX12_placement_129 : decode cX12_placement 129 = .ok (.ireturn, 1) := by decide +kernel
theorem dX12_layNames_0 : decode cX12_layNames 0 = .ok (.iconst 0, 1) := by decide +kernel
theorem dX12_layNames_1 : decode cX12_layNames 1 = .ok (.istore_n 2, 1) := by decide +kernel
theorem dX12_layNames_2 : decode cX12_layNames 2 = .ok (.iconst 0, 1) := by decide +kernel
theorem dX12_layNames_3 : decode cX12_layNames 3 = .ok (.istore_n 3, 1) := by decide +kernel
theorem dX12_layNames_4 : decode cX12_layNames 4 = .ok (.iload_n 3, 1) := by decide +kernel
theorem dX12_layNames_5 : decode cX12_layNames 5 = .ok (.aload_n 0, 1) := by decide +kernel
theorem dX12_layNames_6 : decode cX12_layNames 6 = .ok (.iconst 2, 1) := by decide +kernel
theorem dX12_layNames_7 : decode cX12_layNames 7 = .ok (.invokevirtual 218, 3) := by decide +kernel
theorem dX12_layNames_10 : decode cX12_layNames 10 = .ok (.if_icmp .ge 128, 3) := by decide +kernel
theorem dX12_layNames_13 : decode cX12_layNames 13 = .ok (.aload_n 0, 1) := by decide +kernel
theorem dX12_layNames_14 : decode cX12_layNames 14 = .ok (.getfield 55, 3) := by decide +kernel
theorem dX12_layNames_17 : decode cX12_layNames 17 = .ok (.iload_n 3, 1) := by decide +kernel
theorem dX12_layNames_18 : decode cX12_layNames 18 = .ok (.iconst (-1), 1) := by decide +kernel
theorem dX12_layNames_19 : decode cX12_layNames 19 = .ok (.iastore, 1) := by decide +kernel
theorem dX12_layNames_20 : decode cX12_layNames 20 = .ok (.aload_n 0, 1) := by decide +kernel
theorem dX12_layNames_21 : decode cX12_layNames 21 = .ok (.iload_n 1, 1) := by decide +kernel
theorem dX12_layNames_22 : decode cX12_layNames 22 = .ok (.iconst 0, 1) := by decide +kernel
theorem dX12_layNames_23 : decode cX12_layNames 23 = .ok (.iload_n 3, 1) := by decide +kernel
theorem dX12_layNames_24 : decode cX12_layNames 24 = .ok (.invokevirtual 338, 3) := by decide +kernel
theorem dX12_layNames_27 : decode cX12_layNames 27 = .ok (.ifCond .ne 6, 3) := by decide +kernel
theorem dX12_layNames_30 : decode cX12_layNames 30 = .ok (.goto 102, 3) := by decide +kernel
theorem dX12_layNames_33 : decode cX12_layNames 33 = .ok (.iconst 0, 1) := by decide +kernel
theorem dX12_layNames_34 : decode cX12_layNames 34 = .ok (.istore 4, 2) := by decide +kernel
theorem dX12_layNames_36 : decode cX12_layNames 36 = .ok (.iconst 0, 1) := by decide +kernel
theorem dX12_layNames_37 : decode cX12_layNames 37 = .ok (.istore 5, 2) := by decide +kernel
theorem dX12_layNames_39 : decode cX12_layNames 39 = .ok (.iload 5, 2) := by decide +kernel
theorem dX12_layNames_41 : decode cX12_layNames 41 = .ok (.iload_n 3, 1) := by decide +kernel
theorem dX12_layNames_42 : decode cX12_layNames 42 = .ok (.if_icmp .ge 45, 3) := by decide +kernel
theorem dX12_layNames_45 : decode cX12_layNames 45 = .ok (.aload_n 0, 1) := by decide +kernel
theorem dX12_layNames_46 : decode cX12_layNames 46 = .ok (.getfield 55, 3) := by decide +kernel
theorem dX12_layNames_49 : decode cX12_layNames 49 = .ok (.iload 5, 2) := by decide +kernel
theorem dX12_layNames_51 : decode cX12_layNames 51 = .ok (.iaload, 1) := by decide +kernel
theorem dX12_layNames_52 : decode cX12_layNames 52 = .ok (.iconst (-1), 1) := by decide +kernel
theorem dX12_layNames_53 : decode cX12_layNames 53 = .ok (.if_icmp .eq 28, 3) := by decide +kernel
theorem dX12_layNames_56 : decode cX12_layNames 56 = .ok (.aload_n 0, 1) := by decide +kernel
theorem dX12_layNames_57 : decode cX12_layNames 57 = .ok (.iload_n 1, 1) := by decide +kernel
theorem dX12_layNames_58 : decode cX12_layNames 58 = .ok (.iload_n 3, 1) := by decide +kernel
theorem dX12_layNames_59 : decode cX12_layNames 59 = .ok (.iload 5, 2) := by decide +kernel
theorem dX12_layNames_61 : decode cX12_layNames 61 = .ok (.invokevirtual 335, 3) := by decide +kernel
theorem dX12_layNames_64 : decode cX12_layNames 64 = .ok (.ifCond .eq 17, 3) := by decide +kernel
theorem dX12_layNames_67 : decode cX12_layNames 67 = .ok (.iload 4, 2) := by decide +kernel
theorem dX12_layNames_69 : decode cX12_layNames 69 = .ok (.iconst 1, 1) := by decide +kernel
theorem dX12_layNames_70 : decode cX12_layNames 70 = .ok (.aload_n 0, 1) := by decide +kernel
theorem dX12_layNames_71 : decode cX12_layNames 71 = .ok (.getfield 55, 3) := by decide +kernel
theorem dX12_layNames_74 : decode cX12_layNames 74 = .ok (.iload 5, 2) := by decide +kernel
theorem dX12_layNames_76 : decode cX12_layNames 76 = .ok (.iaload, 1) := by decide +kernel
theorem dX12_layNames_77 : decode cX12_layNames 77 = .ok (.ishl, 1) := by decide +kernel
theorem dX12_layNames_78 : decode cX12_layNames 78 = .ok (.ior, 1) := by decide +kernel
theorem dX12_layNames_79 : decode cX12_layNames 79 = .ok (.istore 4, 2) := by decide +kernel
theorem dX12_layNames_81 : decode cX12_layNames 81 = .ok (.iinc 5 1, 3) := by decide +kernel
theorem dX12_layNames_84 : decode cX12_layNames 84 = .ok (.goto (-45), 3) := by decide +kernel
theorem dX12_layNames_87 : decode cX12_layNames 87 = .ok (.iconst 0, 1) := by decide +kernel
theorem dX12_layNames_88 : decode cX12_layNames 88 = .ok (.istore 5, 2) := by decide +kernel
theorem dX12_layNames_90 : decode cX12_layNames 90 = .ok (.iload 4, 2) := by decide +kernel
theorem dX12_layNames_92 : decode cX12_layNames 92 = .ok (.iload 5, 2) := by decide +kernel
theorem dX12_layNames_94 : decode cX12_layNames 94 = .ok (.ishr, 1) := by decide +kernel
theorem dX12_layNames_95 : decode cX12_layNames 95 = .ok (.iconst 1, 1) := by decide +kernel
theorem dX12_layNames_96 : decode cX12_layNames 96 = .ok (.iand, 1) := by decide +kernel
theorem dX12_layNames_97 : decode cX12_layNames 97 = .ok (.iconst 1, 1) := by decide +kernel
theorem dX12_layNames_98 : decode cX12_layNames 98 = .ok (.if_icmp .ne 9, 3) := by decide +kernel
theorem dX12_layNames_101 : decode cX12_layNames 101 = .ok (.iinc 5 1, 3) := by decide +kernel
theorem dX12_layNames_104 : decode cX12_layNames 104 = .ok (.goto (-14), 3) := by decide +kernel
theorem dX12_layNames_107 : decode cX12_layNames 107 = .ok (.aload_n 0, 1) := by decide +kernel
theorem dX12_layNames_108 : decode cX12_layNames 108 = .ok (.getfield 55, 3) := by decide +kernel
theorem dX12_layNames_111 : decode cX12_layNames 111 = .ok (.iload_n 3, 1) := by decide +kernel
theorem dX12_layNames_112 : decode cX12_layNames 112 = .ok (.iload 5, 2) := by decide +kernel
theorem dX12_layNames_114 : decode cX12_layNames 114 = .ok (.iastore, 1) := by decide +kernel
theorem dX12_layNames_115 : decode cX12_layNames 115 = .ok (.iload 5, 2) := by decide +kernel
theorem dX12_layNames_117 : decode cX12_layNames 117 = .ok (.iconst 1, 1) := by decide +kernel
theorem dX12_layNames_118 : decode cX12_layNames 118 = .ok (.iadd, 1) := by decide +kernel
theorem dX12_layNames_119 : decode cX12_layNames 119 = .ok (.iload_n 2, 1) := by decide +kernel
theorem dX12_layNames_120 : decode cX12_layNames 120 = .ok (.if_icmp .le 10, 3) := by decide +kernel
theorem dX12_layNames_123 : decode cX12_layNames 123 = .ok (.iload 5, 2) := by decide +kernel
theorem dX12_layNames_125 : decode cX12_layNames 125 = .ok (.iconst 1, 1) := by decide +kernel
theorem dX12_layNames_126 : decode cX12_layNames 126 = .ok (.iadd, 1) := by decide +kernel
theorem dX12_layNames_127 : decode cX12_layNames 127 = .ok (.goto 4, 3) := by decide +kernel
theorem dX12_layNames_130 : decode cX12_layNames 130 = .ok (.iload_n 2, 1) := by decide +kernel
theorem dX12_layNames_131 : decode cX12_layNames 131 = .ok (.istore_n 2, 1) := by decide +kernel
theorem dX12_layNames_132 : decode cX12_layNames 132 = .ok (.iinc 3 1, 3) := by decide +kernel
theorem dX12_layNames_135 : decode cX12_layNames 135 = .ok (.goto (-131), 3) := by decide +kernel
theorem dX12_layNames_138 : decode cX12_layNames 138 = .ok (.iload_n 2, 1) := by decide +kernel
theorem dX12_layNames_139 : decode cX12_layNames 139 = .ok (.ireturn, 1) := by decide +kernel
theorem dX12_shared_0 : decode cX12_shared 0 = .ok (.aload_n 0, 1) := by decide +kernel
theorem dX12_shared_1 : decode cX12_shared 1 = .ok (.getfield 253, 3) := by decide +kernel
theorem dX12_shared_4 : decode cX12_shared 4 = .ok (.ifCond .eq 23, 3) := by decide +kernel
theorem dX12_shared_7 : decode cX12_shared 7 = .ok (.iload_n 1, 1) := by decide +kernel
theorem dX12_shared_8 : decode cX12_shared 8 = .ok (.iconst (-1), 1) := by decide +kernel
theorem dX12_shared_9 : decode cX12_shared 9 = .ok (.if_icmp .eq 11, 3) := by decide +kernel
theorem dX12_shared_12 : decode cX12_shared 12 = .ok (.aload_n 0, 1) := by decide +kernel
theorem dX12_shared_13 : decode cX12_shared 13 = .ok (.iload_n 1, 1) := by decide +kernel
theorem dX12_shared_14 : decode cX12_shared 14 = .ok (.invokevirtual 329, 3) := by decide +kernel
theorem dX12_shared_17 : decode cX12_shared 17 = .ok (.ifCond .eq 10, 3) := by decide +kernel
theorem dX12_shared_20 : decode cX12_shared 20 = .ok (.iload_n 2, 1) := by decide +kernel
theorem dX12_shared_21 : decode cX12_shared 21 = .ok (.invokestatic 332, 3) := by decide +kernel
theorem dX12_shared_24 : decode cX12_shared 24 = .ok (.ifCond .ne 5, 3) := by decide +kernel
theorem dX12_shared_27 : decode cX12_shared 27 = .ok (.iconst (-1), 1) := by decide +kernel
theorem dX12_shared_28 : decode cX12_shared 28 = .ok (.ireturn, 1) := by decide +kernel
theorem dX12_shared_29 : decode cX12_shared 29 = .ok (.aload_n 0, 1) := by decide +kernel
theorem dX12_shared_30 : decode cX12_shared 30 = .ok (.iload_n 2, 1) := by decide +kernel
theorem dX12_shared_31 : decode cX12_shared 31 = .ok (.invokevirtual 345, 3) := by decide +kernel
theorem dX12_shared_34 : decode cX12_shared 34 = .ok (.istore_n 3, 1) := by decide +kernel
theorem dX12_shared_35 : decode cX12_shared 35 = .ok (.iload_n 1, 1) := by decide +kernel
theorem dX12_shared_36 : decode cX12_shared 36 = .ok (.iconst (-1), 1) := by decide +kernel
theorem dX12_shared_37 : decode cX12_shared 37 = .ok (.if_icmp .ne 7, 3) := by decide +kernel
theorem dX12_shared_40 : decode cX12_shared 40 = .ok (.iload_n 3, 1) := by decide +kernel
theorem dX12_shared_41 : decode cX12_shared 41 = .ok (.goto 9, 3) := by decide +kernel
theorem dX12_shared_44 : decode cX12_shared 44 = .ok (.aload_n 0, 1) := by decide +kernel
theorem dX12_shared_45 : decode cX12_shared 45 = .ok (.getfield 55, 3) := by decide +kernel
theorem dX12_shared_48 : decode cX12_shared 48 = .ok (.iload_n 1, 1) := by decide +kernel
theorem dX12_shared_49 : decode cX12_shared 49 = .ok (.iaload, 1) := by decide +kernel
theorem dX12_shared_50 : decode cX12_shared 50 = .ok (.ireturn, 1) := by decide +kernel
theorem dX12_most_0 : decode cX12_most 0 = .ok (.aload_n 0, 1) := by decide +kernel
theorem dX12_most_1 : decode cX12_most 1 = .ok (.getfield 253, 3) := by decide +kernel
theorem dX12_most_4 : decode cX12_most 4 = .ok (.ifCond .eq 10, 3) := by decide +kernel
theorem dX12_most_7 : decode cX12_most 7 = .ok (.iload_n 1, 1) := by decide +kernel
theorem dX12_most_8 : decode cX12_most 8 = .ok (.invokestatic 332, 3) := by decide +kernel
theorem dX12_most_11 : decode cX12_most 11 = .ok (.ifCond .ne 5, 3) := by decide +kernel
theorem dX12_most_14 : decode cX12_most 14 = .ok (.iconst (-1), 1) := by decide +kernel
theorem dX12_most_15 : decode cX12_most 15 = .ok (.ireturn, 1) := by decide +kernel
theorem dX12_most_16 : decode cX12_most 16 = .ok (.iconst 0, 1) := by decide +kernel
theorem dX12_most_17 : decode cX12_most 17 = .ok (.istore_n 2, 1) := by decide +kernel
theorem dX12_most_18 : decode cX12_most 18 = .ok (.iconst 0, 1) := by decide +kernel
theorem dX12_most_19 : decode cX12_most 19 = .ok (.istore_n 3, 1) := by decide +kernel
theorem dX12_most_20 : decode cX12_most 20 = .ok (.iload_n 3, 1) := by decide +kernel
theorem dX12_most_21 : decode cX12_most 21 = .ok (.aload_n 0, 1) := by decide +kernel
theorem dX12_most_22 : decode cX12_most 22 = .ok (.getfield 215, 3) := by decide +kernel
theorem dX12_most_25 : decode cX12_most 25 = .ok (.if_icmp .ge 70, 3) := by decide +kernel
theorem dX12_most_28 : decode cX12_most 28 = .ok (.iconst 0, 1) := by decide +kernel
theorem dX12_most_29 : decode cX12_most 29 = .ok (.istore 4, 2) := by decide +kernel
theorem dX12_most_31 : decode cX12_most 31 = .ok (.iconst 0, 1) := by decide +kernel
theorem dX12_most_32 : decode cX12_most 32 = .ok (.istore 5, 2) := by decide +kernel
theorem dX12_most_34 : decode cX12_most 34 = .ok (.iload 5, 2) := by decide +kernel
theorem dX12_most_36 : decode cX12_most 36 = .ok (.aload_n 0, 1) := by decide +kernel
theorem dX12_most_37 : decode cX12_most 37 = .ok (.iconst 2, 1) := by decide +kernel
theorem dX12_most_38 : decode cX12_most 38 = .ok (.invokevirtual 218, 3) := by decide +kernel
theorem dX12_most_41 : decode cX12_most 41 = .ok (.if_icmp .ge 35, 3) := by decide +kernel
theorem dX12_most_44 : decode cX12_most 44 = .ok (.iload 4, 2) := by decide +kernel
theorem dX12_most_46 : decode cX12_most 46 = .ok (.aload_n 0, 1) := by decide +kernel
theorem dX12_most_47 : decode cX12_most 47 = .ok (.getfield 52, 3) := by decide +kernel
theorem dX12_most_50 : decode cX12_most 50 = .ok (.iload_n 1, 1) := by decide +kernel
theorem dX12_most_51 : decode cX12_most 51 = .ok (.iconst 2, 1) := by decide +kernel
theorem dX12_most_52 : decode cX12_most 52 = .ok (.iload 5, 2) := by decide +kernel
theorem dX12_most_54 : decode cX12_most 54 = .ok (.iload_n 3, 1) := by decide +kernel
theorem dX12_most_55 : decode cX12_most 55 = .ok (.invokestatic 323, 3) := by decide +kernel
theorem dX12_most_58 : decode cX12_most 58 = .ok (.baload, 1) := by decide +kernel
theorem dX12_most_59 : decode cX12_most 59 = .ok (.ifCond .eq 7, 3) := by decide +kernel
theorem dX12_most_62 : decode cX12_most 62 = .ok (.iconst 1, 1) := by decide +kernel
theorem dX12_most_63 : decode cX12_most 63 = .ok (.goto 4, 3) := by decide +kernel
theorem dX12_most_66 : decode cX12_most 66 = .ok (.iconst 0, 1) := by decide +kernel
theorem dX12_most_67 : decode cX12_most 67 = .ok (.iadd, 1) := by decide +kernel
theorem dX12_most_68 : decode cX12_most 68 = .ok (.istore 4, 2) := by decide +kernel
theorem dX12_most_70 : decode cX12_most 70 = .ok (.iinc 5 1, 3) := by decide +kernel
theorem dX12_most_73 : decode cX12_most 73 = .ok (.goto (-39), 3) := by decide +kernel
theorem dX12_most_76 : decode cX12_most 76 = .ok (.iload 4, 2) := by decide +kernel
theorem dX12_most_78 : decode cX12_most 78 = .ok (.iload_n 2, 1) := by decide +kernel
theorem dX12_most_79 : decode cX12_most 79 = .ok (.if_icmp .le 8, 3) := by decide +kernel
theorem dX12_most_82 : decode cX12_most 82 = .ok (.iload 4, 2) := by decide +kernel
theorem dX12_most_84 : decode cX12_most 84 = .ok (.goto 4, 3) := by decide +kernel
theorem dX12_most_87 : decode cX12_most 87 = .ok (.iload_n 2, 1) := by decide +kernel
theorem dX12_most_88 : decode cX12_most 88 = .ok (.istore_n 2, 1) := by decide +kernel
theorem dX12_most_89 : decode cX12_most 89 = .ok (.iinc 3 1, 3) := by decide +kernel
theorem dX12_most_92 : decode cX12_most 92 = .ok (.goto (-72), 3) := by decide +kernel
theorem dX12_most_95 : decode cX12_most 95 = .ok (.iload_n 2, 1) := by decide +kernel
theorem dX12_most_96 : decode cX12_most 96 = .ok (.ireturn, 1) := by decide +kernel
theorem dX12_letter_0 : decode cX12_letter 0 = .ok (.iload_n 1, 1) := by decide +kernel
theorem dX12_letter_1 : decode cX12_letter 1 = .ok (.iconst 0, 1) := by decide +kernel
theorem dX12_letter_2 : decode cX12_letter 2 = .ok (.bipush 25, 2) := by decide +kernel
theorem dX12_letter_4 : decode cX12_letter 4 = .ok (.invokestatic 141, 3) := by decide +kernel
theorem dX12_letter_7 : decode cX12_letter 7 = .ok (.ifCond .ne 5, 3) := by decide +kernel
theorem dX12_letter_10 : decode cX12_letter 10 = .ok (.iconst 0, 1) := by decide +kernel
theorem dX12_letter_11 : decode cX12_letter 11 = .ok (.ireturn, 1) := by decide +kernel
theorem dX12_letter_12 : decode cX12_letter 12 = .ok (.aload_n 0, 1) := by decide +kernel
theorem dX12_letter_13 : decode cX12_letter 13 = .ok (.getfield 58, 3) := by decide +kernel
theorem dX12_letter_16 : decode cX12_letter 16 = .ok (.iload_n 1, 1) := by decide +kernel
theorem dX12_letter_17 : decode cX12_letter 17 = .ok (.iaload, 1) := by decide +kernel
theorem dX12_letter_18 : decode cX12_letter 18 = .ok (.istore_n 3, 1) := by decide +kernel
theorem dX12_letter_19 : decode cX12_letter 19 = .ok (.aload_n 0, 1) := by decide +kernel
theorem dX12_letter_20 : decode cX12_letter 20 = .ok (.getfield 58, 3) := by decide +kernel
theorem dX12_letter_23 : decode cX12_letter 23 = .ok (.iload_n 1, 1) := by decide +kernel
theorem dX12_letter_24 : decode cX12_letter 24 = .ok (.iload_n 2, 1) := by decide +kernel
theorem dX12_letter_25 : decode cX12_letter 25 = .ok (.iastore, 1) := by decide +kernel
theorem dX12_letter_26 : decode cX12_letter 26 = .ok (.iload_n 3, 1) := by decide +kernel
theorem dX12_letter_27 : decode cX12_letter 27 = .ok (.ireturn, 1) := by decide +kernel
theorem dX12_worthOf_0 : decode cX12_worthOf 0 = .ok (.iload_n 1, 1) := by decide +kernel
theorem dX12_worthOf_1 : decode cX12_worthOf 1 = .ok (.bipush 26, 2) := by decide +kernel
theorem dX12_worthOf_3 : decode cX12_worthOf 3 = .ok (.if_icmp .ge 12, 3) := by decide +kernel
theorem dX12_worthOf_6 : decode cX12_worthOf 6 = .ok (.aload_n 0, 1) := by decide +kernel
theorem dX12_worthOf_7 : decode cX12_worthOf 7 = .ok (.getfield 61, 3) := by decide +kernel
theorem dX12_worthOf_10 : decode cX12_worthOf 10 = .ok (.iload_n 1, 1) := by decide +kernel
theorem dX12_worthOf_11 : decode cX12_worthOf 11 = .ok (.iaload, 1) := by decide +kernel
theorem dX12_worthOf_12 : decode cX12_worthOf 12 = .ok (.goto 7, 3) := by decide +kernel
theorem dX12_worthOf_15 : decode cX12_worthOf 15 = .ok (.iload_n 1, 1) := by decide +kernel
theorem dX12_worthOf_16 : decode cX12_worthOf 16 = .ok (.bipush 26, 2) := by decide +kernel
theorem dX12_worthOf_18 : decode cX12_worthOf 18 = .ok (.isub, 1) := by decide +kernel
theorem dX12_worthOf_19 : decode cX12_worthOf 19 = .ok (.ireturn, 1) := by decide +kernel
theorem dX12_works_0 : decode cX12_works 0 = .ok (.aload_n 0, 1) := by decide +kernel
theorem dX12_works_1 : decode cX12_works 1 = .ok (.getfield 67, 3) := by decide +kernel
theorem dX12_works_4 : decode cX12_works 4 = .ok (.iload_n 1, 1) := by decide +kernel
theorem dX12_works_5 : decode cX12_works 5 = .ok (.dup2, 1) := by decide +kernel
theorem dX12_works_6 : decode cX12_works 6 = .ok (.iaload, 1) := by decide +kernel
theorem dX12_works_7 : decode cX12_works 7 = .ok (.iconst 1, 1) := by decide +kernel
theorem dX12_works_8 : decode cX12_works 8 = .ok (.iadd, 1) := by decide +kernel
theorem dX12_works_9 : decode cX12_works 9 = .ok (.iastore, 1) := by decide +kernel
theorem dX12_works_10 : decode cX12_works 10 = .ok (.aload_n 0, 1) := by decide +kernel
theorem dX12_works_11 : decode cX12_works 11 = .ok (.aload_n 0, 1) := by decide +kernel
theorem dX12_works_12 : decode cX12_works 12 = .ok (.sipush 292, 3) := by decide +kernel
theorem dX12_works_15 : decode cX12_works 15 = .ok (.iconst 2, 1) := by decide +kernel
theorem dX12_works_16 : decode cX12_works 16 = .ok (.iload_n 1, 1) := by decide +kernel
theorem dX12_works_17 : decode cX12_works 17 = .ok (.imul, 1) := by decide +kernel
theorem dX12_works_18 : decode cX12_works 18 = .ok (.iadd, 1) := by decide +kernel
theorem dX12_works_19 : decode cX12_works 19 = .ok (.invokevirtual 218, 3) := by decide +kernel
theorem dX12_works_22 : decode cX12_works 22 = .ok (.invokevirtual 348, 3) := by decide +kernel
theorem dX12_works_25 : decode cX12_works 25 = .ok (.istore_n 2, 1) := by decide +kernel
theorem dX12_works_26 : decode cX12_works 26 = .ok (.aload_n 0, 1) := by decide +kernel
theorem dX12_works_27 : decode cX12_works 27 = .ok (.aload_n 0, 1) := by decide +kernel
theorem dX12_works_28 : decode cX12_works 28 = .ok (.sipush 292, 3) := by decide +kernel
theorem dX12_works_31 : decode cX12_works 31 = .ok (.iconst 2, 1) := by decide +kernel
theorem dX12_works_32 : decode cX12_works 32 = .ok (.iload_n 1, 1) := by decide +kernel
theorem dX12_works_33 : decode cX12_works 33 = .ok (.imul, 1) := by decide +kernel
theorem dX12_works_34 : decode cX12_works 34 = .ok (.iadd, 1) := by decide +kernel
theorem dX12_works_35 : decode cX12_works 35 = .ok (.iconst 1, 1) := by decide +kernel
theorem dX12_works_36 : decode cX12_works 36 = .ok (.iadd, 1) := by decide +kernel
theorem dX12_works_37 : decode cX12_works 37 = .ok (.invokevirtual 218, 3) := by decide +kernel
theorem dX12_works_40 : decode cX12_works 40 = .ok (.invokevirtual 348, 3) := by decide +kernel
theorem dX12_works_43 : decode cX12_works 43 = .ok (.istore_n 3, 1) := by decide +kernel
theorem dX12_works_44 : decode cX12_works 44 = .ok (.aload_n 0, 1) := by decide +kernel
theorem dX12_works_45 : decode cX12_works 45 = .ok (.sipush 268, 3) := by decide +kernel
theorem dX12_works_48 : decode cX12_works 48 = .ok (.iload_n 1, 1) := by decide +kernel
theorem dX12_works_49 : decode cX12_works 49 = .ok (.iadd, 1) := by decide +kernel
theorem dX12_works_50 : decode cX12_works 50 = .ok (.invokevirtual 218, 3) := by decide +kernel
theorem dX12_works_53 : decode cX12_works 53 = .ok (.lookupswitch 108 #[(38, 81), (42, 71), (43, 51), (45, 61), (60, 91)], 51) := by decide +kernel
theorem dX12_works_104 : decode cX12_works 104 = .ok (.aload_n 0, 1) := by decide +kernel
theorem dX12_works_105 : decode cX12_works 105 = .ok (.iload_n 2, 1) := by decide +kernel
theorem dX12_works_106 : decode cX12_works 106 = .ok (.iload_n 3, 1) := by decide +kernel
theorem dX12_works_107 : decode cX12_works 107 = .ok (.iadd, 1) := by decide +kernel
theorem dX12_works_108 : decode cX12_works 108 = .ok (.putfield 351, 3) := by decide +kernel
theorem dX12_works_111 : decode cX12_works 111 = .ok (.goto 83, 3) := by decide +kernel
theorem dX12_works_114 : decode cX12_works 114 = .ok (.aload_n 0, 1) := by decide +kernel
theorem dX12_works_115 : decode cX12_works 115 = .ok (.iload_n 2, 1) := by decide +kernel
theorem dX12_works_116 : decode cX12_works 116 = .ok (.iload_n 3, 1) := by decide +kernel
theorem dX12_works_117 : decode cX12_works 117 = .ok (.isub, 1) := by decide +kernel
theorem dX12_works_118 : decode cX12_works 118 = .ok (.putfield 351, 3) := by decide +kernel
theorem dX12_works_121 : decode cX12_works 121 = .ok (.goto 73, 3) := by decide +kernel
theorem dX12_works_124 : decode cX12_works 124 = .ok (.aload_n 0, 1) := by decide +kernel
theorem dX12_works_125 : decode cX12_works 125 = .ok (.iload_n 2, 1) := by decide +kernel
theorem dX12_works_126 : decode cX12_works 126 = .ok (.iload_n 3, 1) := by decide +kernel
theorem dX12_works_127 : decode cX12_works 127 = .ok (.imul, 1) := by decide +kernel
theorem dX12_works_128 : decode cX12_works 128 = .ok (.putfield 351, 3) := by decide +kernel
theorem dX12_works_131 : decode cX12_works 131 = .ok (.goto 63, 3) := by decide +kernel
theorem dX12_works_134 : decode cX12_works 134 = .ok (.aload_n 0, 1) := by decide +kernel
theorem dX12_works_135 : decode cX12_works 135 = .ok (.iload_n 2, 1) := by decide +kernel
theorem dX12_works_136 : decode cX12_works 136 = .ok (.iload_n 3, 1) := by decide +kernel
theorem dX12_works_137 : decode cX12_works 137 = .ok (.iand, 1) := by decide +kernel
theorem dX12_works_138 : decode cX12_works 138 = .ok (.putfield 351, 3) := by decide +kernel
theorem dX12_works_141 : decode cX12_works 141 = .ok (.goto 53, 3) := by decide +kernel
theorem dX12_works_144 : decode cX12_works 144 = .ok (.aload_n 0, 1) := by decide +kernel
theorem dX12_works_145 : decode cX12_works 145 = .ok (.iload_n 2, 1) := by decide +kernel
theorem dX12_works_146 : decode cX12_works 146 = .ok (.iload_n 3, 1) := by decide +kernel
theorem dX12_works_147 : decode cX12_works 147 = .ok (.if_icmp .ge 7, 3) := by decide +kernel
theorem dX12_works_150 : decode cX12_works 150 = .ok (.iconst 1, 1) := by decide +kernel
theorem dX12_works_151 : decode cX12_works 151 = .ok (.goto 4, 3) := by decide +kernel
theorem dX12_works_154 : decode cX12_works 154 = .ok (.iconst 0, 1) := by decide +kernel
theorem dX12_works_155 : decode cX12_works 155 = .ok (.putfield 351, 3) := by decide +kernel
theorem dX12_works_158 : decode cX12_works 158 = .ok (.goto 36, 3) := by decide +kernel
theorem dX12_works_161 : decode cX12_works 161 = .ok (.iload_n 3, 1) := by decide +kernel
theorem dX12_works_162 : decode cX12_works 162 = .ok (.ifCond .ne 5, 3) := by decide +kernel
theorem dX12_works_165 : decode cX12_works 165 = .ok (.iconst 0, 1) := by decide +kernel
theorem dX12_works_166 : decode cX12_works 166 = .ok (.ireturn, 1) := by decide +kernel
theorem dX12_works_167 : decode cX12_works 167 = .ok (.aload_n 0, 1) := by decide +kernel
theorem dX12_works_168 : decode cX12_works 168 = .ok (.aload_n 0, 1) := by decide +kernel
theorem dX12_works_169 : decode cX12_works 169 = .ok (.sipush 268, 3) := by decide +kernel
theorem dX12_works_172 : decode cX12_works 172 = .ok (.iload_n 1, 1) := by decide +kernel
theorem dX12_works_173 : decode cX12_works 173 = .ok (.iadd, 1) := by decide +kernel
theorem dX12_works_174 : decode cX12_works 174 = .ok (.invokevirtual 218, 3) := by decide +kernel
theorem dX12_works_177 : decode cX12_works 177 = .ok (.bipush 47, 2) := by decide +kernel
theorem dX12_works_179 : decode cX12_works 179 = .ok (.if_icmp .ne 9, 3) := by decide +kernel
theorem dX12_works_182 : decode cX12_works 182 = .ok (.iload_n 2, 1) := by decide +kernel
theorem dX12_works_183 : decode cX12_works 183 = .ok (.iload_n 3, 1) := by decide +kernel
theorem dX12_works_184 : decode cX12_works 184 = .ok (.idiv, 1) := by decide +kernel
theorem dX12_works_185 : decode cX12_works 185 = .ok (.goto 6, 3) := by decide +kernel
theorem dX12_works_188 : decode cX12_works 188 = .ok (.iload_n 2, 1) := by decide +kernel
theorem dX12_works_189 : decode cX12_works 189 = .ok (.iload_n 3, 1) := by decide +kernel
theorem dX12_works_190 : decode cX12_works 190 = .ok (.irem, 1) := by decide +kernel
theorem dX12_works_191 : decode cX12_works 191 = .ok (.putfield 351, 3) := by decide +kernel
theorem dX12_works_194 : decode cX12_works 194 = .ok (.iconst 1, 1) := by decide +kernel
theorem dX12_works_195 : decode cX12_works 195 = .ok (.ireturn, 1) := by decide +kernel
theorem dX12_putsIn_0 : decode cX12_putsIn 0 = .ok (.iconst 0, 1) := by decide +kernel
theorem dX12_putsIn_1 : decode cX12_putsIn 1 = .ok (.istore_n 3, 1) := by decide +kernel
theorem dX12_putsIn_2 : decode cX12_putsIn 2 = .ok (.iload_n 3, 1) := by decide +kernel
theorem dX12_putsIn_3 : decode cX12_putsIn 3 = .ok (.aload_n 0, 1) := by decide +kernel
theorem dX12_putsIn_4 : decode cX12_putsIn 4 = .ok (.iconst 2, 1) := by decide +kernel
theorem dX12_putsIn_5 : decode cX12_putsIn 5 = .ok (.invokevirtual 218, 3) := by decide +kernel
theorem dX12_putsIn_8 : decode cX12_putsIn 8 = .ok (.if_icmp .ge 47, 3) := by decide +kernel
theorem dX12_putsIn_11 : decode cX12_putsIn 11 = .ok (.aload_n 0, 1) := by decide +kernel
theorem dX12_putsIn_12 : decode cX12_putsIn 12 = .ok (.getfield 52, 3) := by decide +kernel
theorem dX12_putsIn_15 : decode cX12_putsIn 15 = .ok (.iload_n 2, 1) := by decide +kernel
theorem dX12_putsIn_16 : decode cX12_putsIn 16 = .ok (.iconst 0, 1) := by decide +kernel
theorem dX12_putsIn_17 : decode cX12_putsIn 17 = .ok (.iload_n 3, 1) := by decide +kernel
theorem dX12_putsIn_18 : decode cX12_putsIn 18 = .ok (.iload_n 1, 1) := by decide +kernel
theorem dX12_putsIn_19 : decode cX12_putsIn 19 = .ok (.invokestatic 323, 3) := by decide +kernel
theorem dX12_putsIn_22 : decode cX12_putsIn 22 = .ok (.baload, 1) := by decide +kernel
theorem dX12_putsIn_23 : decode cX12_putsIn 23 = .ok (.ifCond .ne 6, 3) := by decide +kernel
theorem dX12_putsIn_26 : decode cX12_putsIn 26 = .ok (.goto 23, 3) := by decide +kernel
theorem dX12_putsIn_29 : decode cX12_putsIn 29 = .ok (.aload_n 0, 1) := by decide +kernel
theorem dX12_putsIn_30 : decode cX12_putsIn 30 = .ok (.iload_n 3, 1) := by decide +kernel
theorem dX12_putsIn_31 : decode cX12_putsIn 31 = .ok (.invokevirtual 354, 3) := by decide +kernel
theorem dX12_putsIn_34 : decode cX12_putsIn 34 = .ok (.ifCond .ne 5, 3) := by decide +kernel
theorem dX12_putsIn_37 : decode cX12_putsIn 37 = .ok (.iconst 0, 1) := by decide +kernel
theorem dX12_putsIn_38 : decode cX12_putsIn 38 = .ok (.ireturn, 1) := by decide +kernel
theorem dX12_putsIn_39 : decode cX12_putsIn 39 = .ok (.aload_n 0, 1) := by decide +kernel
theorem dX12_putsIn_40 : decode cX12_putsIn 40 = .ok (.getfield 64, 3) := by decide +kernel
theorem dX12_putsIn_43 : decode cX12_putsIn 43 = .ok (.iload_n 3, 1) := by decide +kernel
theorem dX12_putsIn_44 : decode cX12_putsIn 44 = .ok (.aload_n 0, 1) := by decide +kernel
theorem dX12_putsIn_45 : decode cX12_putsIn 45 = .ok (.getfield 351, 3) := by decide +kernel
theorem dX12_putsIn_48 : decode cX12_putsIn 48 = .ok (.iastore, 1) := by decide +kernel
theorem dX12_putsIn_49 : decode cX12_putsIn 49 = .ok (.iinc 3 1, 3) := by decide +kernel
theorem dX12_putsIn_52 : decode cX12_putsIn 52 = .ok (.goto (-50), 3) := by decide +kernel
theorem dX12_putsIn_55 : decode cX12_putsIn 55 = .ok (.iconst 1, 1) := by decide +kernel
theorem dX12_putsIn_56 : decode cX12_putsIn 56 = .ok (.ireturn, 1) := by decide +kernel
theorem dX12_does_0 : decode cX12_does 0 = .ok (.aload_n 0, 1) := by decide +kernel
theorem dX12_does_1 : decode cX12_does 1 = .ok (.getfield 30, 3) := by decide +kernel
theorem dX12_does_4 : decode cX12_does 4 = .ok (.iload_n 1, 1) := by decide +kernel
theorem dX12_does_5 : decode cX12_does 5 = .ok (.iaload, 1) := by decide +kernel
theorem dX12_does_6 : decode cX12_does 6 = .ok (.istore_n 3, 1) := by decide +kernel
theorem dX12_does_7 : decode cX12_does 7 = .ok (.aload_n 0, 1) := by decide +kernel
theorem dX12_does_8 : decode cX12_does 8 = .ok (.iload_n 1, 1) := by decide +kernel
theorem dX12_does_9 : decode cX12_does 9 = .ok (.invokevirtual 280, 3) := by decide +kernel
theorem dX12_does_12 : decode cX12_does 12 = .ok (.istore 4, 2) := by decide +kernel
theorem dX12_does_14 : decode cX12_does 14 = .ok (.aload_n 0, 1) := by decide +kernel
theorem dX12_does_15 : decode cX12_does 15 = .ok (.getfield 24, 3) := by decide +kernel
theorem dX12_does_18 : decode cX12_does 18 = .ok (.iload_n 1, 1) := by decide +kernel
theorem dX12_does_19 : decode cX12_does 19 = .ok (.iaload, 1) := by decide +kernel
theorem dX12_does_20 : decode cX12_does 20 = .ok (.iconst 1, 1) := by decide +kernel
theorem dX12_does_21 : decode cX12_does 21 = .ok (.if_icmp .ne 28, 3) := by decide +kernel
theorem dX12_does_24 : decode cX12_does 24 = .ok (.aload_n 0, 1) := by decide +kernel
theorem dX12_does_25 : decode cX12_does 25 = .ok (.getfield 61, 3) := by decide +kernel
theorem dX12_does_28 : decode cX12_does 28 = .ok (.aload_n 0, 1) := by decide +kernel
theorem dX12_does_29 : decode cX12_does 29 = .ok (.bipush 64, 2) := by decide +kernel
theorem dX12_does_31 : decode cX12_does 31 = .ok (.iload_n 3, 1) := by decide +kernel
theorem dX12_does_32 : decode cX12_does 32 = .ok (.iadd, 1) := by decide +kernel
theorem dX12_does_33 : decode cX12_does 33 = .ok (.invokevirtual 218, 3) := by decide +kernel
theorem dX12_does_36 : decode cX12_does 36 = .ok (.aload_n 0, 1) := by decide +kernel
theorem dX12_does_37 : decode cX12_does 37 = .ok (.aload_n 0, 1) := by decide +kernel
theorem dX12_does_38 : decode cX12_does 38 = .ok (.bipush 124, 2) := by decide +kernel
theorem dX12_does_40 : decode cX12_does 40 = .ok (.iload_n 3, 1) := by decide +kernel
theorem dX12_does_41 : decode cX12_does 41 = .ok (.iadd, 1) := by decide +kernel
theorem dX12_does_42 : decode cX12_does 42 = .ok (.invokevirtual 218, 3) := by decide +kernel
theorem dX12_does_45 : decode cX12_does 45 = .ok (.invokevirtual 348, 3) := by decide +kernel
theorem dX12_does_48 : decode cX12_does 48 = .ok (.iastore, 1) := by decide +kernel
theorem dX12_does_49 : decode cX12_does 49 = .ok (.aload_n 0, 1) := by decide +kernel
theorem dX12_does_50 : decode cX12_does 50 = .ok (.getfield 24, 3) := by decide +kernel
theorem dX12_does_53 : decode cX12_does 53 = .ok (.iload_n 1, 1) := by decide +kernel
theorem dX12_does_54 : decode cX12_does 54 = .ok (.iaload, 1) := by decide +kernel
theorem dX12_does_55 : decode cX12_does 55 = .ok (.iconst 3, 1) := by decide +kernel
theorem dX12_does_56 : decode cX12_does 56 = .ok (.if_icmp .ne 43, 3) := by decide +kernel
theorem dX12_does_59 : decode cX12_does 59 = .ok (.aload_n 0, 1) := by decide +kernel
theorem dX12_does_60 : decode cX12_does 60 = .ok (.getfield 357, 3) := by decide +kernel
theorem dX12_does_63 : decode cX12_does 63 = .ok (.bipush 40, 2) := by decide +kernel
theorem dX12_does_65 : decode cX12_does 65 = .ok (.if_icmp .ge 24, 3) := by decide +kernel
theorem dX12_does_68 : decode cX12_does 68 = .ok (.aload_n 0, 1) := by decide +kernel
theorem dX12_does_69 : decode cX12_does 69 = .ok (.getfield 70, 3) := by decide +kernel
theorem dX12_does_72 : decode cX12_does 72 = .ok (.aload_n 0, 1) := by decide +kernel
theorem dX12_does_73 : decode cX12_does 73 = .ok (.getfield 357, 3) := by decide +kernel
theorem dX12_does_76 : decode cX12_does 76 = .ok (.aload_n 0, 1) := by decide +kernel
theorem dX12_does_77 : decode cX12_does 77 = .ok (.aload_n 0, 1) := by decide +kernel
theorem dX12_does_78 : decode cX12_does 78 = .ok (.bipush 124, 2) := by decide +kernel
theorem dX12_does_80 : decode cX12_does 80 = .ok (.iload_n 3, 1) := by decide +kernel
theorem dX12_does_81 : decode cX12_does 81 = .ok (.iadd, 1) := by decide +kernel
theorem dX12_does_82 : decode cX12_does 82 = .ok (.invokevirtual 218, 3) := by decide +kernel
theorem dX12_does_85 : decode cX12_does 85 = .ok (.invokevirtual 348, 3) := by decide +kernel
theorem dX12_does_88 : decode cX12_does 88 = .ok (.iastore, 1) := by decide +kernel
theorem dX12_does_89 : decode cX12_does 89 = .ok (.aload_n 0, 1) := by decide +kernel
theorem dX12_does_90 : decode cX12_does 90 = .ok (.dup, 1) := by decide +kernel
theorem dX12_does_91 : decode cX12_does 91 = .ok (.getfield 357, 3) := by decide +kernel
theorem dX12_does_94 : decode cX12_does 94 = .ok (.iconst 1, 1) := by decide +kernel
theorem dX12_does_95 : decode cX12_does 95 = .ok (.iadd, 1) := by decide +kernel
theorem dX12_does_96 : decode cX12_does 96 = .ok (.putfield 357, 3) := by decide +kernel
theorem dX12_does_99 : decode cX12_does 99 = .ok (.aload_n 0, 1) := by decide +kernel
theorem dX12_does_100 : decode cX12_does 100 = .ok (.getfield 24, 3) := by decide +kernel
theorem dX12_does_103 : decode cX12_does 103 = .ok (.iload_n 1, 1) := by decide +kernel
theorem dX12_does_104 : decode cX12_does 104 = .ok (.iaload, 1) := by decide +kernel
theorem dX12_does_105 : decode cX12_does 105 = .ok (.iconst 2, 1) := by decide +kernel
theorem dX12_does_106 : decode cX12_does 106 = .ok (.if_icmp .eq 5, 3) := by decide +kernel
theorem dX12_does_109 : decode cX12_does 109 = .ok (.iconst 1, 1) := by decide +kernel
theorem dX12_does_110 : decode cX12_does 110 = .ok (.ireturn, 1) := by decide +kernel
theorem dX12_does_111 : decode cX12_does 111 = .ok (.iload_n 2, 1) := by decide +kernel
theorem dX12_does_112 : decode cX12_does 112 = .ok (.iconst (-1), 1) := by decide +kernel
theorem dX12_does_113 : decode cX12_does 113 = .ok (.if_icmp .eq 41, 3) := by decide +kernel
theorem dX12_does_116 : decode cX12_does 116 = .ok (.aload_n 0, 1) := by decide +kernel
theorem dX12_does_117 : decode cX12_does 117 = .ok (.getfield 52, 3) := by decide +kernel
theorem dX12_does_120 : decode cX12_does 120 = .ok (.iload_n 2, 1) := by decide +kernel
theorem dX12_does_121 : decode cX12_does 121 = .ok (.iconst 1, 1) := by decide +kernel
theorem dX12_does_122 : decode cX12_does 122 = .ok (.iload 4, 2) := by decide +kernel
theorem dX12_does_124 : decode cX12_does 124 = .ok (.iload_n 1, 1) := by decide +kernel
theorem dX12_does_125 : decode cX12_does 125 = .ok (.invokestatic 323, 3) := by decide +kernel
theorem dX12_does_128 : decode cX12_does 128 = .ok (.baload, 1) := by decide +kernel
theorem dX12_does_129 : decode cX12_does 129 = .ok (.ifCond .eq 25, 3) := by decide +kernel
theorem dX12_does_132 : decode cX12_does 132 = .ok (.aload_n 0, 1) := by decide +kernel
theorem dX12_does_133 : decode cX12_does 133 = .ok (.getfield 61, 3) := by decide +kernel
theorem dX12_does_136 : decode cX12_does 136 = .ok (.aload_n 0, 1) := by decide +kernel
theorem dX12_does_137 : decode cX12_does 137 = .ok (.bipush 64, 2) := by decide +kernel
theorem dX12_does_139 : decode cX12_does 139 = .ok (.iload_n 3, 1) := by decide +kernel
theorem dX12_does_140 : decode cX12_does 140 = .ok (.iadd, 1) := by decide +kernel
theorem dX12_does_141 : decode cX12_does 141 = .ok (.invokevirtual 218, 3) := by decide +kernel
theorem dX12_does_144 : decode cX12_does 144 = .ok (.aload_n 0, 1) := by decide +kernel
theorem dX12_does_145 : decode cX12_does 145 = .ok (.getfield 64, 3) := by decide +kernel
theorem dX12_does_148 : decode cX12_does 148 = .ok (.iload 4, 2) := by decide +kernel
theorem dX12_does_150 : decode cX12_does 150 = .ok (.iaload, 1) := by decide +kernel
theorem dX12_does_151 : decode cX12_does 151 = .ok (.iastore, 1) := by decide +kernel
theorem dX12_does_152 : decode cX12_does 152 = .ok (.iconst 1, 1) := by decide +kernel
theorem dX12_does_153 : decode cX12_does 153 = .ok (.ireturn, 1) := by decide +kernel
theorem dX12_does_154 : decode cX12_does 154 = .ok (.aload_n 0, 1) := by decide +kernel
theorem dX12_does_155 : decode cX12_does 155 = .ok (.iload 4, 2) := by decide +kernel
theorem dX12_does_157 : decode cX12_does 157 = .ok (.invokevirtual 354, 3) := by decide +kernel
theorem dX12_does_160 : decode cX12_does 160 = .ok (.ifCond .ne 5, 3) := by decide +kernel
theorem dX12_does_163 : decode cX12_does 163 = .ok (.iconst 0, 1) := by decide +kernel
theorem dX12_does_164 : decode cX12_does 164 = .ok (.ireturn, 1) := by decide +kernel
theorem dX12_does_165 : decode cX12_does 165 = .ok (.aload_n 0, 1) := by decide +kernel
theorem dX12_does_166 : decode cX12_does 166 = .ok (.getfield 61, 3) := by decide +kernel
theorem dX12_does_169 : decode cX12_does 169 = .ok (.aload_n 0, 1) := by decide +kernel
theorem dX12_does_170 : decode cX12_does 170 = .ok (.bipush 64, 2) := by decide +kernel
theorem dX12_does_172 : decode cX12_does 172 = .ok (.iload_n 3, 1) := by decide +kernel
theorem dX12_does_173 : decode cX12_does 173 = .ok (.iadd, 1) := by decide +kernel
theorem dX12_does_174 : decode cX12_does 174 = .ok (.invokevirtual 218, 3) := by decide +kernel
theorem dX12_does_177 : decode cX12_does 177 = .ok (.aload_n 0, 1) := by decide +kernel
theorem dX12_does_178 : decode cX12_does 178 = .ok (.getfield 351, 3) := by decide +kernel
theorem dX12_does_181 : decode cX12_does 181 = .ok (.iastore, 1) := by decide +kernel
theorem dX12_does_182 : decode cX12_does 182 = .ok (.iconst 1, 1) := by decide +kernel
theorem dX12_does_183 : decode cX12_does 183 = .ok (.ireturn, 1) := by decide +kernel
theorem dX12_goesTo_0 : decode cX12_goesTo 0 = .ok (.aload_n 0, 1) := by decide +kernel
theorem dX12_goesTo_1 : decode cX12_goesTo 1 = .ok (.getfield 24, 3) := by decide +kernel
theorem dX12_goesTo_4 : decode cX12_goesTo 4 = .ok (.iload_n 1, 1) := by decide +kernel
theorem dX12_goesTo_5 : decode cX12_goesTo 5 = .ok (.iaload, 1) := by decide +kernel
theorem dX12_goesTo_6 : decode cX12_goesTo 6 = .ok (.iconst 5, 1) := by decide +kernel
theorem dX12_goesTo_7 : decode cX12_goesTo 7 = .ok (.if_icmp .ne 17, 3) := by decide +kernel
theorem dX12_goesTo_10 : decode cX12_goesTo 10 = .ok (.aload_n 0, 1) := by decide +kernel
theorem dX12_goesTo_11 : decode cX12_goesTo 11 = .ok (.getfield 33, 3) := by decide +kernel
theorem dX12_goesTo_14 : decode cX12_goesTo 14 = .ok (.iconst 2, 1) := by decide +kernel
theorem dX12_goesTo_15 : decode cX12_goesTo 15 = .ok (.iload_n 1, 1) := by decide +kernel
theorem dX12_goesTo_16 : decode cX12_goesTo 16 = .ok (.imul, 1) := by decide +kernel
theorem dX12_goesTo_17 : decode cX12_goesTo 17 = .ok (.iconst 1, 1) := by decide +kernel
theorem dX12_goesTo_18 : decode cX12_goesTo 18 = .ok (.iadd, 1) := by decide +kernel
theorem dX12_goesTo_19 : decode cX12_goesTo 19 = .ok (.iaload, 1) := by decide +kernel
theorem dX12_goesTo_20 : decode cX12_goesTo 20 = .ok (.iconst (-1), 1) := by decide +kernel
theorem dX12_goesTo_21 : decode cX12_goesTo 21 = .ok (.if_icmp .ne 12, 3) := by decide +kernel
theorem dX12_goesTo_24 : decode cX12_goesTo 24 = .ok (.aload_n 0, 1) := by decide +kernel
theorem dX12_goesTo_25 : decode cX12_goesTo 25 = .ok (.getfield 33, 3) := by decide +kernel
theorem dX12_goesTo_28 : decode cX12_goesTo 28 = .ok (.iconst 2, 1) := by decide +kernel
theorem dX12_goesTo_29 : decode cX12_goesTo 29 = .ok (.iload_n 1, 1) := by decide +kernel
theorem dX12_goesTo_30 : decode cX12_goesTo 30 = .ok (.imul, 1) := by decide +kernel
theorem dX12_goesTo_31 : decode cX12_goesTo 31 = .ok (.iaload, 1) := by decide +kernel
theorem dX12_goesTo_32 : decode cX12_goesTo 32 = .ok (.ireturn, 1) := by decide +kernel
theorem dX12_goesTo_33 : decode cX12_goesTo 33 = .ok (.aload_n 0, 1) := by decide +kernel
theorem dX12_goesTo_34 : decode cX12_goesTo 34 = .ok (.getfield 61, 3) := by decide +kernel
theorem dX12_goesTo_37 : decode cX12_goesTo 37 = .ok (.aload_n 0, 1) := by decide +kernel
theorem dX12_goesTo_38 : decode cX12_goesTo 38 = .ok (.sipush 220, 3) := by decide +kernel
theorem dX12_goesTo_41 : decode cX12_goesTo 41 = .ok (.aload_n 0, 1) := by decide +kernel
theorem dX12_goesTo_42 : decode cX12_goesTo 42 = .ok (.getfield 27, 3) := by decide +kernel
theorem dX12_goesTo_45 : decode cX12_goesTo 45 = .ok (.iload_n 1, 1) := by decide +kernel
theorem dX12_goesTo_46 : decode cX12_goesTo 46 = .ok (.iaload, 1) := by decide +kernel
theorem dX12_goesTo_47 : decode cX12_goesTo 47 = .ok (.iadd, 1) := by decide +kernel
theorem dX12_goesTo_48 : decode cX12_goesTo 48 = .ok (.invokevirtual 218, 3) := by decide +kernel
theorem dX12_goesTo_51 : decode cX12_goesTo 51 = .ok (.iaload, 1) := by decide +kernel
theorem dX12_goesTo_52 : decode cX12_goesTo 52 = .ok (.ifCond .eq 14, 3) := by decide +kernel
theorem dX12_goesTo_55 : decode cX12_goesTo 55 = .ok (.aload_n 0, 1) := by decide +kernel
theorem dX12_goesTo_56 : decode cX12_goesTo 56 = .ok (.getfield 33, 3) := by decide +kernel
theorem dX12_goesTo_59 : decode cX12_goesTo 59 = .ok (.iconst 2, 1) := by decide +kernel
theorem dX12_goesTo_60 : decode cX12_goesTo 60 = .ok (.iload_n 1, 1) := by decide +kernel
theorem dX12_goesTo_61 : decode cX12_goesTo 61 = .ok (.imul, 1) := by decide +kernel
theorem dX12_goesTo_62 : decode cX12_goesTo 62 = .ok (.iaload, 1) := by decide +kernel
theorem dX12_goesTo_63 : decode cX12_goesTo 63 = .ok (.goto 13, 3) := by decide +kernel
theorem dX12_goesTo_66 : decode cX12_goesTo 66 = .ok (.aload_n 0, 1) := by decide +kernel
theorem dX12_goesTo_67 : decode cX12_goesTo 67 = .ok (.getfield 33, 3) := by decide +kernel
theorem dX12_goesTo_70 : decode cX12_goesTo 70 = .ok (.iconst 2, 1) := by decide +kernel
theorem dX12_goesTo_71 : decode cX12_goesTo 71 = .ok (.iload_n 1, 1) := by decide +kernel
theorem dX12_goesTo_72 : decode cX12_goesTo 72 = .ok (.imul, 1) := by decide +kernel
theorem dX12_goesTo_73 : decode cX12_goesTo 73 = .ok (.iconst 1, 1) := by decide +kernel
theorem dX12_goesTo_74 : decode cX12_goesTo 74 = .ok (.iadd, 1) := by decide +kernel
theorem dX12_goesTo_75 : decode cX12_goesTo 75 = .ok (.iaload, 1) := by decide +kernel
theorem dX12_goesTo_76 : decode cX12_goesTo 76 = .ok (.ireturn, 1) := by decide +kernel
