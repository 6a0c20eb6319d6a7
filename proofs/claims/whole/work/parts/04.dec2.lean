theorem dX12_canExecute_211 : decode cX12_canExecute 211 = .ok (.aload_n 0, 1) := by decide +kernel
theorem dX12_canExecute_212 : decode cX12_canExecute 212 = .ok (.getfield 47, 3) := by decide +kernel
theorem dX12_canExecute_215 : decode cX12_canExecute 215 = .ok (.iload 4, 2) := by decide +kernel
theorem dX12_canExecute_217 : decode cX12_canExecute 217 = .ok (.iaload, 1) := by decide +kernel
theorem dX12_canExecute_218 : decode cX12_canExecute 218 = .ok (.invokestatic 363, 3) := by decide +kernel
theorem dX12_canExecute_221 : decode cX12_canExecute 221 = .ok (.goto 11, 3) := by decide +kernel
theorem dX12_canExecute_224 : decode cX12_canExecute 224 = .ok (.aload_n 0, 1) := by decide +kernel
theorem dX12_canExecute_225 : decode cX12_canExecute 225 = .ok (.lload_n 1, 1) := by decide +kernel
theorem dX12_canExecute_226 : decode cX12_canExecute 226 = .ok (.iload_n 3, 1) := by decide +kernel
theorem dX12_canExecute_227 : decode cX12_canExecute 227 = .ok (.iload 5, 2) := by decide +kernel
theorem dX12_canExecute_229 : decode cX12_canExecute 229 = .ok (.invokevirtual 349, 3) := by decide +kernel
theorem dX12_canExecute_232 : decode cX12_canExecute 232 = .ok (.istore 6, 2) := by decide +kernel
theorem dX12_canExecute_234 : decode cX12_canExecute 234 = .ok (.aload_n 0, 1) := by decide +kernel
theorem dX12_canExecute_235 : decode cX12_canExecute 235 = .ok (.aload_n 0, 1) := by decide +kernel
theorem dX12_canExecute_236 : decode cX12_canExecute 236 = .ok (.getfield 356, 3) := by decide +kernel
theorem dX12_canExecute_239 : decode cX12_canExecute 239 = .ok (.bipush 16, 2) := by decide +kernel
theorem dX12_canExecute_241 : decode cX12_canExecute 241 = .ok (.iconst 2, 1) := by decide +kernel
theorem dX12_canExecute_242 : decode cX12_canExecute 242 = .ok (.iconst 2, 1) := by decide +kernel
theorem dX12_canExecute_243 : decode cX12_canExecute 243 = .ok (.iload_n 3, 1) := by decide +kernel
theorem dX12_canExecute_244 : decode cX12_canExecute 244 = .ok (.imul, 1) := by decide +kernel
theorem dX12_canExecute_245 : decode cX12_canExecute 245 = .ok (.aload_n 0, 1) := by decide +kernel
theorem dX12_canExecute_246 : decode cX12_canExecute 246 = .ok (.getfield 50, 3) := by decide +kernel
theorem dX12_canExecute_249 : decode cX12_canExecute 249 = .ok (.iload 4, 2) := by decide +kernel
theorem dX12_canExecute_251 : decode cX12_canExecute 251 = .ok (.iaload, 1) := by decide +kernel
theorem dX12_canExecute_252 : decode cX12_canExecute 252 = .ok (.iadd, 1) := by decide +kernel
theorem dX12_canExecute_253 : decode cX12_canExecute 253 = .ok (.imul, 1) := by decide +kernel
theorem dX12_canExecute_254 : decode cX12_canExecute 254 = .ok (.iadd, 1) := by decide +kernel
theorem dX12_canExecute_255 : decode cX12_canExecute 255 = .ok (.iload 6, 2) := by decide +kernel
theorem dX12_canExecute_257 : decode cX12_canExecute 257 = .ok (.invokestatic 352, 3) := by decide +kernel
theorem dX12_canExecute_260 : decode cX12_canExecute 260 = .ok (.putfield 356, 3) := by decide +kernel
theorem dX12_canExecute_263 : decode cX12_canExecute 263 = .ok (.aload_n 0, 1) := by decide +kernel
theorem dX12_canExecute_264 : decode cX12_canExecute 264 = .ok (.getfield 44, 3) := by decide +kernel
theorem dX12_canExecute_267 : decode cX12_canExecute 267 = .ok (.iload 4, 2) := by decide +kernel
theorem dX12_canExecute_269 : decode cX12_canExecute 269 = .ok (.iaload, 1) := by decide +kernel
theorem dX12_canExecute_270 : decode cX12_canExecute 270 = .ok (.iconst 2, 1) := by decide +kernel
theorem dX12_canExecute_271 : decode cX12_canExecute 271 = .ok (.if_icmp .ne 34, 3) := by decide +kernel
theorem dX12_canExecute_274 : decode cX12_canExecute 274 = .ok (.aload_n 0, 1) := by decide +kernel
theorem dX12_canExecute_275 : decode cX12_canExecute 275 = .ok (.aload_n 0, 1) := by decide +kernel
theorem dX12_canExecute_276 : decode cX12_canExecute 276 = .ok (.getfield 356, 3) := by decide +kernel
theorem dX12_canExecute_279 : decode cX12_canExecute 279 = .ok (.bipush 32, 2) := by decide +kernel
theorem dX12_canExecute_281 : decode cX12_canExecute 281 = .ok (.iconst 2, 1) := by decide +kernel
theorem dX12_canExecute_282 : decode cX12_canExecute 282 = .ok (.aload_n 0, 1) := by decide +kernel
theorem dX12_canExecute_283 : decode cX12_canExecute 283 = .ok (.getfield 47, 3) := by decide +kernel
theorem dX12_canExecute_286 : decode cX12_canExecute 286 = .ok (.iload 4, 2) := by decide +kernel
theorem dX12_canExecute_288 : decode cX12_canExecute 288 = .ok (.iaload, 1) := by decide +kernel
theorem dX12_canExecute_289 : decode cX12_canExecute 289 = .ok (.imul, 1) := by decide +kernel
theorem dX12_canExecute_290 : decode cX12_canExecute 290 = .ok (.iadd, 1) := by decide +kernel
theorem dX12_canExecute_291 : decode cX12_canExecute 291 = .ok (.aload_n 0, 1) := by decide +kernel
theorem dX12_canExecute_292 : decode cX12_canExecute 292 = .ok (.lload_n 1, 1) := by decide +kernel
theorem dX12_canExecute_293 : decode cX12_canExecute 293 = .ok (.iload_n 3, 1) := by decide +kernel
theorem dX12_canExecute_294 : decode cX12_canExecute 294 = .ok (.iload 4, 2) := by decide +kernel
theorem dX12_canExecute_296 : decode cX12_canExecute 296 = .ok (.invokevirtual 349, 3) := by decide +kernel
theorem dX12_canExecute_299 : decode cX12_canExecute 299 = .ok (.invokestatic 352, 3) := by decide +kernel
theorem dX12_canExecute_302 : decode cX12_canExecute 302 = .ok (.putfield 356, 3) := by decide +kernel
theorem dX12_canExecute_305 : decode cX12_canExecute 305 = .ok (.iconst 1, 1) := by decide +kernel
theorem dX12_canExecute_306 : decode cX12_canExecute 306 = .ok (.ireturn, 1) := by decide +kernel
theorem dX12_firstState_0 : decode cX12_firstState 0 = .ok (.lconst 0, 1) := by decide +kernel
theorem dX12_firstState_1 : decode cX12_firstState 1 = .ok (.lstore_n 1, 1) := by decide +kernel
theorem dX12_firstState_2 : decode cX12_firstState 2 = .ok (.iconst 0, 1) := by decide +kernel
theorem dX12_firstState_3 : decode cX12_firstState 3 = .ok (.istore_n 3, 1) := by decide +kernel
theorem dX12_firstState_4 : decode cX12_firstState 4 = .ok (.iload_n 3, 1) := by decide +kernel
theorem dX12_firstState_5 : decode cX12_firstState 5 = .ok (.aload_n 0, 1) := by decide +kernel
theorem dX12_firstState_6 : decode cX12_firstState 6 = .ok (.getfield 17, 3) := by decide +kernel
theorem dX12_firstState_9 : decode cX12_firstState 9 = .ok (.iconst 2, 1) := by decide +kernel
theorem dX12_firstState_10 : decode cX12_firstState 10 = .ok (.iaload, 1) := by decide +kernel
theorem dX12_firstState_11 : decode cX12_firstState 11 = .ok (.if_icmp .ge 28, 3) := by decide +kernel
theorem dX12_firstState_14 : decode cX12_firstState 14 = .ok (.lload_n 1, 1) := by decide +kernel
theorem dX12_firstState_15 : decode cX12_firstState 15 = .ok (.bipush 32, 2) := by decide +kernel
theorem dX12_firstState_17 : decode cX12_firstState 17 = .ok (.iconst 2, 1) := by decide +kernel
theorem dX12_firstState_18 : decode cX12_firstState 18 = .ok (.iload_n 3, 1) := by decide +kernel
theorem dX12_firstState_19 : decode cX12_firstState 19 = .ok (.imul, 1) := by decide +kernel
theorem dX12_firstState_20 : decode cX12_firstState 20 = .ok (.iadd, 1) := by decide +kernel
theorem dX12_firstState_21 : decode cX12_firstState 21 = .ok (.aload_n 0, 1) := by decide +kernel
theorem dX12_firstState_22 : decode cX12_firstState 22 = .ok (.getfield 17, 3) := by decide +kernel
theorem dX12_firstState_25 : decode cX12_firstState 25 = .ok (.iconst 3, 1) := by decide +kernel
theorem dX12_firstState_26 : decode cX12_firstState 26 = .ok (.iload_n 3, 1) := by decide +kernel
theorem dX12_firstState_27 : decode cX12_firstState 27 = .ok (.iadd, 1) := by decide +kernel
theorem dX12_firstState_28 : decode cX12_firstState 28 = .ok (.iaload, 1) := by decide +kernel
theorem dX12_firstState_29 : decode cX12_firstState 29 = .ok (.invokestatic 352, 3) := by decide +kernel
theorem dX12_firstState_32 : decode cX12_firstState 32 = .ok (.lstore_n 1, 1) := by decide +kernel
theorem dX12_firstState_33 : decode cX12_firstState 33 = .ok (.iinc 3 1, 3) := by decide +kernel
theorem dX12_firstState_36 : decode cX12_firstState 36 = .ok (.goto (-32), 3) := by decide +kernel
theorem dX12_firstState_39 : decode cX12_firstState 39 = .ok (.lload_n 1, 1) := by decide +kernel
theorem dX12_firstState_40 : decode cX12_firstState 40 = .ok (.lreturn, 1) := by decide +kernel
theorem dX12_isFinal_0 : decode cX12_isFinal 0 = .ok (.iconst 0, 1) := by decide +kernel
theorem dX12_isFinal_1 : decode cX12_isFinal 1 = .ok (.istore_n 3, 1) := by decide +kernel
theorem dX12_isFinal_2 : decode cX12_isFinal 2 = .ok (.iload_n 3, 1) := by decide +kernel
theorem dX12_isFinal_3 : decode cX12_isFinal 3 = .ok (.iconst 4, 1) := by decide +kernel
theorem dX12_isFinal_4 : decode cX12_isFinal 4 = .ok (.if_icmp .ge 34, 3) := by decide +kernel
theorem dX12_isFinal_7 : decode cX12_isFinal 7 = .ok (.lload_n 1, 1) := by decide +kernel
theorem dX12_isFinal_8 : decode cX12_isFinal 8 = .ok (.iload_n 3, 1) := by decide +kernel
theorem dX12_isFinal_9 : decode cX12_isFinal 9 = .ok (.invokestatic 324, 3) := by decide +kernel
theorem dX12_isFinal_12 : decode cX12_isFinal 12 = .ok (.aload_n 0, 1) := by decide +kernel
theorem dX12_isFinal_13 : decode cX12_isFinal 13 = .ok (.getfield 65, 3) := by decide +kernel
theorem dX12_isFinal_16 : decode cX12_isFinal 16 = .ok (.iload_n 3, 1) := by decide +kernel
theorem dX12_isFinal_17 : decode cX12_isFinal 17 = .ok (.iconst 1, 1) := by decide +kernel
theorem dX12_isFinal_18 : decode cX12_isFinal 18 = .ok (.iadd, 1) := by decide +kernel
theorem dX12_isFinal_19 : decode cX12_isFinal 19 = .ok (.iaload, 1) := by decide +kernel
theorem dX12_isFinal_20 : decode cX12_isFinal 20 = .ok (.aload_n 0, 1) := by decide +kernel
theorem dX12_isFinal_21 : decode cX12_isFinal 21 = .ok (.getfield 65, 3) := by decide +kernel
theorem dX12_isFinal_24 : decode cX12_isFinal 24 = .ok (.iload_n 3, 1) := by decide +kernel
theorem dX12_isFinal_25 : decode cX12_isFinal 25 = .ok (.iaload, 1) := by decide +kernel
theorem dX12_isFinal_26 : decode cX12_isFinal 26 = .ok (.isub, 1) := by decide +kernel
theorem dX12_isFinal_27 : decode cX12_isFinal 27 = .ok (.if_icmp .eq 5, 3) := by decide +kernel
theorem dX12_isFinal_30 : decode cX12_isFinal 30 = .ok (.iconst 0, 1) := by decide +kernel
theorem dX12_isFinal_31 : decode cX12_isFinal 31 = .ok (.ireturn, 1) := by decide +kernel
theorem dX12_isFinal_32 : decode cX12_isFinal 32 = .ok (.iinc 3 1, 3) := by decide +kernel
theorem dX12_isFinal_35 : decode cX12_isFinal 35 = .ok (.goto (-33), 3) := by decide +kernel
theorem dX12_isFinal_38 : decode cX12_isFinal 38 = .ok (.lload_n 1, 1) := by decide +kernel
theorem dX12_isFinal_39 : decode cX12_isFinal 39 = .ok (.bipush 38, 2) := by decide +kernel
theorem dX12_isFinal_41 : decode cX12_isFinal 41 = .ok (.lshr, 1) := by decide +kernel
theorem dX12_isFinal_42 : decode cX12_isFinal 42 = .ok (.lconst 0, 1) := by decide +kernel
theorem dX12_isFinal_43 : decode cX12_isFinal 43 = .ok (.lcmp, 1) := by decide +kernel
theorem dX12_isFinal_44 : decode cX12_isFinal 44 = .ok (.ifCond .ne 7, 3) := by decide +kernel
theorem dX12_isFinal_47 : decode cX12_isFinal 47 = .ok (.iconst 1, 1) := by decide +kernel
theorem dX12_isFinal_48 : decode cX12_isFinal 48 = .ok (.goto 4, 3) := by decide +kernel
theorem dX12_isFinal_51 : decode cX12_isFinal 51 = .ok (.iconst 0, 1) := by decide +kernel
theorem dX12_isFinal_52 : decode cX12_isFinal 52 = .ok (.ireturn, 1) := by decide +kernel
theorem dX12_codeOf_0 : decode cX12_codeOf 0 = .ok (.iconst 0, 1) := by decide +kernel
theorem dX12_codeOf_1 : decode cX12_codeOf 1 = .ok (.istore_n 3, 1) := by decide +kernel
theorem dX12_codeOf_2 : decode cX12_codeOf 2 = .ok (.iconst 0, 1) := by decide +kernel
theorem dX12_codeOf_3 : decode cX12_codeOf 3 = .ok (.istore 4, 2) := by decide +kernel
theorem dX12_codeOf_5 : decode cX12_codeOf 5 = .ok (.iload 4, 2) := by decide +kernel
theorem dX12_codeOf_7 : decode cX12_codeOf 7 = .ok (.aload_n 0, 1) := by decide +kernel
theorem dX12_codeOf_8 : decode cX12_codeOf 8 = .ok (.getfield 17, 3) := by decide +kernel
theorem dX12_codeOf_11 : decode cX12_codeOf 11 = .ok (.iconst 1, 1) := by decide +kernel
theorem dX12_codeOf_12 : decode cX12_codeOf 12 = .ok (.iaload, 1) := by decide +kernel
theorem dX12_codeOf_13 : decode cX12_codeOf 13 = .ok (.if_icmp .ge 32, 3) := by decide +kernel
theorem dX12_codeOf_16 : decode cX12_codeOf 16 = .ok (.bipush 16, 2) := by decide +kernel
theorem dX12_codeOf_18 : decode cX12_codeOf 18 = .ok (.iload_n 3, 1) := by decide +kernel
theorem dX12_codeOf_19 : decode cX12_codeOf 19 = .ok (.imul, 1) := by decide +kernel
theorem dX12_codeOf_20 : decode cX12_codeOf 20 = .ok (.iconst 4, 1) := by decide +kernel
theorem dX12_codeOf_21 : decode cX12_codeOf 21 = .ok (.lload_n 1, 1) := by decide +kernel
theorem dX12_codeOf_22 : decode cX12_codeOf 22 = .ok (.iload 4, 2) := by decide +kernel
theorem dX12_codeOf_24 : decode cX12_codeOf 24 = .ok (.iconst 0, 1) := by decide +kernel
theorem dX12_codeOf_25 : decode cX12_codeOf 25 = .ok (.invokestatic 320, 3) := by decide +kernel
theorem dX12_codeOf_28 : decode cX12_codeOf 28 = .ok (.imul, 1) := by decide +kernel
theorem dX12_codeOf_29 : decode cX12_codeOf 29 = .ok (.iadd, 1) := by decide +kernel
theorem dX12_codeOf_30 : decode cX12_codeOf 30 = .ok (.lload_n 1, 1) := by decide +kernel
theorem dX12_codeOf_31 : decode cX12_codeOf 31 = .ok (.iload 4, 2) := by decide +kernel
theorem dX12_codeOf_33 : decode cX12_codeOf 33 = .ok (.iconst 1, 1) := by decide +kernel
theorem dX12_codeOf_34 : decode cX12_codeOf 34 = .ok (.invokestatic 320, 3) := by decide +kernel
theorem dX12_codeOf_37 : decode cX12_codeOf 37 = .ok (.iadd, 1) := by decide +kernel
theorem dX12_codeOf_38 : decode cX12_codeOf 38 = .ok (.istore_n 3, 1) := by decide +kernel
theorem dX12_codeOf_39 : decode cX12_codeOf 39 = .ok (.iinc 4 1, 3) := by decide +kernel
theorem dX12_codeOf_42 : decode cX12_codeOf 42 = .ok (.goto (-37), 3) := by decide +kernel
theorem dX12_codeOf_45 : decode cX12_codeOf 45 = .ok (.iconst 0, 1) := by decide +kernel
theorem dX12_codeOf_46 : decode cX12_codeOf 46 = .ok (.istore 4, 2) := by decide +kernel
theorem dX12_codeOf_48 : decode cX12_codeOf 48 = .ok (.iload 4, 2) := by decide +kernel
theorem dX12_codeOf_50 : decode cX12_codeOf 50 = .ok (.aload_n 0, 1) := by decide +kernel
theorem dX12_codeOf_51 : decode cX12_codeOf 51 = .ok (.getfield 17, 3) := by decide +kernel
theorem dX12_codeOf_54 : decode cX12_codeOf 54 = .ok (.iconst 2, 1) := by decide +kernel
theorem dX12_codeOf_55 : decode cX12_codeOf 55 = .ok (.iaload, 1) := by decide +kernel
theorem dX12_codeOf_56 : decode cX12_codeOf 56 = .ok (.if_icmp .ge 20, 3) := by decide +kernel
theorem dX12_codeOf_59 : decode cX12_codeOf 59 = .ok (.iconst 4, 1) := by decide +kernel
theorem dX12_codeOf_60 : decode cX12_codeOf 60 = .ok (.iload_n 3, 1) := by decide +kernel
theorem dX12_codeOf_61 : decode cX12_codeOf 61 = .ok (.imul, 1) := by decide +kernel
theorem dX12_codeOf_62 : decode cX12_codeOf 62 = .ok (.lload_n 1, 1) := by decide +kernel
theorem dX12_codeOf_63 : decode cX12_codeOf 63 = .ok (.iload 4, 2) := by decide +kernel
theorem dX12_codeOf_65 : decode cX12_codeOf 65 = .ok (.invokestatic 363, 3) := by decide +kernel
theorem dX12_codeOf_68 : decode cX12_codeOf 68 = .ok (.iadd, 1) := by decide +kernel
theorem dX12_codeOf_69 : decode cX12_codeOf 69 = .ok (.istore_n 3, 1) := by decide +kernel
theorem dX12_codeOf_70 : decode cX12_codeOf 70 = .ok (.iinc 4 1, 3) := by decide +kernel
theorem dX12_codeOf_73 : decode cX12_codeOf 73 = .ok (.goto (-25), 3) := by decide +kernel
theorem dX12_codeOf_76 : decode cX12_codeOf 76 = .ok (.iload_n 3, 1) := by decide +kernel
theorem dX12_codeOf_77 : decode cX12_codeOf 77 = .ok (.ireturn, 1) := by decide +kernel
theorem dX12_slotOf_0 : decode cX12_slotOf 0 = .ok (.lload_n 1, 1) := by decide +kernel
theorem dX12_slotOf_1 : decode cX12_slotOf 1 = .ok (.ldc2_w 366, 3) := by decide +kernel
theorem dX12_slotOf_4 : decode cX12_slotOf 4 = .ok (.lmul, 1) := by decide +kernel
theorem dX12_slotOf_5 : decode cX12_slotOf 5 = .ok (.lstore_n 3, 1) := by decide +kernel
theorem dX12_slotOf_6 : decode cX12_slotOf 6 = .ok (.lload_n 3, 1) := by decide +kernel
theorem dX12_slotOf_7 : decode cX12_slotOf 7 = .ok (.bipush 40, 2) := by decide +kernel
theorem dX12_slotOf_9 : decode cX12_slotOf 9 = .ok (.lushr, 1) := by decide +kernel
theorem dX12_slotOf_10 : decode cX12_slotOf 10 = .ok (.l2i, 1) := by decide +kernel
theorem dX12_slotOf_11 : decode cX12_slotOf 11 = .ok (.ldc_w 368, 3) := by decide +kernel
theorem dX12_slotOf_14 : decode cX12_slotOf 14 = .ok (.iand, 1) := by decide +kernel
theorem dX12_slotOf_15 : decode cX12_slotOf 15 = .ok (.istore 5, 2) := by decide +kernel
theorem dX12_slotOf_17 : decode cX12_slotOf 17 = .ok (.aload_n 0, 1) := by decide +kernel
theorem dX12_slotOf_18 : decode cX12_slotOf 18 = .ok (.getfield 79, 3) := by decide +kernel
theorem dX12_slotOf_21 : decode cX12_slotOf 21 = .ok (.iload 5, 2) := by decide +kernel
theorem dX12_slotOf_23 : decode cX12_slotOf 23 = .ok (.iaload, 1) := by decide +kernel
theorem dX12_slotOf_24 : decode cX12_slotOf 24 = .ok (.aload_n 0, 1) := by decide +kernel
theorem dX12_slotOf_25 : decode cX12_slotOf 25 = .ok (.getfield 369, 3) := by decide +kernel
theorem dX12_slotOf_28 : decode cX12_slotOf 28 = .ok (.if_icmp .ne 33, 3) := by decide +kernel
theorem dX12_slotOf_31 : decode cX12_slotOf 31 = .ok (.aload_n 0, 1) := by decide +kernel
theorem dX12_slotOf_32 : decode cX12_slotOf 32 = .ok (.getfield 69, 3) := by decide +kernel
theorem dX12_slotOf_35 : decode cX12_slotOf 35 = .ok (.aload_n 0, 1) := by decide +kernel
theorem dX12_slotOf_36 : decode cX12_slotOf 36 = .ok (.getfield 76, 3) := by decide +kernel
theorem dX12_slotOf_39 : decode cX12_slotOf 39 = .ok (.iload 5, 2) := by decide +kernel
theorem dX12_slotOf_41 : decode cX12_slotOf 41 = .ok (.iaload, 1) := by decide +kernel
theorem dX12_slotOf_42 : decode cX12_slotOf 42 = .ok (.laload, 1) := by decide +kernel
theorem dX12_slotOf_43 : decode cX12_slotOf 43 = .ok (.lload_n 1, 1) := by decide +kernel
theorem dX12_slotOf_44 : decode cX12_slotOf 44 = .ok (.lcmp, 1) := by decide +kernel
theorem dX12_slotOf_45 : decode cX12_slotOf 45 = .ok (.ifCond .eq 16, 3) := by decide +kernel
theorem dX12_slotOf_48 : decode cX12_slotOf 48 = .ok (.iload 5, 2) := by decide +kernel
theorem dX12_slotOf_50 : decode cX12_slotOf 50 = .ok (.iconst 1, 1) := by decide +kernel
theorem dX12_slotOf_51 : decode cX12_slotOf 51 = .ok (.iadd, 1) := by decide +kernel
theorem dX12_slotOf_52 : decode cX12_slotOf 52 = .ok (.ldc_w 368, 3) := by decide +kernel
theorem dX12_slotOf_55 : decode cX12_slotOf 55 = .ok (.iand, 1) := by decide +kernel
theorem dX12_slotOf_56 : decode cX12_slotOf 56 = .ok (.istore 5, 2) := by decide +kernel
theorem dX12_slotOf_58 : decode cX12_slotOf 58 = .ok (.goto (-41), 3) := by decide +kernel
theorem dX12_slotOf_61 : decode cX12_slotOf 61 = .ok (.iload 5, 2) := by decide +kernel
theorem dX12_slotOf_63 : decode cX12_slotOf 63 = .ok (.ireturn, 1) := by decide +kernel
theorem dX12_stateOf_0 : decode cX12_stateOf 0 = .ok (.aload_n 0, 1) := by decide +kernel
theorem dX12_stateOf_1 : decode cX12_stateOf 1 = .ok (.lload_n 1, 1) := by decide +kernel
theorem dX12_stateOf_2 : decode cX12_stateOf 2 = .ok (.invokevirtual 372, 3) := by decide +kernel
theorem dX12_stateOf_5 : decode cX12_stateOf 5 = .ok (.istore_n 3, 1) := by decide +kernel
theorem dX12_stateOf_6 : decode cX12_stateOf 6 = .ok (.aload_n 0, 1) := by decide +kernel
theorem dX12_stateOf_7 : decode cX12_stateOf 7 = .ok (.getfield 79, 3) := by decide +kernel
theorem dX12_stateOf_10 : decode cX12_stateOf 10 = .ok (.iload_n 3, 1) := by decide +kernel
theorem dX12_stateOf_11 : decode cX12_stateOf 11 = .ok (.iaload, 1) := by decide +kernel
theorem dX12_stateOf_12 : decode cX12_stateOf 12 = .ok (.aload_n 0, 1) := by decide +kernel
theorem dX12_stateOf_13 : decode cX12_stateOf 13 = .ok (.getfield 369, 3) := by decide +kernel
theorem dX12_stateOf_16 : decode cX12_stateOf 16 = .ok (.if_icmp .eq 53, 3) := by decide +kernel
theorem dX12_stateOf_19 : decode cX12_stateOf 19 = .ok (.aload_n 0, 1) := by decide +kernel
theorem dX12_stateOf_20 : decode cX12_stateOf 20 = .ok (.getfield 79, 3) := by decide +kernel
theorem dX12_stateOf_23 : decode cX12_stateOf 23 = .ok (.iload_n 3, 1) := by decide +kernel
theorem dX12_stateOf_24 : decode cX12_stateOf 24 = .ok (.aload_n 0, 1) := by decide +kernel
theorem dX12_stateOf_25 : decode cX12_stateOf 25 = .ok (.getfield 369, 3) := by decide +kernel
theorem dX12_stateOf_28 : decode cX12_stateOf 28 = .ok (.iastore, 1) := by decide +kernel
theorem dX12_stateOf_29 : decode cX12_stateOf 29 = .ok (.aload_n 0, 1) := by decide +kernel
theorem dX12_stateOf_30 : decode cX12_stateOf 30 = .ok (.getfield 76, 3) := by decide +kernel
theorem dX12_stateOf_33 : decode cX12_stateOf 33 = .ok (.iload_n 3, 1) := by decide +kernel
theorem dX12_stateOf_34 : decode cX12_stateOf 34 = .ok (.aload_n 0, 1) := by decide +kernel
theorem dX12_stateOf_35 : decode cX12_stateOf 35 = .ok (.getfield 376, 3) := by decide +kernel
theorem dX12_stateOf_38 : decode cX12_stateOf 38 = .ok (.iastore, 1) := by decide +kernel
theorem dX12_stateOf_39 : decode cX12_stateOf 39 = .ok (.aload_n 0, 1) := by decide +kernel
theorem dX12_stateOf_40 : decode cX12_stateOf 40 = .ok (.getfield 69, 3) := by decide +kernel
theorem dX12_stateOf_43 : decode cX12_stateOf 43 = .ok (.aload_n 0, 1) := by decide +kernel
theorem dX12_stateOf_44 : decode cX12_stateOf 44 = .ok (.getfield 376, 3) := by decide +kernel
theorem dX12_stateOf_47 : decode cX12_stateOf 47 = .ok (.lload_n 1, 1) := by decide +kernel
theorem dX12_stateOf_48 : decode cX12_stateOf 48 = .ok (.lastore, 1) := by decide +kernel
theorem dX12_stateOf_49 : decode cX12_stateOf 49 = .ok (.aload_n 0, 1) := by decide +kernel
theorem dX12_stateOf_50 : decode cX12_stateOf 50 = .ok (.getfield 73, 3) := by decide +kernel
theorem dX12_stateOf_53 : decode cX12_stateOf 53 = .ok (.aload_n 0, 1) := by decide +kernel
theorem dX12_stateOf_54 : decode cX12_stateOf 54 = .ok (.getfield 376, 3) := by decide +kernel
theorem dX12_stateOf_57 : decode cX12_stateOf 57 = .ok (.lconst 0, 1) := by decide +kernel
theorem dX12_stateOf_58 : decode cX12_stateOf 58 = .ok (.lastore, 1) := by decide +kernel
theorem dX12_stateOf_59 : decode cX12_stateOf 59 = .ok (.aload_n 0, 1) := by decide +kernel
theorem dX12_stateOf_60 : decode cX12_stateOf 60 = .ok (.dup, 1) := by decide +kernel
theorem dX12_stateOf_61 : decode cX12_stateOf 61 = .ok (.getfield 376, 3) := by decide +kernel
theorem dX12_stateOf_64 : decode cX12_stateOf 64 = .ok (.iconst 1, 1) := by decide +kernel
theorem dX12_stateOf_65 : decode cX12_stateOf 65 = .ok (.iadd, 1) := by decide +kernel
theorem dX12_stateOf_66 : decode cX12_stateOf 66 = .ok (.putfield 376, 3) := by decide +kernel
theorem dX12_stateOf_69 : decode cX12_stateOf 69 = .ok (.aload_n 0, 1) := by decide +kernel
theorem dX12_stateOf_70 : decode cX12_stateOf 70 = .ok (.getfield 76, 3) := by decide +kernel
theorem dX12_stateOf_73 : decode cX12_stateOf 73 = .ok (.iload_n 3, 1) := by decide +kernel
theorem dX12_stateOf_74 : decode cX12_stateOf 74 = .ok (.iaload, 1) := by decide +kernel
theorem dX12_stateOf_75 : decode cX12_stateOf 75 = .ok (.ireturn, 1) := by decide +kernel
theorem dX12_explores_0 : decode cX12_explores 0 = .ok (.aload_n 0, 1) := by decide +kernel
theorem dX12_explores_1 : decode cX12_explores 1 = .ok (.iload_n 1, 1) := by decide +kernel
theorem dX12_explores_2 : decode cX12_explores 2 = .ok (.putfield 335, 3) := by decide +kernel
theorem dX12_explores_5 : decode cX12_explores 5 = .ok (.aload_n 0, 1) := by decide +kernel
theorem dX12_explores_6 : decode cX12_explores 6 = .ok (.dup, 1) := by decide +kernel
theorem dX12_explores_7 : decode cX12_explores 7 = .ok (.getfield 369, 3) := by decide +kernel
theorem dX12_explores_10 : decode cX12_explores 10 = .ok (.iconst 1, 1) := by decide +kernel
theorem dX12_explores_11 : decode cX12_explores 11 = .ok (.iadd, 1) := by decide +kernel
theorem dX12_explores_12 : decode cX12_explores 12 = .ok (.putfield 369, 3) := by decide +kernel
theorem dX12_explores_15 : decode cX12_explores 15 = .ok (.aload_n 0, 1) := by decide +kernel
theorem dX12_explores_16 : decode cX12_explores 16 = .ok (.iconst 0, 1) := by decide +kernel
theorem dX12_explores_17 : decode cX12_explores 17 = .ok (.putfield 376, 3) := by decide +kernel
theorem dX12_explores_20 : decode cX12_explores 20 = .ok (.aload_n 0, 1) := by decide +kernel
theorem dX12_explores_21 : decode cX12_explores 21 = .ok (.aload_n 0, 1) := by decide +kernel
theorem dX12_explores_22 : decode cX12_explores 22 = .ok (.invokevirtual 379, 3) := by decide +kernel
theorem dX12_explores_25 : decode cX12_explores 25 = .ok (.invokevirtual 383, 3) := by decide +kernel
theorem dX12_explores_28 : decode cX12_explores 28 = .ok (.istore_n 2, 1) := by decide +kernel
theorem dX12_explores_29 : decode cX12_explores 29 = .ok (.aload_n 0, 1) := by decide +kernel
theorem dX12_explores_30 : decode cX12_explores 30 = .ok (.getfield 73, 3) := by decide +kernel
theorem dX12_explores_33 : decode cX12_explores 33 = .ok (.iload_n 2, 1) := by decide +kernel
theorem dX12_explores_34 : decode cX12_explores 34 = .ok (.lconst 1, 1) := by decide +kernel
theorem dX12_explores_35 : decode cX12_explores 35 = .ok (.lastore, 1) := by decide +kernel
theorem dX12_explores_36 : decode cX12_explores 36 = .ok (.iconst 0, 1) := by decide +kernel
theorem dX12_explores_37 : decode cX12_explores 37 = .ok (.istore_n 3, 1) := by decide +kernel
theorem dX12_explores_38 : decode cX12_explores 38 = .ok (.iload_n 3, 1) := by decide +kernel
theorem dX12_explores_39 : decode cX12_explores 39 = .ok (.aload_n 0, 1) := by decide +kernel
theorem dX12_explores_40 : decode cX12_explores 40 = .ok (.getfield 376, 3) := by decide +kernel
theorem dX12_explores_43 : decode cX12_explores 43 = .ok (.if_icmp .ge 78, 3) := by decide +kernel
theorem dX12_explores_46 : decode cX12_explores 46 = .ok (.iconst 0, 1) := by decide +kernel
theorem dX12_explores_47 : decode cX12_explores 47 = .ok (.istore 4, 2) := by decide +kernel
theorem dX12_explores_49 : decode cX12_explores 49 = .ok (.iload 4, 2) := by decide +kernel
theorem dX12_explores_51 : decode cX12_explores 51 = .ok (.iconst 4, 1) := by decide +kernel
theorem dX12_explores_52 : decode cX12_explores 52 = .ok (.if_icmp .ge 63, 3) := by decide +kernel
theorem dX12_explores_55 : decode cX12_explores 55 = .ok (.iconst 0, 1) := by decide +kernel
theorem dX12_explores_56 : decode cX12_explores 56 = .ok (.istore 5, 2) := by decide +kernel
theorem dX12_explores_58 : decode cX12_explores 58 = .ok (.iload 5, 2) := by decide +kernel
theorem dX12_explores_60 : decode cX12_explores 60 = .ok (.iconst 3, 1) := by decide +kernel
theorem dX12_explores_61 : decode cX12_explores 61 = .ok (.if_icmp .gt 48, 3) := by decide +kernel
theorem dX12_explores_64 : decode cX12_explores 64 = .ok (.aload_n 0, 1) := by decide +kernel
theorem dX12_explores_65 : decode cX12_explores 65 = .ok (.aload_n 0, 1) := by decide +kernel
theorem dX12_explores_66 : decode cX12_explores 66 = .ok (.getfield 69, 3) := by decide +kernel
theorem dX12_explores_69 : decode cX12_explores 69 = .ok (.iload_n 3, 1) := by decide +kernel
theorem dX12_explores_70 : decode cX12_explores 70 = .ok (.laload, 1) := by decide +kernel
theorem dX12_explores_71 : decode cX12_explores 71 = .ok (.iload 4, 2) := by decide +kernel
theorem dX12_explores_73 : decode cX12_explores 73 = .ok (.iload 5, 2) := by decide +kernel
theorem dX12_explores_75 : decode cX12_explores 75 = .ok (.invokevirtual 386, 3) := by decide +kernel
theorem dX12_explores_78 : decode cX12_explores 78 = .ok (.ifCond .eq 25, 3) := by decide +kernel
theorem dX12_explores_81 : decode cX12_explores 81 = .ok (.aload_n 0, 1) := by decide +kernel
theorem dX12_explores_82 : decode cX12_explores 82 = .ok (.getfield 73, 3) := by decide +kernel
theorem dX12_explores_85 : decode cX12_explores 85 = .ok (.aload_n 0, 1) := by decide +kernel
theorem dX12_explores_86 : decode cX12_explores 86 = .ok (.aload_n 0, 1) := by decide +kernel
theorem dX12_explores_87 : decode cX12_explores 87 = .ok (.getfield 356, 3) := by decide +kernel
theorem dX12_explores_90 : decode cX12_explores 90 = .ok (.invokevirtual 383, 3) := by decide +kernel
theorem dX12_explores_93 : decode cX12_explores 93 = .ok (.dup2, 1) := by decide +kernel
theorem dX12_explores_94 : decode cX12_explores 94 = .ok (.laload, 1) := by decide +kernel
theorem dX12_explores_95 : decode cX12_explores 95 = .ok (.aload_n 0, 1) := by decide +kernel
theorem dX12_explores_96 : decode cX12_explores 96 = .ok (.getfield 73, 3) := by decide +kernel
theorem dX12_explores_99 : decode cX12_explores 99 = .ok (.iload_n 3, 1) := by decide +kernel
theorem dX12_explores_100 : decode cX12_explores 100 = .ok (.laload, 1) := by decide +kernel
theorem dX12_explores_101 : decode cX12_explores 101 = .ok (.ladd, 1) := by decide +kernel
theorem dX12_explores_102 : decode cX12_explores 102 = .ok (.lastore, 1) := by decide +kernel
theorem dX12_explores_103 : decode cX12_explores 103 = .ok (.iinc 5 1, 3) := by decide +kernel
theorem dX12_explores_106 : decode cX12_explores 106 = .ok (.goto (-48), 3) := by decide +kernel
theorem dX12_explores_109 : decode cX12_explores 109 = .ok (.iinc 4 1, 3) := by decide +kernel
theorem dX12_explores_112 : decode cX12_explores 112 = .ok (.goto (-63), 3) := by decide +kernel
theorem dX12_explores_115 : decode cX12_explores 115 = .ok (.iinc 3 1, 3) := by decide +kernel
theorem dX12_explores_118 : decode cX12_explores 118 = .ok (.goto (-80), 3) := by decide +kernel
theorem dX12_explores_121 : decode cX12_explores 121 = .ok (.return_, 1) := by decide +kernel
theorem dX12_sinks_0 : decode cX12_sinks 0 = .ok (.iload_n 1, 1) := by decide +kernel
theorem dX12_sinks_1 : decode cX12_sinks 1 = .ok (.istore_n 3, 1) := by decide +kernel
theorem dX12_sinks_2 : decode cX12_sinks 2 = .ok (.iconst 1, 1) := by decide +kernel
theorem dX12_sinks_3 : decode cX12_sinks 3 = .ok (.istore 4, 2) := by decide +kernel
theorem dX12_sinks_5 : decode cX12_sinks 5 = .ok (.iload 4, 2) := by decide +kernel
theorem dX12_sinks_7 : decode cX12_sinks 7 = .ok (.ifCond .eq 90, 3) := by decide +kernel
theorem dX12_sinks_10 : decode cX12_sinks 10 = .ok (.iconst 2, 1) := by decide +kernel
theorem dX12_sinks_11 : decode cX12_sinks 11 = .ok (.iload_n 3, 1) := by decide +kernel
theorem dX12_sinks_12 : decode cX12_sinks 12 = .ok (.imul, 1) := by decide +kernel
theorem dX12_sinks_13 : decode cX12_sinks 13 = .ok (.iconst 1, 1) := by decide +kernel
theorem dX12_sinks_14 : decode cX12_sinks 14 = .ok (.iadd, 1) := by decide +kernel
theorem dX12_sinks_15 : decode cX12_sinks 15 = .ok (.iload_n 2, 1) := by decide +kernel
theorem dX12_sinks_16 : decode cX12_sinks 16 = .ok (.if_icmp .ge 81, 3) := by decide +kernel
theorem dX12_sinks_19 : decode cX12_sinks 19 = .ok (.iconst 2, 1) := by decide +kernel
theorem dX12_sinks_20 : decode cX12_sinks 20 = .ok (.iload_n 3, 1) := by decide +kernel
theorem dX12_sinks_21 : decode cX12_sinks 21 = .ok (.imul, 1) := by decide +kernel
theorem dX12_sinks_22 : decode cX12_sinks 22 = .ok (.iconst 1, 1) := by decide +kernel
theorem dX12_sinks_23 : decode cX12_sinks 23 = .ok (.iadd, 1) := by decide +kernel
theorem dX12_sinks_24 : decode cX12_sinks 24 = .ok (.istore 5, 2) := by decide +kernel
theorem dX12_sinks_26 : decode cX12_sinks 26 = .ok (.iload 5, 2) := by decide +kernel
theorem dX12_sinks_28 : decode cX12_sinks 28 = .ok (.iconst 1, 1) := by decide +kernel
theorem dX12_sinks_29 : decode cX12_sinks 29 = .ok (.iadd, 1) := by decide +kernel
theorem dX12_sinks_30 : decode cX12_sinks 30 = .ok (.iload_n 2, 1) := by decide +kernel
theorem dX12_sinks_31 : decode cX12_sinks 31 = .ok (.if_icmp .ge 25, 3) := by decide +kernel
theorem dX12_sinks_34 : decode cX12_sinks 34 = .ok (.aload_n 0, 1) := by decide +kernel
theorem dX12_sinks_35 : decode cX12_sinks 35 = .ok (.getfield 82, 3) := by decide +kernel
theorem dX12_sinks_38 : decode cX12_sinks 38 = .ok (.iload 5, 2) := by decide +kernel
theorem dX12_sinks_40 : decode cX12_sinks 40 = .ok (.iconst 1, 1) := by decide +kernel
theorem dX12_sinks_41 : decode cX12_sinks 41 = .ok (.iadd, 1) := by decide +kernel
theorem dX12_sinks_42 : decode cX12_sinks 42 = .ok (.iaload, 1) := by decide +kernel
theorem dX12_sinks_43 : decode cX12_sinks 43 = .ok (.aload_n 0, 1) := by decide +kernel
theorem dX12_sinks_44 : decode cX12_sinks 44 = .ok (.getfield 82, 3) := by decide +kernel
theorem dX12_sinks_47 : decode cX12_sinks 47 = .ok (.iload 5, 2) := by decide +kernel
theorem dX12_sinks_49 : decode cX12_sinks 49 = .ok (.iaload, 1) := by decide +kernel
theorem dX12_sinks_50 : decode cX12_sinks 50 = .ok (.if_icmp .le 6, 3) := by decide +kernel
theorem dX12_sinks_53 : decode cX12_sinks 53 = .ok (.iinc 5 1, 3) := by decide +kernel
theorem dX12_sinks_56 : decode cX12_sinks 56 = .ok (.aload_n 0, 1) := by decide +kernel
theorem dX12_sinks_57 : decode cX12_sinks 57 = .ok (.getfield 82, 3) := by decide +kernel
theorem dX12_sinks_60 : decode cX12_sinks 60 = .ok (.iload 5, 2) := by decide +kernel
theorem dX12_sinks_62 : decode cX12_sinks 62 = .ok (.iaload, 1) := by decide +kernel
theorem dX12_sinks_63 : decode cX12_sinks 63 = .ok (.aload_n 0, 1) := by decide +kernel
theorem dX12_sinks_64 : decode cX12_sinks 64 = .ok (.getfield 82, 3) := by decide +kernel
theorem dX12_sinks_67 : decode cX12_sinks 67 = .ok (.iload_n 3, 1) := by decide +kernel
theorem dX12_sinks_68 : decode cX12_sinks 68 = .ok (.iaload, 1) := by decide +kernel
theorem dX12_sinks_69 : decode cX12_sinks 69 = .ok (.if_icmp .le 7, 3) := by decide +kernel
theorem dX12_sinks_72 : decode cX12_sinks 72 = .ok (.iconst 1, 1) := by decide +kernel
theorem dX12_sinks_73 : decode cX12_sinks 73 = .ok (.goto 4, 3) := by decide +kernel
theorem dX12_sinks_76 : decode cX12_sinks 76 = .ok (.iconst 0, 1) := by decide +kernel
theorem dX12_sinks_77 : decode cX12_sinks 77 = .ok (.istore 4, 2) := by decide +kernel
theorem dX12_sinks_79 : decode cX12_sinks 79 = .ok (.iload 4, 2) := by decide +kernel
theorem dX12_sinks_81 : decode cX12_sinks 81 = .ok (.ifCond .eq 10, 3) := by decide +kernel
theorem dX12_sinks_84 : decode cX12_sinks 84 = .ok (.aload_n 0, 1) := by decide +kernel
theorem dX12_sinks_85 : decode cX12_sinks 85 = .ok (.iload 5, 2) := by decide +kernel
theorem dX12_sinks_87 : decode cX12_sinks 87 = .ok (.iload_n 3, 1) := by decide +kernel
theorem dX12_sinks_88 : decode cX12_sinks 88 = .ok (.invokevirtual 389, 3) := by decide +kernel
theorem dX12_sinks_91 : decode cX12_sinks 91 = .ok (.iload 5, 2) := by decide +kernel
theorem dX12_sinks_93 : decode cX12_sinks 93 = .ok (.istore_n 3, 1) := by decide +kernel
theorem dX12_sinks_94 : decode cX12_sinks 94 = .ok (.goto (-89), 3) := by decide +kernel
theorem dX12_sinks_97 : decode cX12_sinks 97 = .ok (.return_, 1) := by decide +kernel
theorem dX12_swaps_0 : decode cX12_swaps 0 = .ok (.aload_n 0, 1) := by decide +kernel
theorem dX12_swaps_1 : decode cX12_swaps 1 = .ok (.getfield 82, 3) := by decide +kernel
theorem dX12_swaps_4 : decode cX12_swaps 4 = .ok (.iload_n 1, 1) := by decide +kernel
theorem dX12_swaps_5 : decode cX12_swaps 5 = .ok (.iaload, 1) := by decide +kernel
theorem dX12_swaps_6 : decode cX12_swaps 6 = .ok (.istore_n 3, 1) := by decide +kernel
theorem dX12_swaps_7 : decode cX12_swaps 7 = .ok (.aload_n 0, 1) := by decide +kernel
theorem dX12_swaps_8 : decode cX12_swaps 8 = .ok (.getfield 88, 3) := by decide +kernel
theorem dX12_swaps_11 : decode cX12_swaps 11 = .ok (.iload_n 1, 1) := by decide +kernel
theorem dX12_swaps_12 : decode cX12_swaps 12 = .ok (.laload, 1) := by decide +kernel
theorem dX12_swaps_13 : decode cX12_swaps 13 = .ok (.lstore 4, 2) := by decide +kernel
theorem dX12_swaps_15 : decode cX12_swaps 15 = .ok (.aload_n 0, 1) := by decide +kernel
theorem dX12_swaps_16 : decode cX12_swaps 16 = .ok (.getfield 82, 3) := by decide +kernel
theorem dX12_swaps_19 : decode cX12_swaps 19 = .ok (.iload_n 1, 1) := by decide +kernel
theorem dX12_swaps_20 : decode cX12_swaps 20 = .ok (.aload_n 0, 1) := by decide +kernel
theorem dX12_swaps_21 : decode cX12_swaps 21 = .ok (.getfield 82, 3) := by decide +kernel
theorem dX12_swaps_24 : decode cX12_swaps 24 = .ok (.iload_n 2, 1) := by decide +kernel
theorem dX12_swaps_25 : decode cX12_swaps 25 = .ok (.iaload, 1) := by decide +kernel
theorem dX12_swaps_26 : decode cX12_swaps 26 = .ok (.iastore, 1) := by decide +kernel
theorem dX12_swaps_27 : decode cX12_swaps 27 = .ok (.aload_n 0, 1) := by decide +kernel
theorem dX12_swaps_28 : decode cX12_swaps 28 = .ok (.getfield 88, 3) := by decide +kernel
theorem dX12_swaps_31 : decode cX12_swaps 31 = .ok (.iload_n 1, 1) := by decide +kernel
theorem dX12_swaps_32 : decode cX12_swaps 32 = .ok (.aload_n 0, 1) := by decide +kernel
theorem dX12_swaps_33 : decode cX12_swaps 33 = .ok (.getfield 88, 3) := by decide +kernel
theorem dX12_swaps_36 : decode cX12_swaps 36 = .ok (.iload_n 2, 1) := by decide +kernel
theorem dX12_swaps_37 : decode cX12_swaps 37 = .ok (.laload, 1) := by decide +kernel
theorem dX12_swaps_38 : decode cX12_swaps 38 = .ok (.lastore, 1) := by decide +kernel
theorem dX12_swaps_39 : decode cX12_swaps 39 = .ok (.aload_n 0, 1) := by decide +kernel
theorem dX12_swaps_40 : decode cX12_swaps 40 = .ok (.getfield 82, 3) := by decide +kernel
theorem dX12_swaps_43 : decode cX12_swaps 43 = .ok (.iload_n 2, 1) := by decide +kernel
theorem dX12_swaps_44 : decode cX12_swaps 44 = .ok (.iload_n 3, 1) := by decide +kernel
theorem dX12_swaps_45 : decode cX12_swaps 45 = .ok (.iastore, 1) := by decide +kernel
theorem dX12_swaps_46 : decode cX12_swaps 46 = .ok (.aload_n 0, 1) := by decide +kernel
theorem dX12_swaps_47 : decode cX12_swaps 47 = .ok (.getfield 88, 3) := by decide +kernel
theorem dX12_swaps_50 : decode cX12_swaps 50 = .ok (.iload_n 2, 1) := by decide +kernel
theorem dX12_swaps_51 : decode cX12_swaps 51 = .ok (.lload 4, 2) := by decide +kernel
theorem dX12_swaps_53 : decode cX12_swaps 53 = .ok (.lastore, 1) := by decide +kernel
theorem dX12_swaps_54 : decode cX12_swaps 54 = .ok (.return_, 1) := by decide +kernel
theorem dX12_gathers_0 : decode cX12_gathers 0 = .ok (.aload_n 0, 1) := by decide +kernel
theorem dX12_gathers_1 : decode cX12_gathers 1 = .ok (.iload_n 1, 1) := by decide +kernel
theorem dX12_gathers_2 : decode cX12_gathers 2 = .ok (.invokevirtual 392, 3) := by decide +kernel
theorem dX12_gathers_5 : decode cX12_gathers 5 = .ok (.aload_n 0, 1) := by decide +kernel
theorem dX12_gathers_6 : decode cX12_gathers 6 = .ok (.iconst 0, 1) := by decide +kernel
theorem dX12_gathers_7 : decode cX12_gathers 7 = .ok (.putfield 395, 3) := by decide +kernel
theorem dX12_gathers_10 : decode cX12_gathers 10 = .ok (.iconst 0, 1) := by decide +kernel
theorem dX12_gathers_11 : decode cX12_gathers 11 = .ok (.istore_n 2, 1) := by decide +kernel
theorem dX12_gathers_12 : decode cX12_gathers 12 = .ok (.iload_n 2, 1) := by decide +kernel
theorem dX12_gathers_13 : decode cX12_gathers 13 = .ok (.aload_n 0, 1) := by decide +kernel
theorem dX12_gathers_14 : decode cX12_gathers 14 = .ok (.getfield 376, 3) := by decide +kernel
theorem dX12_gathers_17 : decode cX12_gathers 17 = .ok (.if_icmp .ge 69, 3) := by decide +kernel
theorem dX12_gathers_20 : decode cX12_gathers 20 = .ok (.aload_n 0, 1) := by decide +kernel
theorem dX12_gathers_21 : decode cX12_gathers 21 = .ok (.aload_n 0, 1) := by decide +kernel
theorem dX12_gathers_22 : decode cX12_gathers 22 = .ok (.getfield 69, 3) := by decide +kernel
theorem dX12_gathers_25 : decode cX12_gathers 25 = .ok (.iload_n 2, 1) := by decide +kernel
theorem dX12_gathers_26 : decode cX12_gathers 26 = .ok (.laload, 1) := by decide +kernel
theorem dX12_gathers_27 : decode cX12_gathers 27 = .ok (.invokevirtual 398, 3) := by decide +kernel
theorem dX12_gathers_30 : decode cX12_gathers 30 = .ok (.ifCond .ne 6, 3) := by decide +kernel
theorem dX12_gathers_33 : decode cX12_gathers 33 = .ok (.goto 47, 3) := by decide +kernel
theorem dX12_gathers_36 : decode cX12_gathers 36 = .ok (.aload_n 0, 1) := by decide +kernel
theorem dX12_gathers_37 : decode cX12_gathers 37 = .ok (.getfield 82, 3) := by decide +kernel
theorem dX12_gathers_40 : decode cX12_gathers 40 = .ok (.aload_n 0, 1) := by decide +kernel
theorem dX12_gathers_41 : decode cX12_gathers 41 = .ok (.getfield 395, 3) := by decide +kernel
theorem dX12_gathers_44 : decode cX12_gathers 44 = .ok (.aload_n 0, 1) := by decide +kernel
theorem dX12_gathers_45 : decode cX12_gathers 45 = .ok (.aload_n 0, 1) := by decide +kernel
theorem dX12_gathers_46 : decode cX12_gathers 46 = .ok (.getfield 69, 3) := by decide +kernel
theorem dX12_gathers_49 : decode cX12_gathers 49 = .ok (.iload_n 2, 1) := by decide +kernel
theorem dX12_gathers_50 : decode cX12_gathers 50 = .ok (.laload, 1) := by decide +kernel
theorem dX12_gathers_51 : decode cX12_gathers 51 = .ok (.invokevirtual 402, 3) := by decide +kernel
theorem dX12_gathers_54 : decode cX12_gathers 54 = .ok (.iastore, 1) := by decide +kernel
theorem dX12_gathers_55 : decode cX12_gathers 55 = .ok (.aload_n 0, 1) := by decide +kernel
theorem dX12_gathers_56 : decode cX12_gathers 56 = .ok (.getfield 88, 3) := by decide +kernel
theorem dX12_gathers_59 : decode cX12_gathers 59 = .ok (.aload_n 0, 1) := by decide +kernel
theorem dX12_gathers_60 : decode cX12_gathers 60 = .ok (.getfield 395, 3) := by decide +kernel
theorem dX12_gathers_63 : decode cX12_gathers 63 = .ok (.aload_n 0, 1) := by decide +kernel
theorem dX12_gathers_64 : decode cX12_gathers 64 = .ok (.getfield 73, 3) := by decide +kernel
theorem dX12_gathers_67 : decode cX12_gathers 67 = .ok (.iload_n 2, 1) := by decide +kernel
theorem dX12_gathers_68 : decode cX12_gathers 68 = .ok (.laload, 1) := by decide +kernel
theorem dX12_gathers_69 : decode cX12_gathers 69 = .ok (.lastore, 1) := by decide +kernel
theorem dX12_gathers_70 : decode cX12_gathers 70 = .ok (.aload_n 0, 1) := by decide +kernel
theorem dX12_gathers_71 : decode cX12_gathers 71 = .ok (.dup, 1) := by decide +kernel
theorem dX12_gathers_72 : decode cX12_gathers 72 = .ok (.getfield 395, 3) := by decide +kernel
theorem dX12_gathers_75 : decode cX12_gathers 75 = .ok (.iconst 1, 1) := by decide +kernel
theorem dX12_gathers_76 : decode cX12_gathers 76 = .ok (.iadd, 1) := by decide +kernel
theorem dX12_gathers_77 : decode cX12_gathers 77 = .ok (.putfield 395, 3) := by decide +kernel
theorem dX12_gathers_80 : decode cX12_gathers 80 = .ok (.iinc 2 1, 3) := by decide +kernel
theorem dX12_gathers_83 : decode cX12_gathers 83 = .ok (.goto (-71), 3) := by decide +kernel
theorem dX12_gathers_86 : decode cX12_gathers 86 = .ok (.aload_n 0, 1) := by decide +kernel
theorem dX12_gathers_87 : decode cX12_gathers 87 = .ok (.getfield 395, 3) := by decide +kernel
theorem dX12_gathers_90 : decode cX12_gathers 90 = .ok (.iconst 2, 1) := by decide +kernel
theorem dX12_gathers_91 : decode cX12_gathers 91 = .ok (.idiv, 1) := by decide +kernel
theorem dX12_gathers_92 : decode cX12_gathers 92 = .ok (.istore_n 2, 1) := by decide +kernel
theorem dX12_gathers_93 : decode cX12_gathers 93 = .ok (.iload_n 2, 1) := by decide +kernel
theorem dX12_gathers_94 : decode cX12_gathers 94 = .ok (.ifCond .lt 18, 3) := by decide +kernel
theorem dX12_gathers_97 : decode cX12_gathers 97 = .ok (.aload_n 0, 1) := by decide +kernel
theorem dX12_gathers_98 : decode cX12_gathers 98 = .ok (.iload_n 2, 1) := by decide +kernel
theorem dX12_gathers_99 : decode cX12_gathers 99 = .ok (.aload_n 0, 1) := by decide +kernel
theorem dX12_gathers_100 : decode cX12_gathers 100 = .ok (.getfield 395, 3) := by decide +kernel
theorem dX12_gathers_103 : decode cX12_gathers 103 = .ok (.invokevirtual 405, 3) := by decide +kernel
theorem dX12_gathers_106 : decode cX12_gathers 106 = .ok (.iinc 2 (-1), 3) := by decide +kernel
theorem dX12_gathers_109 : decode cX12_gathers 109 = .ok (.goto (-16), 3) := by decide +kernel
theorem dX12_gathers_112 : decode cX12_gathers 112 = .ok (.aload_n 0, 1) := by decide +kernel
theorem dX12_gathers_113 : decode cX12_gathers 113 = .ok (.getfield 395, 3) := by decide +kernel
theorem dX12_gathers_116 : decode cX12_gathers 116 = .ok (.iconst 1, 1) := by decide +kernel
theorem dX12_gathers_117 : decode cX12_gathers 117 = .ok (.isub, 1) := by decide +kernel
theorem dX12_gathers_118 : decode cX12_gathers 118 = .ok (.istore_n 2, 1) := by decide +kernel
theorem dX12_gathers_119 : decode cX12_gathers 119 = .ok (.iload_n 2, 1) := by decide +kernel
theorem dX12_gathers_120 : decode cX12_gathers 120 = .ok (.ifCond .le 21, 3) := by decide +kernel
theorem dX12_gathers_123 : decode cX12_gathers 123 = .ok (.aload_n 0, 1) := by decide +kernel
theorem dX12_gathers_124 : decode cX12_gathers 124 = .ok (.iconst 0, 1) := by decide +kernel
theorem dX12_gathers_125 : decode cX12_gathers 125 = .ok (.iload_n 2, 1) := by decide +kernel
theorem dX12_gathers_126 : decode cX12_gathers 126 = .ok (.invokevirtual 389, 3) := by decide +kernel
theorem dX12_gathers_129 : decode cX12_gathers 129 = .ok (.aload_n 0, 1) := by decide +kernel
theorem dX12_gathers_130 : decode cX12_gathers 130 = .ok (.iconst 0, 1) := by decide +kernel
theorem dX12_gathers_131 : decode cX12_gathers 131 = .ok (.iload_n 2, 1) := by decide +kernel
theorem dX12_gathers_132 : decode cX12_gathers 132 = .ok (.invokevirtual 405, 3) := by decide +kernel
theorem dX12_gathers_135 : decode cX12_gathers 135 = .ok (.iinc 2 (-1), 3) := by decide +kernel
theorem dX12_gathers_138 : decode cX12_gathers 138 = .ok (.goto (-19), 3) := by decide +kernel
theorem dX12_gathers_141 : decode cX12_gathers 141 = .ok (.return_, 1) := by decide +kernel
theorem dX12_isNoModel_0 : decode cX12_isNoModel 0 = .ok (.iload_n 1, 1) := by decide +kernel
theorem dX12_isNoModel_1 : decode cX12_isNoModel 1 = .ok (.iconst 0, 1) := by decide +kernel
theorem dX12_isNoModel_2 : decode cX12_isNoModel 2 = .ok (.iconst 2, 1) := by decide +kernel
theorem dX12_isNoModel_3 : decode cX12_isNoModel 3 = .ok (.invokestatic 124, 3) := by decide +kernel
theorem dX12_isNoModel_6 : decode cX12_isNoModel 6 = .ok (.ifCond .ne 7, 3) := by decide +kernel
theorem dX12_isNoModel_9 : decode cX12_isNoModel 9 = .ok (.iconst 1, 1) := by decide +kernel
theorem dX12_isNoModel_10 : decode cX12_isNoModel 10 = .ok (.goto 4, 3) := by decide +kernel
theorem dX12_isNoModel_13 : decode cX12_isNoModel 13 = .ok (.iconst 0, 1) := by decide +kernel
theorem dX12_isNoModel_14 : decode cX12_isNoModel 14 = .ok (.ireturn, 1) := by decide +kernel
theorem dX12_outcomesOf_0 : decode cX12_outcomesOf 0 = .ok (.aload_n 0, 1) := by decide +kernel
theorem dX12_outcomesOf_1 : decode cX12_outcomesOf 1 = .ok (.iconst 0, 1) := by decide +kernel
theorem dX12_outcomesOf_2 : decode cX12_outcomesOf 2 = .ok (.iconst (-1), 1) := by decide +kernel
theorem dX12_outcomesOf_3 : decode cX12_outcomesOf 3 = .ok (.invokevirtual 408, 3) := by decide +kernel
theorem dX12_outcomesOf_6 : decode cX12_outcomesOf 6 = .ok (.aload_n 0, 1) := by decide +kernel
theorem dX12_outcomesOf_7 : decode cX12_outcomesOf 7 = .ok (.iload_n 1, 1) := by decide +kernel
theorem dX12_outcomesOf_8 : decode cX12_outcomesOf 8 = .ok (.invokevirtual 411, 3) := by decide +kernel
theorem dX12_outcomesOf_11 : decode cX12_outcomesOf 11 = .ok (.return_, 1) := by decide +kernel
theorem dX12_find_0 : decode cX12_find 0 = .ok (.iconst 0, 1) := by decide +kernel
theorem dX12_find_1 : decode cX12_find 1 = .ok (.istore_n 2, 1) := by decide +kernel
theorem dX12_find_2 : decode cX12_find 2 = .ok (.iload_n 2, 1) := by decide +kernel
theorem dX12_find_3 : decode cX12_find 3 = .ok (.aload_n 0, 1) := by decide +kernel
theorem dX12_find_4 : decode cX12_find 4 = .ok (.getfield 395, 3) := by decide +kernel
theorem dX12_find_7 : decode cX12_find 7 = .ok (.if_icmp .ge 21, 3) := by decide +kernel
theorem dX12_find_10 : decode cX12_find 10 = .ok (.aload_n 0, 1) := by decide +kernel
theorem dX12_find_11 : decode cX12_find 11 = .ok (.getfield 82, 3) := by decide +kernel
theorem dX12_find_14 : decode cX12_find 14 = .ok (.iload_n 2, 1) := by decide +kernel
theorem dX12_find_15 : decode cX12_find 15 = .ok (.iaload, 1) := by decide +kernel
theorem dX12_find_16 : decode cX12_find 16 = .ok (.iload_n 1, 1) := by decide +kernel
theorem dX12_find_17 : decode cX12_find 17 = .ok (.if_icmp .ne 5, 3) := by decide +kernel
theorem dX12_find_20 : decode cX12_find 20 = .ok (.iload_n 2, 1) := by decide +kernel
theorem dX12_find_21 : decode cX12_find 21 = .ok (.ireturn, 1) := by decide +kernel
theorem dX12_find_22 : decode cX12_find 22 = .ok (.iinc 2 1, 3) := by decide +kernel
theorem dX12_find_25 : decode cX12_find 25 = .ok (.goto (-23), 3) := by decide +kernel
theorem dX12_find_28 : decode cX12_find 28 = .ok (.iconst (-1), 1) := by decide +kernel
theorem dX12_find_29 : decode cX12_find 29 = .ok (.ireturn, 1) := by decide +kernel
theorem dX12_outcomeCount_0 : decode cX12_outcomeCount 0 = .ok (.aload_n 0, 1) := by decide +kernel
theorem dX12_outcomeCount_1 : decode cX12_outcomeCount 1 = .ok (.aload_n 0, 1) := by decide +kernel
theorem dX12_outcomeCount_2 : decode cX12_outcomeCount 2 = .ok (.iload_n 1, 1) := by decide +kernel
theorem dX12_outcomeCount_3 : decode cX12_outcomeCount 3 = .ok (.invokevirtual 414, 3) := by decide +kernel
theorem dX12_outcomeCount_6 : decode cX12_outcomeCount 6 = .ok (.iconst 0, 1) := by decide +kernel
theorem dX12_outcomeCount_7 : decode cX12_outcomeCount 7 = .ok (.iconst 0, 1) := by decide +kernel
theorem dX12_outcomeCount_8 : decode cX12_outcomeCount 8 = .ok (.invokevirtual 300, 3) := by decide +kernel
theorem dX12_outcomeCount_11 : decode cX12_outcomeCount 11 = .ok (.ifCond .eq 5, 3) := by decide +kernel
theorem dX12_outcomeCount_14 : decode cX12_outcomeCount 14 = .ok (.iconst 0, 1) := by decide +kernel
theorem dX12_outcomeCount_15 : decode cX12_outcomeCount 15 = .ok (.ireturn, 1) := by decide +kernel
theorem dX12_outcomeCount_16 : decode cX12_outcomeCount 16 = .ok (.aload_n 0, 1) := by decide +kernel
theorem dX12_outcomeCount_17 : decode cX12_outcomeCount 17 = .ok (.iload_n 1, 1) := by decide +kernel
theorem dX12_outcomeCount_18 : decode cX12_outcomeCount 18 = .ok (.invokevirtual 417, 3) := by decide +kernel
theorem dX12_outcomeCount_21 : decode cX12_outcomeCount 21 = .ok (.aload_n 0, 1) := by decide +kernel
theorem dX12_outcomeCount_22 : decode cX12_outcomeCount 22 = .ok (.getfield 395, 3) := by decide +kernel
theorem dX12_outcomeCount_25 : decode cX12_outcomeCount 25 = .ok (.ireturn, 1) := by decide +kernel
theorem dX12_outcome_0 : decode cX12_outcome 0 = .ok (.aload_n 0, 1) := by decide +kernel
theorem dX12_outcome_1 : decode cX12_outcome 1 = .ok (.aload_n 0, 1) := by decide +kernel
theorem dX12_outcome_2 : decode cX12_outcome 2 = .ok (.iload_n 1, 1) := by decide +kernel
theorem dX12_outcome_3 : decode cX12_outcome 3 = .ok (.invokevirtual 414, 3) := by decide +kernel
theorem dX12_outcome_6 : decode cX12_outcome 6 = .ok (.iconst 0, 1) := by decide +kernel
theorem dX12_outcome_7 : decode cX12_outcome 7 = .ok (.iconst 0, 1) := by decide +kernel
theorem dX12_outcome_8 : decode cX12_outcome 8 = .ok (.invokevirtual 300, 3) := by decide +kernel
theorem dX12_outcome_11 : decode cX12_outcome 11 = .ok (.ifCond .eq 5, 3) := by decide +kernel
theorem dX12_outcome_14 : decode cX12_outcome 14 = .ok (.iconst 0, 1) := by decide +kernel
theorem dX12_outcome_15 : decode cX12_outcome 15 = .ok (.ireturn, 1) := by decide +kernel
theorem dX12_outcome_16 : decode cX12_outcome 16 = .ok (.aload_n 0, 1) := by decide +kernel
theorem dX12_outcome_17 : decode cX12_outcome 17 = .ok (.iload_n 1, 1) := by decide +kernel
theorem dX12_outcome_18 : decode cX12_outcome 18 = .ok (.invokevirtual 417, 3) := by decide +kernel
theorem dX12_outcome_21 : decode cX12_outcome 21 = .ok (.iload_n 2, 1) := by decide +kernel
theorem dX12_outcome_22 : decode cX12_outcome 22 = .ok (.iconst 0, 1) := by decide +kernel
theorem dX12_outcome_23 : decode cX12_outcome 23 = .ok (.aload_n 0, 1) := by decide +kernel
theorem dX12_outcome_24 : decode cX12_outcome 24 = .ok (.getfield 395, 3) := by decide +kernel
theorem dX12_outcome_27 : decode cX12_outcome 27 = .ok (.iconst 1, 1) := by decide +kernel
theorem dX12_outcome_28 : decode cX12_outcome 28 = .ok (.isub, 1) := by decide +kernel
theorem dX12_outcome_29 : decode cX12_outcome 29 = .ok (.invokestatic 124, 3) := by decide +kernel
theorem dX12_outcome_32 : decode cX12_outcome 32 = .ok (.ifCond .eq 12, 3) := by decide +kernel
theorem dX12_outcome_35 : decode cX12_outcome 35 = .ok (.aload_n 0, 1) := by decide +kernel
theorem dX12_outcome_36 : decode cX12_outcome 36 = .ok (.getfield 82, 3) := by decide +kernel
theorem dX12_outcome_39 : decode cX12_outcome 39 = .ok (.iload_n 2, 1) := by decide +kernel
theorem dX12_outcome_40 : decode cX12_outcome 40 = .ok (.iaload, 1) := by decide +kernel
theorem dX12_outcome_41 : decode cX12_outcome 41 = .ok (.goto 4, 3) := by decide +kernel
theorem dX12_outcome_44 : decode cX12_outcome 44 = .ok (.iconst (-1), 1) := by decide +kernel
theorem dX12_outcome_45 : decode cX12_outcome 45 = .ok (.ireturn, 1) := by decide +kernel
theorem dX12_hasOutcome_0 : decode cX12_hasOutcome 0 = .ok (.aload_n 0, 1) := by decide +kernel
theorem dX12_hasOutcome_1 : decode cX12_hasOutcome 1 = .ok (.aload_n 0, 1) := by decide +kernel
theorem dX12_hasOutcome_2 : decode cX12_hasOutcome 2 = .ok (.iload_n 1, 1) := by decide +kernel
theorem dX12_hasOutcome_3 : decode cX12_hasOutcome 3 = .ok (.invokevirtual 414, 3) := by decide +kernel
theorem dX12_hasOutcome_6 : decode cX12_hasOutcome 6 = .ok (.iconst 0, 1) := by decide +kernel
theorem dX12_hasOutcome_7 : decode cX12_hasOutcome 7 = .ok (.iconst 0, 1) := by decide +kernel
theorem dX12_hasOutcome_8 : decode cX12_hasOutcome 8 = .ok (.invokevirtual 300, 3) := by decide +kernel
theorem dX12_hasOutcome_11 : decode cX12_hasOutcome 11 = .ok (.ifCond .eq 5, 3) := by decide +kernel
theorem dX12_hasOutcome_14 : decode cX12_hasOutcome 14 = .ok (.iconst 0, 1) := by decide +kernel
theorem dX12_hasOutcome_15 : decode cX12_hasOutcome 15 = .ok (.ireturn, 1) := by decide +kernel
theorem dX12_hasOutcome_16 : decode cX12_hasOutcome 16 = .ok (.aload_n 0, 1) := by decide +kernel
theorem dX12_hasOutcome_17 : decode cX12_hasOutcome 17 = .ok (.iload_n 1, 1) := by decide +kernel
theorem dX12_hasOutcome_18 : decode cX12_hasOutcome 18 = .ok (.invokevirtual 417, 3) := by decide +kernel
theorem dX12_hasOutcome_21 : decode cX12_hasOutcome 21 = .ok (.aload_n 0, 1) := by decide +kernel
theorem dX12_hasOutcome_22 : decode cX12_hasOutcome 22 = .ok (.iload_n 2, 1) := by decide +kernel
theorem dX12_hasOutcome_23 : decode cX12_hasOutcome 23 = .ok (.invokevirtual 420, 3) := by decide +kernel
theorem dX12_hasOutcome_26 : decode cX12_hasOutcome 26 = .ok (.iconst (-1), 1) := by decide +kernel
theorem dX12_hasOutcome_27 : decode cX12_hasOutcome 27 = .ok (.if_icmp .eq 7, 3) := by decide +kernel
theorem dX12_hasOutcome_30 : decode cX12_hasOutcome 30 = .ok (.iconst 1, 1) := by decide +kernel
theorem dX12_hasOutcome_31 : decode cX12_hasOutcome 31 = .ok (.goto 4, 3) := by decide +kernel
theorem dX12_hasOutcome_34 : decode cX12_hasOutcome 34 = .ok (.iconst 0, 1) := by decide +kernel
theorem dX12_hasOutcome_35 : decode cX12_hasOutcome 35 = .ok (.ireturn, 1) := by decide +kernel
theorem dX12_keepsOthers_0 : decode cX12_keepsOthers 0 = .ok (.iconst 0, 1) := by decide +kernel
theorem dX12_keepsOthers_1 : decode cX12_keepsOthers 1 = .ok (.istore_n 1, 1) := by decide +kernel
theorem dX12_keepsOthers_2 : decode cX12_keepsOthers 2 = .ok (.iload_n 1, 1) := by decide +kernel
theorem dX12_keepsOthers_3 : decode cX12_keepsOthers 3 = .ok (.aload_n 0, 1) := by decide +kernel
theorem dX12_keepsOthers_4 : decode cX12_keepsOthers 4 = .ok (.getfield 395, 3) := by decide +kernel
theorem dX12_keepsOthers_7 : decode cX12_keepsOthers 7 = .ok (.if_icmp .ge 21, 3) := by decide +kernel
theorem dX12_keepsOthers_10 : decode cX12_keepsOthers 10 = .ok (.aload_n 0, 1) := by decide +kernel
theorem dX12_keepsOthers_11 : decode cX12_keepsOthers 11 = .ok (.getfield 85, 3) := by decide +kernel
theorem dX12_keepsOthers_14 : decode cX12_keepsOthers 14 = .ok (.iload_n 1, 1) := by decide +kernel
theorem dX12_keepsOthers_15 : decode cX12_keepsOthers 15 = .ok (.aload_n 0, 1) := by decide +kernel
theorem dX12_keepsOthers_16 : decode cX12_keepsOthers 16 = .ok (.getfield 82, 3) := by decide +kernel
theorem dX12_keepsOthers_19 : decode cX12_keepsOthers 19 = .ok (.iload_n 1, 1) := by decide +kernel
theorem dX12_keepsOthers_20 : decode cX12_keepsOthers 20 = .ok (.iaload, 1) := by decide +kernel
theorem dX12_keepsOthers_21 : decode cX12_keepsOthers 21 = .ok (.iastore, 1) := by decide +kernel
theorem dX12_keepsOthers_22 : decode cX12_keepsOthers 22 = .ok (.iinc 1 1, 3) := by decide +kernel
theorem dX12_keepsOthers_25 : decode cX12_keepsOthers 25 = .ok (.goto (-23), 3) := by decide +kernel
theorem dX12_keepsOthers_28 : decode cX12_keepsOthers 28 = .ok (.aload_n 0, 1) := by decide +kernel
theorem dX12_keepsOthers_29 : decode cX12_keepsOthers 29 = .ok (.aload_n 0, 1) := by decide +kernel
theorem dX12_keepsOthers_30 : decode cX12_keepsOthers 30 = .ok (.getfield 395, 3) := by decide +kernel
theorem dX12_keepsOthers_33 : decode cX12_keepsOthers 33 = .ok (.putfield 423, 3) := by decide +kernel
theorem dX12_keepsOthers_36 : decode cX12_keepsOthers 36 = .ok (.return_, 1) := by decide +kernel
theorem dX12_extraOutcomes_0 : decode cX12_extraOutcomes 0 = .ok (.aload_n 0, 1) := by decide +kernel
theorem dX12_extraOutcomes_1 : decode cX12_extraOutcomes 1 = .ok (.aload_n 0, 1) := by decide +kernel
theorem dX12_extraOutcomes_2 : decode cX12_extraOutcomes 2 = .ok (.iload_n 1, 1) := by decide +kernel
theorem dX12_extraOutcomes_3 : decode cX12_extraOutcomes 3 = .ok (.invokevirtual 414, 3) := by decide +kernel
theorem dX12_extraOutcomes_6 : decode cX12_extraOutcomes 6 = .ok (.ifCond .ne 11, 3) := by decide +kernel
theorem dX12_extraOutcomes_9 : decode cX12_extraOutcomes 9 = .ok (.aload_n 0, 1) := by decide +kernel
theorem dX12_extraOutcomes_10 : decode cX12_extraOutcomes 10 = .ok (.iload_n 2, 1) := by decide +kernel
theorem dX12_extraOutcomes_11 : decode cX12_extraOutcomes 11 = .ok (.invokevirtual 414, 3) := by decide +kernel
theorem dX12_extraOutcomes_14 : decode cX12_extraOutcomes 14 = .ok (.ifCond .eq 7, 3) := by decide +kernel
theorem dX12_extraOutcomes_17 : decode cX12_extraOutcomes 17 = .ok (.iconst 1, 1) := by decide +kernel
theorem dX12_extraOutcomes_18 : decode cX12_extraOutcomes 18 = .ok (.goto 4, 3) := by decide +kernel
theorem dX12_extraOutcomes_21 : decode cX12_extraOutcomes 21 = .ok (.iconst 0, 1) := by decide +kernel
theorem dX12_extraOutcomes_22 : decode cX12_extraOutcomes 22 = .ok (.iconst 0, 1) := by decide +kernel
theorem dX12_extraOutcomes_23 : decode cX12_extraOutcomes 23 = .ok (.iconst 0, 1) := by decide +kernel
theorem dX12_extraOutcomes_24 : decode cX12_extraOutcomes 24 = .ok (.invokevirtual 300, 3) := by decide +kernel
theorem dX12_extraOutcomes_27 : decode cX12_extraOutcomes 27 = .ok (.ifCond .eq 5, 3) := by decide +kernel
theorem dX12_extraOutcomes_30 : decode cX12_extraOutcomes 30 = .ok (.iconst 0, 1) := by decide +kernel
theorem dX12_extraOutcomes_31 : decode cX12_extraOutcomes 31 = .ok (.ireturn, 1) := by decide +kernel
theorem dX12_extraOutcomes_32 : decode cX12_extraOutcomes 32 = .ok (.aload_n 0, 1) := by decide +kernel
theorem dX12_extraOutcomes_33 : decode cX12_extraOutcomes 33 = .ok (.iload_n 2, 1) := by decide +kernel
theorem dX12_extraOutcomes_34 : decode cX12_extraOutcomes 34 = .ok (.invokevirtual 417, 3) := by decide +kernel
theorem dX12_extraOutcomes_37 : decode cX12_extraOutcomes 37 = .ok (.aload_n 0, 1) := by decide +kernel
theorem dX12_extraOutcomes_38 : decode cX12_extraOutcomes 38 = .ok (.invokevirtual 426, 3) := by decide +kernel
theorem dX12_extraOutcomes_41 : decode cX12_extraOutcomes 41 = .ok (.aload_n 0, 1) := by decide +kernel
theorem dX12_extraOutcomes_42 : decode cX12_extraOutcomes 42 = .ok (.iload_n 1, 1) := by decide +kernel
theorem dX12_extraOutcomes_43 : decode cX12_extraOutcomes 43 = .ok (.invokevirtual 417, 3) := by decide +kernel
theorem dX12_extraOutcomes_46 : decode cX12_extraOutcomes 46 = .ok (.iconst 0, 1) := by decide +kernel
theorem dX12_extraOutcomes_47 : decode cX12_extraOutcomes 47 = .ok (.istore_n 3, 1) := by decide +kernel
theorem dX12_extraOutcomes_48 : decode cX12_extraOutcomes 48 = .ok (.iconst 0, 1) := by decide +kernel
theorem dX12_extraOutcomes_49 : decode cX12_extraOutcomes 49 = .ok (.istore 4, 2) := by decide +kernel
theorem dX12_extraOutcomes_51 : decode cX12_extraOutcomes 51 = .ok (.iconst 0, 1) := by decide +kernel
theorem dX12_extraOutcomes_52 : decode cX12_extraOutcomes 52 = .ok (.istore 5, 2) := by decide +kernel
theorem dX12_extraOutcomes_54 : decode cX12_extraOutcomes 54 = .ok (.iload 5, 2) := by decide +kernel
theorem dX12_extraOutcomes_56 : decode cX12_extraOutcomes 56 = .ok (.aload_n 0, 1) := by decide +kernel
theorem dX12_extraOutcomes_57 : decode cX12_extraOutcomes 57 = .ok (.getfield 395, 3) := by decide +kernel
theorem dX12_extraOutcomes_60 : decode cX12_extraOutcomes 60 = .ok (.if_icmp .ge 75, 3) := by decide +kernel
theorem dX12_extraOutcomes_63 : decode cX12_extraOutcomes 63 = .ok (.iload 4, 2) := by decide +kernel
theorem dX12_extraOutcomes_65 : decode cX12_extraOutcomes 65 = .ok (.aload_n 0, 1) := by decide +kernel
theorem dX12_extraOutcomes_66 : decode cX12_extraOutcomes 66 = .ok (.getfield 423, 3) := by decide +kernel
theorem dX12_extraOutcomes_69 : decode cX12_extraOutcomes 69 = .ok (.if_icmp .ge 26, 3) := by decide +kernel
theorem dX12_extraOutcomes_72 : decode cX12_extraOutcomes 72 = .ok (.aload_n 0, 1) := by decide +kernel
theorem dX12_extraOutcomes_73 : decode cX12_extraOutcomes 73 = .ok (.getfield 85, 3) := by decide +kernel
theorem dX12_extraOutcomes_76 : decode cX12_extraOutcomes 76 = .ok (.iload 4, 2) := by decide +kernel
theorem dX12_extraOutcomes_78 : decode cX12_extraOutcomes 78 = .ok (.iaload, 1) := by decide +kernel
theorem dX12_extraOutcomes_79 : decode cX12_extraOutcomes 79 = .ok (.aload_n 0, 1) := by decide +kernel
theorem dX12_extraOutcomes_80 : decode cX12_extraOutcomes 80 = .ok (.getfield 82, 3) := by decide +kernel
theorem dX12_extraOutcomes_83 : decode cX12_extraOutcomes 83 = .ok (.iload 5, 2) := by decide +kernel
theorem dX12_extraOutcomes_85 : decode cX12_extraOutcomes 85 = .ok (.iaload, 1) := by decide +kernel
theorem dX12_extraOutcomes_86 : decode cX12_extraOutcomes 86 = .ok (.if_icmp .ge 9, 3) := by decide +kernel
theorem dX12_extraOutcomes_89 : decode cX12_extraOutcomes 89 = .ok (.iinc 4 1, 3) := by decide +kernel
theorem dX12_extraOutcomes_92 : decode cX12_extraOutcomes 92 = .ok (.goto (-29), 3) := by decide +kernel
theorem dX12_extraOutcomes_95 : decode cX12_extraOutcomes 95 = .ok (.iload_n 3, 1) := by decide +kernel
theorem dX12_extraOutcomes_96 : decode cX12_extraOutcomes 96 = .ok (.iload 4, 2) := by decide +kernel
theorem dX12_extraOutcomes_98 : decode cX12_extraOutcomes 98 = .ok (.aload_n 0, 1) := by decide +kernel
theorem dX12_extraOutcomes_99 : decode cX12_extraOutcomes 99 = .ok (.getfield 423, 3) := by decide +kernel
theorem dX12_extraOutcomes_102 : decode cX12_extraOutcomes 102 = .ok (.if_icmp .ge 24, 3) := by decide +kernel
theorem dX12_extraOutcomes_105 : decode cX12_extraOutcomes 105 = .ok (.aload_n 0, 1) := by decide +kernel
theorem dX12_extraOutcomes_106 : decode cX12_extraOutcomes 106 = .ok (.getfield 85, 3) := by decide +kernel
theorem dX12_extraOutcomes_109 : decode cX12_extraOutcomes 109 = .ok (.iload 4, 2) := by decide +kernel
theorem dX12_extraOutcomes_111 : decode cX12_extraOutcomes 111 = .ok (.iaload, 1) := by decide +kernel
theorem dX12_extraOutcomes_112 : decode cX12_extraOutcomes 112 = .ok (.aload_n 0, 1) := by decide +kernel
theorem dX12_extraOutcomes_113 : decode cX12_extraOutcomes 113 = .ok (.getfield 82, 3) := by decide +kernel
theorem dX12_extraOutcomes_116 : decode cX12_extraOutcomes 116 = .ok (.iload 5, 2) := by decide +kernel
theorem dX12_extraOutcomes_118 : decode cX12_extraOutcomes 118 = .ok (.iaload, 1) := by decide +kernel
theorem dX12_extraOutcomes_119 : decode cX12_extraOutcomes 119 = .ok (.if_icmp .ne 7, 3) := by decide +kernel
theorem dX12_extraOutcomes_122 : decode cX12_extraOutcomes 122 = .ok (.iconst 0, 1) := by decide +kernel
theorem dX12_extraOutcomes_123 : decode cX12_extraOutcomes 123 = .ok (.goto 4, 3) := by decide +kernel
theorem dX12_extraOutcomes_126 : decode cX12_extraOutcomes 126 = .ok (.iconst 1, 1) := by decide +kernel
theorem dX12_extraOutcomes_127 : decode cX12_extraOutcomes 127 = .ok (.iadd, 1) := by decide +kernel
theorem dX12_extraOutcomes_128 : decode cX12_extraOutcomes 128 = .ok (.istore_n 3, 1) := by decide +kernel
theorem dX12_extraOutcomes_129 : decode cX12_extraOutcomes 129 = .ok (.iinc 5 1, 3) := by decide +kernel
theorem dX12_extraOutcomes_132 : decode cX12_extraOutcomes 132 = .ok (.goto (-78), 3) := by decide +kernel
theorem dX12_extraOutcomes_135 : decode cX12_extraOutcomes 135 = .ok (.iload_n 3, 1) := by decide +kernel
theorem dX12_extraOutcomes_136 : decode cX12_extraOutcomes 136 = .ok (.ireturn, 1) := by decide +kernel
theorem dX12_digits_0 : decode cX12_digits 0 = .ok (.iconst 2, 1) := by decide +kernel
theorem dX12_digits_1 : decode cX12_digits 1 = .ok (.aload_n 0, 1) := by decide +kernel
theorem dX12_digits_2 : decode cX12_digits 2 = .ok (.getfield 17, 3) := by decide +kernel
theorem dX12_digits_5 : decode cX12_digits 5 = .ok (.iconst 1, 1) := by decide +kernel
theorem dX12_digits_6 : decode cX12_digits 6 = .ok (.iaload, 1) := by decide +kernel
theorem dX12_digits_7 : decode cX12_digits 7 = .ok (.imul, 1) := by decide +kernel
theorem dX12_digits_8 : decode cX12_digits 8 = .ok (.aload_n 0, 1) := by decide +kernel
theorem dX12_digits_9 : decode cX12_digits 9 = .ok (.getfield 17, 3) := by decide +kernel
theorem dX12_digits_12 : decode cX12_digits 12 = .ok (.iconst 2, 1) := by decide +kernel
theorem dX12_digits_13 : decode cX12_digits 13 = .ok (.iaload, 1) := by decide +kernel
theorem dX12_digits_14 : decode cX12_digits 14 = .ok (.iadd, 1) := by decide +kernel
theorem dX12_digits_15 : decode cX12_digits 15 = .ok (.ireturn, 1) := by decide +kernel
theorem dX12_digitOf_0 : decode cX12_digitOf 0 = .ok (.iload_n 1, 1) := by decide +kernel
theorem dX12_digitOf_1 : decode cX12_digitOf 1 = .ok (.iconst 2, 1) := by decide +kernel
theorem dX12_digitOf_2 : decode cX12_digitOf 2 = .ok (.aload_n 0, 1) := by decide +kernel
theorem dX12_digitOf_3 : decode cX12_digitOf 3 = .ok (.invokevirtual 429, 3) := by decide +kernel
theorem dX12_digitOf_6 : decode cX12_digitOf 6 = .ok (.iconst 1, 1) := by decide +kernel
theorem dX12_digitOf_7 : decode cX12_digitOf 7 = .ok (.isub, 1) := by decide +kernel
theorem dX12_digitOf_8 : decode cX12_digitOf 8 = .ok (.iload_n 2, 1) := by decide +kernel
theorem dX12_digitOf_9 : decode cX12_digitOf 9 = .ok (.isub, 1) := by decide +kernel
theorem dX12_digitOf_10 : decode cX12_digitOf 10 = .ok (.imul, 1) := by decide +kernel
theorem dX12_digitOf_11 : decode cX12_digitOf 11 = .ok (.ishr, 1) := by decide +kernel
theorem dX12_digitOf_12 : decode cX12_digitOf 12 = .ok (.iconst 3, 1) := by decide +kernel
theorem dX12_digitOf_13 : decode cX12_digitOf 13 = .ok (.iand, 1) := by decide +kernel
theorem dX12_digitOf_14 : decode cX12_digitOf 14 = .ok (.ireturn, 1) := by decide +kernel
theorem dX12_holds_0 : decode cX12_holds 0 = .ok (.iconst 0, 1) := by decide +kernel
theorem dX12_holds_1 : decode cX12_holds 1 = .ok (.istore_n 2, 1) := by decide +kernel
theorem dX12_holds_2 : decode cX12_holds 2 = .ok (.aload_n 0, 1) := by decide +kernel
theorem dX12_holds_3 : decode cX12_holds 3 = .ok (.getfield 91, 3) := by decide +kernel
theorem dX12_holds_6 : decode cX12_holds 6 = .ok (.iconst 0, 1) := by decide +kernel
theorem dX12_holds_7 : decode cX12_holds 7 = .ok (.iconst 1, 1) := by decide +kernel
theorem dX12_holds_8 : decode cX12_holds 8 = .ok (.bastore, 1) := by decide +kernel
theorem dX12_holds_9 : decode cX12_holds 9 = .ok (.iconst 0, 1) := by decide +kernel
theorem dX12_holds_10 : decode cX12_holds 10 = .ok (.istore_n 3, 1) := by decide +kernel
theorem dX12_holds_11 : decode cX12_holds 11 = .ok (.iload_n 3, 1) := by decide +kernel
theorem dX12_holds_12 : decode cX12_holds 12 = .ok (.aload_n 0, 1) := by decide +kernel
theorem dX12_holds_13 : decode cX12_holds 13 = .ok (.getfield 294, 3) := by decide +kernel
theorem dX12_holds_16 : decode cX12_holds 16 = .ok (.if_icmp .ge 191, 3) := by decide +kernel
theorem dX12_holds_19 : decode cX12_holds 19 = .ok (.aload_n 0, 1) := by decide +kernel
theorem dX12_holds_20 : decode cX12_holds 20 = .ok (.getfield 38, 3) := by decide +kernel
theorem dX12_holds_23 : decode cX12_holds 23 = .ok (.iload_n 3, 1) := by decide +kernel
theorem dX12_holds_24 : decode cX12_holds 24 = .ok (.iaload, 1) := by decide +kernel
theorem dX12_holds_25 : decode cX12_holds 25 = .ok (.istore 4, 2) := by decide +kernel
theorem dX12_holds_27 : decode cX12_holds 27 = .ok (.iload 4, 2) := by decide +kernel
theorem dX12_holds_29 : decode cX12_holds 29 = .ok (.bipush (-3), 2) := by decide +kernel
theorem dX12_holds_31 : decode cX12_holds 31 = .ok (.if_icmp .ne 30, 3) := by decide +kernel
theorem dX12_holds_34 : decode cX12_holds 34 = .ok (.aload_n 0, 1) := by decide +kernel
theorem dX12_holds_35 : decode cX12_holds 35 = .ok (.getfield 91, 3) := by decide +kernel
theorem dX12_holds_38 : decode cX12_holds 38 = .ok (.iload_n 2, 1) := by decide +kernel
theorem dX12_holds_39 : decode cX12_holds 39 = .ok (.iconst 1, 1) := by decide +kernel
theorem dX12_holds_40 : decode cX12_holds 40 = .ok (.isub, 1) := by decide +kernel
theorem dX12_holds_41 : decode cX12_holds 41 = .ok (.aload_n 0, 1) := by decide +kernel
theorem dX12_holds_42 : decode cX12_holds 42 = .ok (.getfield 91, 3) := by decide +kernel
theorem dX12_holds_45 : decode cX12_holds 45 = .ok (.iload_n 2, 1) := by decide +kernel
theorem dX12_holds_46 : decode cX12_holds 46 = .ok (.iconst 1, 1) := by decide +kernel
theorem dX12_holds_47 : decode cX12_holds 47 = .ok (.isub, 1) := by decide +kernel
theorem dX12_holds_48 : decode cX12_holds 48 = .ok (.baload, 1) := by decide +kernel
theorem dX12_holds_49 : decode cX12_holds 49 = .ok (.ifCond .ne 7, 3) := by decide +kernel
theorem dX12_holds_52 : decode cX12_holds 52 = .ok (.iconst 1, 1) := by decide +kernel
theorem dX12_holds_53 : decode cX12_holds 53 = .ok (.goto 4, 3) := by decide +kernel
theorem dX12_holds_56 : decode cX12_holds 56 = .ok (.iconst 0, 1) := by decide +kernel
theorem dX12_holds_57 : decode cX12_holds 57 = .ok (.bastore, 1) := by decide +kernel
theorem dX12_holds_58 : decode cX12_holds 58 = .ok (.goto 143, 3) := by decide +kernel
theorem dX12_holds_61 : decode cX12_holds 61 = .ok (.iload 4, 2) := by decide +kernel
theorem dX12_holds_63 : decode cX12_holds 63 = .ok (.ifCond .ge 76, 3) := by decide +kernel
theorem dX12_holds_66 : decode cX12_holds 66 = .ok (.iinc 2 (-1), 3) := by decide +kernel
theorem dX12_holds_69 : decode cX12_holds 69 = .ok (.aload_n 0, 1) := by decide +kernel
theorem dX12_holds_70 : decode cX12_holds 70 = .ok (.getfield 91, 3) := by decide +kernel
theorem dX12_holds_73 : decode cX12_holds 73 = .ok (.iload_n 2, 1) := by decide +kernel
theorem dX12_holds_74 : decode cX12_holds 74 = .ok (.iconst 1, 1) := by decide +kernel
theorem dX12_holds_75 : decode cX12_holds 75 = .ok (.isub, 1) := by decide +kernel
theorem dX12_holds_76 : decode cX12_holds 76 = .ok (.iload 4, 2) := by decide +kernel
theorem dX12_holds_78 : decode cX12_holds 78 = .ok (.iconst (-1), 1) := by decide +kernel
theorem dX12_holds_79 : decode cX12_holds 79 = .ok (.if_icmp .ne 31, 3) := by decide +kernel
theorem dX12_holds_82 : decode cX12_holds 82 = .ok (.aload_n 0, 1) := by decide +kernel
theorem dX12_holds_83 : decode cX12_holds 83 = .ok (.getfield 91, 3) := by decide +kernel
theorem dX12_holds_86 : decode cX12_holds 86 = .ok (.iload_n 2, 1) := by decide +kernel
theorem dX12_holds_87 : decode cX12_holds 87 = .ok (.iconst 1, 1) := by decide +kernel
theorem dX12_holds_88 : decode cX12_holds 88 = .ok (.isub, 1) := by decide +kernel
theorem dX12_holds_89 : decode cX12_holds 89 = .ok (.baload, 1) := by decide +kernel
theorem dX12_holds_90 : decode cX12_holds 90 = .ok (.ifCond .eq 16, 3) := by decide +kernel
theorem dX12_holds_93 : decode cX12_holds 93 = .ok (.aload_n 0, 1) := by decide +kernel
theorem dX12_holds_94 : decode cX12_holds 94 = .ok (.getfield 91, 3) := by decide +kernel
theorem dX12_holds_97 : decode cX12_holds 97 = .ok (.iload_n 2, 1) := by decide +kernel
theorem dX12_holds_98 : decode cX12_holds 98 = .ok (.baload, 1) := by decide +kernel
theorem dX12_holds_99 : decode cX12_holds 99 = .ok (.ifCond .eq 7, 3) := by decide +kernel
theorem dX12_holds_102 : decode cX12_holds 102 = .ok (.iconst 1, 1) := by decide +kernel
theorem dX12_holds_103 : decode cX12_holds 103 = .ok (.goto 32, 3) := by decide +kernel
theorem dX12_holds_106 : decode cX12_holds 106 = .ok (.iconst 0, 1) := by decide +kernel
theorem dX12_holds_107 : decode cX12_holds 107 = .ok (.goto 28, 3) := by decide +kernel
theorem dX12_holds_110 : decode cX12_holds 110 = .ok (.aload_n 0, 1) := by decide +kernel
theorem dX12_holds_111 : decode cX12_holds 111 = .ok (.getfield 91, 3) := by decide +kernel
theorem dX12_holds_114 : decode cX12_holds 114 = .ok (.iload_n 2, 1) := by decide +kernel
theorem dX12_holds_115 : decode cX12_holds 115 = .ok (.iconst 1, 1) := by decide +kernel
theorem dX12_holds_116 : decode cX12_holds 116 = .ok (.isub, 1) := by decide +kernel
theorem dX12_holds_117 : decode cX12_holds 117 = .ok (.baload, 1) := by decide +kernel
theorem dX12_holds_118 : decode cX12_holds 118 = .ok (.ifCond .ne 12, 3) := by decide +kernel
theorem dX12_holds_121 : decode cX12_holds 121 = .ok (.aload_n 0, 1) := by decide +kernel
theorem dX12_holds_122 : decode cX12_holds 122 = .ok (.getfield 91, 3) := by decide +kernel
theorem dX12_holds_125 : decode cX12_holds 125 = .ok (.iload_n 2, 1) := by decide +kernel
theorem dX12_holds_126 : decode cX12_holds 126 = .ok (.baload, 1) := by decide +kernel
theorem dX12_holds_127 : decode cX12_holds 127 = .ok (.ifCond .eq 7, 3) := by decide +kernel
theorem dX12_holds_130 : decode cX12_holds 130 = .ok (.iconst 1, 1) := by decide +kernel
theorem dX12_holds_131 : decode cX12_holds 131 = .ok (.goto 4, 3) := by decide +kernel
theorem dX12_holds_134 : decode cX12_holds 134 = .ok (.iconst 0, 1) := by decide +kernel
theorem dX12_holds_135 : decode cX12_holds 135 = .ok (.bastore, 1) := by decide +kernel
theorem dX12_holds_136 : decode cX12_holds 136 = .ok (.goto 65, 3) := by decide +kernel
theorem dX12_holds_139 : decode cX12_holds 139 = .ok (.aload_n 0, 1) := by decide +kernel
theorem dX12_holds_140 : decode cX12_holds 140 = .ok (.iload_n 1, 1) := by decide +kernel
theorem dX12_holds_141 : decode cX12_holds 141 = .ok (.iload 4, 2) := by decide +kernel
theorem dX12_holds_143 : decode cX12_holds 143 = .ok (.bipush 8, 2) := by decide +kernel
theorem dX12_holds_145 : decode cX12_holds 145 = .ok (.idiv, 1) := by decide +kernel
theorem dX12_holds_146 : decode cX12_holds 146 = .ok (.invokevirtual 432, 3) := by decide +kernel
theorem dX12_holds_149 : decode cX12_holds 149 = .ok (.istore 5, 2) := by decide +kernel
theorem dX12_holds_151 : decode cX12_holds 151 = .ok (.aload_n 0, 1) := by decide +kernel
theorem dX12_holds_152 : decode cX12_holds 152 = .ok (.getfield 91, 3) := by decide +kernel
theorem dX12_holds_155 : decode cX12_holds 155 = .ok (.iload_n 2, 1) := by decide +kernel
theorem dX12_holds_156 : decode cX12_holds 156 = .ok (.iload 4, 2) := by decide +kernel
theorem dX12_holds_158 : decode cX12_holds 158 = .ok (.iconst 4, 1) := by decide +kernel
theorem dX12_holds_159 : decode cX12_holds 159 = .ok (.idiv, 1) := by decide +kernel
theorem dX12_holds_160 : decode cX12_holds 160 = .ok (.iconst 2, 1) := by decide +kernel
theorem dX12_holds_161 : decode cX12_holds 161 = .ok (.irem, 1) := by decide +kernel
theorem dX12_holds_162 : decode cX12_holds 162 = .ok (.iconst 1, 1) := by decide +kernel
theorem dX12_holds_163 : decode cX12_holds 163 = .ok (.if_icmp .ne 20, 3) := by decide +kernel
theorem dX12_holds_166 : decode cX12_holds 166 = .ok (.iload 5, 2) := by decide +kernel
theorem dX12_holds_168 : decode cX12_holds 168 = .ok (.iload 4, 2) := by decide +kernel
theorem dX12_holds_170 : decode cX12_holds 170 = .ok (.iconst 4, 1) := by decide +kernel
theorem dX12_holds_171 : decode cX12_holds 171 = .ok (.irem, 1) := by decide +kernel
theorem dX12_holds_172 : decode cX12_holds 172 = .ok (.if_icmp .ge 7, 3) := by decide +kernel
theorem dX12_holds_175 : decode cX12_holds 175 = .ok (.iconst 1, 1) := by decide +kernel
theorem dX12_holds_176 : decode cX12_holds 176 = .ok (.goto 21, 3) := by decide +kernel
theorem dX12_holds_179 : decode cX12_holds 179 = .ok (.iconst 0, 1) := by decide +kernel
theorem dX12_holds_180 : decode cX12_holds 180 = .ok (.goto 17, 3) := by decide +kernel
theorem dX12_holds_183 : decode cX12_holds 183 = .ok (.iload 5, 2) := by decide +kernel
theorem dX12_holds_185 : decode cX12_holds 185 = .ok (.iload 4, 2) := by decide +kernel
theorem dX12_holds_187 : decode cX12_holds 187 = .ok (.iconst 4, 1) := by decide +kernel
theorem dX12_holds_188 : decode cX12_holds 188 = .ok (.irem, 1) := by decide +kernel
theorem dX12_holds_189 : decode cX12_holds 189 = .ok (.if_icmp .ne 7, 3) := by decide +kernel
theorem dX12_holds_192 : decode cX12_holds 192 = .ok (.iconst 1, 1) := by decide +kernel
theorem dX12_holds_193 : decode cX12_holds 193 = .ok (.goto 4, 3) := by decide +kernel
theorem dX12_holds_196 : decode cX12_holds 196 = .ok (.iconst 0, 1) := by decide +kernel
theorem dX12_holds_197 : decode cX12_holds 197 = .ok (.bastore, 1) := by decide +kernel
theorem dX12_holds_198 : decode cX12_holds 198 = .ok (.iinc 2 1, 3) := by decide +kernel
theorem dX12_holds_201 : decode cX12_holds 201 = .ok (.iinc 3 1, 3) := by decide +kernel
theorem dX12_holds_204 : decode cX12_holds 204 = .ok (.goto (-193), 3) := by decide +kernel
theorem dX12_holds_207 : decode cX12_holds 207 = .ok (.aload_n 0, 1) := by decide +kernel
theorem dX12_holds_208 : decode cX12_holds 208 = .ok (.getfield 91, 3) := by decide +kernel
theorem dX12_holds_211 : decode cX12_holds 211 = .ok (.iconst 0, 1) := by decide +kernel
theorem dX12_holds_212 : decode cX12_holds 212 = .ok (.baload, 1) := by decide +kernel
theorem dX12_holds_213 : decode cX12_holds 213 = .ok (.ireturn, 1) := by decide +kernel
theorem dX12_fulfils_0 : decode cX12_fulfils 0 = .ok (.aload_n 0, 1) := by decide +kernel
theorem dX12_fulfils_1 : decode cX12_fulfils 1 = .ok (.iconst 0, 1) := by decide +kernel
theorem dX12_fulfils_2 : decode cX12_fulfils 2 = .ok (.putfield 1, 3) := by decide +kernel
theorem dX12_fulfils_5 : decode cX12_fulfils 5 = .ok (.iload_n 1, 1) := by decide +kernel
theorem dX12_fulfils_6 : decode cX12_fulfils 6 = .ok (.ifCond .lt 29, 3) := by decide +kernel
theorem dX12_fulfils_9 : decode cX12_fulfils 9 = .ok (.iload_n 1, 1) := by decide +kernel
theorem dX12_fulfils_10 : decode cX12_fulfils 10 = .ok (.i2l, 1) := by decide +kernel
theorem dX12_fulfils_11 : decode cX12_fulfils 11 = .ok (.lconst 1, 1) := by decide +kernel
theorem dX12_fulfils_12 : decode cX12_fulfils 12 = .ok (.iconst 2, 1) := by decide +kernel
theorem dX12_fulfils_13 : decode cX12_fulfils 13 = .ok (.aload_n 0, 1) := by decide +kernel
theorem dX12_fulfils_14 : decode cX12_fulfils 14 = .ok (.invokevirtual 429, 3) := by decide +kernel
theorem dX12_fulfils_17 : decode cX12_fulfils 17 = .ok (.imul, 1) := by decide +kernel
theorem dX12_fulfils_18 : decode cX12_fulfils 18 = .ok (.lshl, 1) := by decide +kernel
theorem dX12_fulfils_19 : decode cX12_fulfils 19 = .ok (.lcmp, 1) := by decide +kernel
theorem dX12_fulfils_20 : decode cX12_fulfils 20 = .ok (.ifCond .ge 15, 3) := by decide +kernel
theorem dX12_fulfils_23 : decode cX12_fulfils 23 = .ok (.aload_n 0, 1) := by decide +kernel
theorem dX12_fulfils_24 : decode cX12_fulfils 24 = .ok (.iload_n 1, 1) := by decide +kernel
theorem dX12_fulfils_25 : decode cX12_fulfils 25 = .ok (.invokevirtual 435, 3) := by decide +kernel
theorem dX12_fulfils_28 : decode cX12_fulfils 28 = .ok (.ifCond .eq 7, 3) := by decide +kernel
theorem dX12_fulfils_31 : decode cX12_fulfils 31 = .ok (.iconst 1, 1) := by decide +kernel
theorem dX12_fulfils_32 : decode cX12_fulfils 32 = .ok (.goto 4, 3) := by decide +kernel
theorem dX12_fulfils_35 : decode cX12_fulfils 35 = .ok (.iconst 0, 1) := by decide +kernel
theorem dX12_fulfils_36 : decode cX12_fulfils 36 = .ok (.ireturn, 1) := by decide +kernel
theorem dX12_matches_0 : decode cX12_matches 0 = .ok (.iconst 0, 1) := by decide +kernel
theorem dX12_matches_1 : decode cX12_matches 1 = .ok (.istore_n 1, 1) := by decide +kernel
theorem dX12_matches_2 : decode cX12_matches 2 = .ok (.iconst 0, 1) := by decide +kernel
theorem dX12_matches_3 : decode cX12_matches 3 = .ok (.istore_n 2, 1) := by decide +kernel
theorem dX12_matches_4 : decode cX12_matches 4 = .ok (.iload_n 2, 1) := by decide +kernel
theorem dX12_matches_5 : decode cX12_matches 5 = .ok (.aload_n 0, 1) := by decide +kernel
theorem dX12_matches_6 : decode cX12_matches 6 = .ok (.getfield 395, 3) := by decide +kernel
theorem dX12_matches_9 : decode cX12_matches 9 = .ok (.if_icmp .ge 30, 3) := by decide +kernel
theorem dX12_matches_12 : decode cX12_matches 12 = .ok (.iload_n 1, 1) := by decide +kernel
theorem dX12_matches_13 : decode cX12_matches 13 = .ok (.aload_n 0, 1) := by decide +kernel
theorem dX12_matches_14 : decode cX12_matches 14 = .ok (.aload_n 0, 1) := by decide +kernel
theorem dX12_matches_15 : decode cX12_matches 15 = .ok (.getfield 82, 3) := by decide +kernel
theorem dX12_matches_18 : decode cX12_matches 18 = .ok (.iload_n 2, 1) := by decide +kernel
theorem dX12_matches_19 : decode cX12_matches 19 = .ok (.iaload, 1) := by decide +kernel
theorem dX12_matches_20 : decode cX12_matches 20 = .ok (.invokevirtual 435, 3) := by decide +kernel
theorem dX12_matches_23 : decode cX12_matches 23 = .ok (.ifCond .eq 7, 3) := by decide +kernel
theorem dX12_matches_26 : decode cX12_matches 26 = .ok (.iconst 1, 1) := by decide +kernel
theorem dX12_matches_27 : decode cX12_matches 27 = .ok (.goto 4, 3) := by decide +kernel
theorem dX12_matches_30 : decode cX12_matches 30 = .ok (.iconst 0, 1) := by decide +kernel
theorem dX12_matches_31 : decode cX12_matches 31 = .ok (.iadd, 1) := by decide +kernel
theorem dX12_matches_32 : decode cX12_matches 32 = .ok (.istore_n 1, 1) := by decide +kernel
theorem dX12_matches_33 : decode cX12_matches 33 = .ok (.iinc 2 1, 3) := by decide +kernel
theorem dX12_matches_36 : decode cX12_matches 36 = .ok (.goto (-32), 3) := by decide +kernel
theorem dX12_matches_39 : decode cX12_matches 39 = .ok (.iload_n 1, 1) := by decide +kernel
theorem dX12_matches_40 : decode cX12_matches 40 = .ok (.ireturn, 1) := by decide +kernel
theorem dX12_matchCount_0 : decode cX12_matchCount 0 = .ok (.aload_n 0, 1) := by decide +kernel
theorem dX12_matchCount_1 : decode cX12_matchCount 1 = .ok (.aload_n 0, 1) := by decide +kernel
theorem dX12_matchCount_2 : decode cX12_matchCount 2 = .ok (.iload_n 1, 1) := by decide +kernel
theorem dX12_matchCount_3 : decode cX12_matchCount 3 = .ok (.invokevirtual 414, 3) := by decide +kernel
theorem dX12_matchCount_6 : decode cX12_matchCount 6 = .ok (.iconst 0, 1) := by decide +kernel
theorem dX12_matchCount_7 : decode cX12_matchCount 7 = .ok (.iconst 0, 1) := by decide +kernel
theorem dX12_matchCount_8 : decode cX12_matchCount 8 = .ok (.invokevirtual 300, 3) := by decide +kernel
theorem dX12_matchCount_11 : decode cX12_matchCount 11 = .ok (.ifCond .eq 5, 3) := by decide +kernel
theorem dX12_matchCount_14 : decode cX12_matchCount 14 = .ok (.iconst 0, 1) := by decide +kernel
theorem dX12_matchCount_15 : decode cX12_matchCount 15 = .ok (.ireturn, 1) := by decide +kernel
theorem dX12_matchCount_16 : decode cX12_matchCount 16 = .ok (.aload_n 0, 1) := by decide +kernel
theorem dX12_matchCount_17 : decode cX12_matchCount 17 = .ok (.iload_n 1, 1) := by decide +kernel
theorem dX12_matchCount_18 : decode cX12_matchCount 18 = .ok (.invokevirtual 417, 3) := by decide +kernel
theorem dX12_matchCount_21 : decode cX12_matchCount 21 = .ok (.aload_n 0, 1) := by decide +kernel
theorem dX12_matchCount_22 : decode cX12_matchCount 22 = .ok (.invokevirtual 438, 3) := by decide +kernel
theorem dX12_matchCount_25 : decode cX12_matchCount 25 = .ok (.ireturn, 1) := by decide +kernel
theorem dX12_firstMatch_0 : decode cX12_firstMatch 0 = .ok (.aload_n 0, 1) := by decide +kernel
theorem dX12_firstMatch_1 : decode cX12_firstMatch 1 = .ok (.aload_n 0, 1) := by decide +kernel
theorem dX12_firstMatch_2 : decode cX12_firstMatch 2 = .ok (.iload_n 1, 1) := by decide +kernel
theorem dX12_firstMatch_3 : decode cX12_firstMatch 3 = .ok (.invokevirtual 414, 3) := by decide +kernel
theorem dX12_firstMatch_6 : decode cX12_firstMatch 6 = .ok (.iconst 0, 1) := by decide +kernel
theorem dX12_firstMatch_7 : decode cX12_firstMatch 7 = .ok (.iconst 0, 1) := by decide +kernel
theorem dX12_firstMatch_8 : decode cX12_firstMatch 8 = .ok (.invokevirtual 300, 3) := by decide +kernel
theorem dX12_firstMatch_11 : decode cX12_firstMatch 11 = .ok (.ifCond .eq 5, 3) := by decide +kernel
theorem dX12_firstMatch_14 : decode cX12_firstMatch 14 = .ok (.iconst 0, 1) := by decide +kernel
theorem dX12_firstMatch_15 : decode cX12_firstMatch 15 = .ok (.ireturn, 1) := by decide +kernel
theorem dX12_firstMatch_16 : decode cX12_firstMatch 16 = .ok (.aload_n 0, 1) := by decide +kernel
theorem dX12_firstMatch_17 : decode cX12_firstMatch 17 = .ok (.iload_n 1, 1) := by decide +kernel
theorem dX12_firstMatch_18 : decode cX12_firstMatch 18 = .ok (.invokevirtual 417, 3) := by decide +kernel
theorem dX12_firstMatch_21 : decode cX12_firstMatch 21 = .ok (.iconst 0, 1) := by decide +kernel
theorem dX12_firstMatch_22 : decode cX12_firstMatch 22 = .ok (.istore_n 2, 1) := by decide +kernel
theorem dX12_firstMatch_23 : decode cX12_firstMatch 23 = .ok (.iload_n 2, 1) := by decide +kernel
theorem dX12_firstMatch_24 : decode cX12_firstMatch 24 = .ok (.aload_n 0, 1) := by decide +kernel
theorem dX12_firstMatch_25 : decode cX12_firstMatch 25 = .ok (.getfield 395, 3) := by decide +kernel
theorem dX12_firstMatch_28 : decode cX12_firstMatch 28 = .ok (.if_icmp .ge 29, 3) := by decide +kernel
theorem dX12_firstMatch_31 : decode cX12_firstMatch 31 = .ok (.aload_n 0, 1) := by decide +kernel
theorem dX12_firstMatch_32 : decode cX12_firstMatch 32 = .ok (.aload_n 0, 1) := by decide +kernel
theorem dX12_firstMatch_33 : decode cX12_firstMatch 33 = .ok (.getfield 82, 3) := by decide +kernel
theorem dX12_firstMatch_36 : decode cX12_firstMatch 36 = .ok (.iload_n 2, 1) := by decide +kernel
theorem dX12_firstMatch_37 : decode cX12_firstMatch 37 = .ok (.iaload, 1) := by decide +kernel
theorem dX12_firstMatch_38 : decode cX12_firstMatch 38 = .ok (.invokevirtual 435, 3) := by decide +kernel
theorem dX12_firstMatch_41 : decode cX12_firstMatch 41 = .ok (.ifCond .eq 10, 3) := by decide +kernel
theorem dX12_firstMatch_44 : decode cX12_firstMatch 44 = .ok (.aload_n 0, 1) := by decide +kernel
theorem dX12_firstMatch_45 : decode cX12_firstMatch 45 = .ok (.getfield 82, 3) := by decide +kernel
theorem dX12_firstMatch_48 : decode cX12_firstMatch 48 = .ok (.iload_n 2, 1) := by decide +kernel
theorem dX12_firstMatch_49 : decode cX12_firstMatch 49 = .ok (.iaload, 1) := by decide +kernel
theorem dX12_firstMatch_50 : decode cX12_firstMatch 50 = .ok (.ireturn, 1) := by decide +kernel
theorem dX12_firstMatch_51 : decode cX12_firstMatch 51 = .ok (.iinc 2 1, 3) := by decide +kernel
theorem dX12_firstMatch_54 : decode cX12_firstMatch 54 = .ok (.goto (-31), 3) := by decide +kernel
theorem dX12_firstMatch_57 : decode cX12_firstMatch 57 = .ok (.iconst (-1), 1) := by decide +kernel
theorem dX12_firstMatch_58 : decode cX12_firstMatch 58 = .ok (.ireturn, 1) := by decide +kernel
theorem dX12_stateCount_0 : decode cX12_stateCount 0 = .ok (.aload_n 0, 1) := by decide +kernel
theorem dX12_stateCount_1 : decode cX12_stateCount 1 = .ok (.aload_n 0, 1) := by decide +kernel
theorem dX12_stateCount_2 : decode cX12_stateCount 2 = .ok (.iload_n 1, 1) := by decide +kernel
theorem dX12_stateCount_3 : decode cX12_stateCount 3 = .ok (.invokevirtual 414, 3) := by decide +kernel
theorem dX12_stateCount_6 : decode cX12_stateCount 6 = .ok (.iconst 0, 1) := by decide +kernel
theorem dX12_stateCount_7 : decode cX12_stateCount 7 = .ok (.iconst 0, 1) := by decide +kernel
theorem dX12_stateCount_8 : decode cX12_stateCount 8 = .ok (.invokevirtual 300, 3) := by decide +kernel
theorem dX12_stateCount_11 : decode cX12_stateCount 11 = .ok (.ifCond .eq 5, 3) := by decide +kernel
theorem dX12_stateCount_14 : decode cX12_stateCount 14 = .ok (.iconst 0, 1) := by decide +kernel
theorem dX12_stateCount_15 : decode cX12_stateCount 15 = .ok (.ireturn, 1) := by decide +kernel
theorem dX12_stateCount_16 : decode cX12_stateCount 16 = .ok (.aload_n 0, 1) := by decide +kernel
theorem dX12_stateCount_17 : decode cX12_stateCount 17 = .ok (.iload_n 1, 1) := by decide +kernel
theorem dX12_stateCount_18 : decode cX12_stateCount 18 = .ok (.invokevirtual 417, 3) := by decide +kernel
theorem dX12_stateCount_21 : decode cX12_stateCount 21 = .ok (.aload_n 0, 1) := by decide +kernel
theorem dX12_stateCount_22 : decode cX12_stateCount 22 = .ok (.getfield 376, 3) := by decide +kernel
theorem dX12_stateCount_25 : decode cX12_stateCount 25 = .ok (.ireturn, 1) := by decide +kernel
theorem dX12_executionCount_0 : decode cX12_executionCount 0 = .ok (.aload_n 0, 1) := by decide +kernel
theorem dX12_executionCount_1 : decode cX12_executionCount 1 = .ok (.aload_n 0, 1) := by decide +kernel
theorem dX12_executionCount_2 : decode cX12_executionCount 2 = .ok (.iload_n 1, 1) := by decide +kernel
theorem dX12_executionCount_3 : decode cX12_executionCount 3 = .ok (.invokevirtual 414, 3) := by decide +kernel
theorem dX12_executionCount_6 : decode cX12_executionCount 6 = .ok (.iconst 0, 1) := by decide +kernel
theorem dX12_executionCount_7 : decode cX12_executionCount 7 = .ok (.iconst 0, 1) := by decide +kernel
theorem dX12_executionCount_8 : decode cX12_executionCount 8 = .ok (.invokevirtual 300, 3) := by decide +kernel
theorem dX12_executionCount_11 : decode cX12_executionCount 11 = .ok (.ifCond .eq 5, 3) := by decide +kernel
theorem dX12_executionCount_14 : decode cX12_executionCount 14 = .ok (.lconst 0, 1) := by decide +kernel
theorem dX12_executionCount_15 : decode cX12_executionCount 15 = .ok (.lreturn, 1) := by decide +kernel
theorem dX12_executionCount_16 : decode cX12_executionCount 16 = .ok (.aload_n 0, 1) := by decide +kernel
theorem dX12_executionCount_17 : decode cX12_executionCount 17 = .ok (.iload_n 1, 1) := by decide +kernel
theorem dX12_executionCount_18 : decode cX12_executionCount 18 = .ok (.invokevirtual 417, 3) := by decide +kernel
theorem dX12_executionCount_21 : decode cX12_executionCount 21 = .ok (.lconst 0, 1) := by decide +kernel
theorem dX12_executionCount_22 : decode cX12_executionCount 22 = .ok (.lstore_n 2, 1) := by decide +kernel
theorem dX12_executionCount_23 : decode cX12_executionCount 23 = .ok (.iconst 0, 1) := by decide +kernel
theorem dX12_executionCount_24 : decode cX12_executionCount 24 = .ok (.istore 4, 2) := by decide +kernel
theorem dX12_executionCount_26 : decode cX12_executionCount 26 = .ok (.iload 4, 2) := by decide +kernel
theorem dX12_executionCount_28 : decode cX12_executionCount 28 = .ok (.aload_n 0, 1) := by decide +kernel
theorem dX12_executionCount_29 : decode cX12_executionCount 29 = .ok (.getfield 395, 3) := by decide +kernel
theorem dX12_executionCount_32 : decode cX12_executionCount 32 = .ok (.if_icmp .ge 19, 3) := by decide +kernel
theorem dX12_executionCount_35 : decode cX12_executionCount 35 = .ok (.lload_n 2, 1) := by decide +kernel
theorem dX12_executionCount_36 : decode cX12_executionCount 36 = .ok (.aload_n 0, 1) := by decide +kernel
theorem dX12_executionCount_37 : decode cX12_executionCount 37 = .ok (.getfield 88, 3) := by decide +kernel
theorem dX12_executionCount_40 : decode cX12_executionCount 40 = .ok (.iload 4, 2) := by decide +kernel
theorem dX12_executionCount_42 : decode cX12_executionCount 42 = .ok (.laload, 1) := by decide +kernel
theorem dX12_executionCount_43 : decode cX12_executionCount 43 = .ok (.ladd, 1) := by decide +kernel
theorem dX12_executionCount_44 : decode cX12_executionCount 44 = .ok (.lstore_n 2, 1) := by decide +kernel
theorem dX12_executionCount_45 : decode cX12_executionCount 45 = .ok (.iinc 4 1, 3) := by decide +kernel
theorem dX12_executionCount_48 : decode cX12_executionCount 48 = .ok (.goto (-22), 3) := by decide +kernel
theorem dX12_executionCount_51 : decode cX12_executionCount 51 = .ok (.lload_n 2, 1) := by decide +kernel
theorem dX12_executionCount_52 : decode cX12_executionCount 52 = .ok (.lreturn, 1) := by decide +kernel
theorem dX12_executionsWith_0 : decode cX12_executionsWith 0 = .ok (.aload_n 0, 1) := by decide +kernel
theorem dX12_executionsWith_1 : decode cX12_executionsWith 1 = .ok (.aload_n 0, 1) := by decide +kernel
theorem dX12_executionsWith_2 : decode cX12_executionsWith 2 = .ok (.iload_n 1, 1) := by decide +kernel
theorem dX12_executionsWith_3 : decode cX12_executionsWith 3 = .ok (.invokevirtual 414, 3) := by decide +kernel
theorem dX12_executionsWith_6 : decode cX12_executionsWith 6 = .ok (.iconst 0, 1) := by decide +kernel
theorem dX12_executionsWith_7 : decode cX12_executionsWith 7 = .ok (.iconst 0, 1) := by decide +kernel
theorem dX12_executionsWith_8 : decode cX12_executionsWith 8 = .ok (.invokevirtual 300, 3) := by decide +kernel
theorem dX12_executionsWith_11 : decode cX12_executionsWith 11 = .ok (.ifCond .eq 5, 3) := by decide +kernel
theorem dX12_executionsWith_14 : decode cX12_executionsWith 14 = .ok (.lconst 0, 1) := by decide +kernel
theorem dX12_executionsWith_15 : decode cX12_executionsWith 15 = .ok (.lreturn, 1) := by decide +kernel
theorem dX12_executionsWith_16 : decode cX12_executionsWith 16 = .ok (.aload_n 0, 1) := by decide +kernel
theorem dX12_executionsWith_17 : decode cX12_executionsWith 17 = .ok (.iload_n 1, 1) := by decide +kernel
theorem dX12_executionsWith_18 : decode cX12_executionsWith 18 = .ok (.invokevirtual 417, 3) := by decide +kernel
theorem dX12_executionsWith_21 : decode cX12_executionsWith 21 = .ok (.aload_n 0, 1) := by decide +kernel
theorem dX12_executionsWith_22 : decode cX12_executionsWith 22 = .ok (.iload_n 2, 1) := by decide +kernel
theorem dX12_executionsWith_23 : decode cX12_executionsWith 23 = .ok (.invokevirtual 420, 3) := by decide +kernel
theorem dX12_executionsWith_26 : decode cX12_executionsWith 26 = .ok (.iconst (-1), 1) := by decide +kernel
theorem dX12_executionsWith_27 : decode cX12_executionsWith 27 = .ok (.if_icmp .ne 7, 3) := by decide +kernel
theorem dX12_executionsWith_30 : decode cX12_executionsWith 30 = .ok (.lconst 0, 1) := by decide +kernel
theorem dX12_executionsWith_31 : decode cX12_executionsWith 31 = .ok (.goto 13, 3) := by decide +kernel
theorem dX12_executionsWith_34 : decode cX12_executionsWith 34 = .ok (.aload_n 0, 1) := by decide +kernel
theorem dX12_executionsWith_35 : decode cX12_executionsWith 35 = .ok (.getfield 88, 3) := by decide +kernel
theorem dX12_executionsWith_38 : decode cX12_executionsWith 38 = .ok (.aload_n 0, 1) := by decide +kernel
theorem dX12_executionsWith_39 : decode cX12_executionsWith 39 = .ok (.iload_n 2, 1) := by decide +kernel
theorem dX12_executionsWith_40 : decode cX12_executionsWith 40 = .ok (.invokevirtual 420, 3) := by decide +kernel
theorem dX12_executionsWith_43 : decode cX12_executionsWith 43 = .ok (.laload, 1) := by decide +kernel
theorem dX12_executionsWith_44 : decode cX12_executionsWith 44 = .ok (.lreturn, 1) := by decide +kernel
theorem dX12_reads_0 : decode cX12_reads 0 = .ok (.aload_n 0, 1) := by decide +kernel
theorem dX12_reads_1 : decode cX12_reads 1 = .ok (.iload_n 1, 1) := by decide +kernel
theorem dX12_reads_2 : decode cX12_reads 2 = .ok (.iconst 1, 1) := by decide +kernel
theorem dX12_reads_3 : decode cX12_reads 3 = .ok (.invokevirtual 304, 3) := by decide +kernel
theorem dX12_reads_6 : decode cX12_reads 6 = .ok (.iconst 1, 1) := by decide +kernel
theorem dX12_reads_7 : decode cX12_reads 7 = .ok (.if_icmp .eq 13, 3) := by decide +kernel
theorem dX12_reads_10 : decode cX12_reads 10 = .ok (.aload_n 0, 1) := by decide +kernel
theorem dX12_reads_11 : decode cX12_reads 11 = .ok (.iload_n 1, 1) := by decide +kernel
theorem dX12_reads_12 : decode cX12_reads 12 = .ok (.iconst 1, 1) := by decide +kernel
theorem dX12_reads_13 : decode cX12_reads 13 = .ok (.invokevirtual 304, 3) := by decide +kernel
theorem dX12_reads_16 : decode cX12_reads 16 = .ok (.iconst 2, 1) := by decide +kernel
theorem dX12_reads_17 : decode cX12_reads 17 = .ok (.if_icmp .ne 7, 3) := by decide +kernel
theorem dX12_reads_20 : decode cX12_reads 20 = .ok (.iconst 1, 1) := by decide +kernel
theorem dX12_reads_21 : decode cX12_reads 21 = .ok (.goto 4, 3) := by decide +kernel
theorem dX12_reads_24 : decode cX12_reads 24 = .ok (.iconst 0, 1) := by decide +kernel
theorem dX12_reads_25 : decode cX12_reads 25 = .ok (.ireturn, 1) := by decide +kernel
theorem dX12_laidAt_0 : decode cX12_laidAt 0 = .ok (.iconst 0, 1) := by decide +kernel
theorem dX12_laidAt_1 : decode cX12_laidAt 1 = .ok (.istore_n 2, 1) := by decide +kernel
theorem dX12_laidAt_2 : decode cX12_laidAt 2 = .ok (.aload_n 0, 1) := by decide +kernel
theorem dX12_laidAt_3 : decode cX12_laidAt 3 = .ok (.getfield 59, 3) := by decide +kernel
theorem dX12_laidAt_6 : decode cX12_laidAt 6 = .ok (.iload_n 2, 1) := by decide +kernel
theorem dX12_laidAt_7 : decode cX12_laidAt 7 = .ok (.iaload, 1) := by decide +kernel
theorem dX12_laidAt_8 : decode cX12_laidAt 8 = .ok (.iload_n 1, 1) := by decide +kernel
theorem dX12_laidAt_9 : decode cX12_laidAt 9 = .ok (.if_icmp .eq 9, 3) := by decide +kernel
theorem dX12_laidAt_12 : decode cX12_laidAt 12 = .ok (.iinc 2 1, 3) := by decide +kernel
theorem dX12_laidAt_15 : decode cX12_laidAt 15 = .ok (.goto (-13), 3) := by decide +kernel
theorem dX12_laidAt_18 : decode cX12_laidAt 18 = .ok (.iload_n 2, 1) := by decide +kernel
theorem dX12_laidAt_19 : decode cX12_laidAt 19 = .ok (.ireturn, 1) := by decide +kernel
theorem dX12_readValues_0 : decode cX12_readValues 0 = .ok (.aload_n 0, 1) := by decide +kernel
theorem dX12_readValues_1 : decode cX12_readValues 1 = .ok (.aload_n 0, 1) := by decide +kernel
theorem dX12_readValues_2 : decode cX12_readValues 2 = .ok (.iload_n 1, 1) := by decide +kernel
theorem dX12_readValues_3 : decode cX12_readValues 3 = .ok (.invokevirtual 414, 3) := by decide +kernel
theorem dX12_readValues_6 : decode cX12_readValues 6 = .ok (.aload_n 0, 1) := by decide +kernel
theorem dX12_readValues_7 : decode cX12_readValues 7 = .ok (.iload_n 2, 1) := by decide +kernel
theorem dX12_readValues_8 : decode cX12_readValues 8 = .ok (.invokevirtual 297, 3) := by decide +kernel
theorem dX12_readValues_11 : decode cX12_readValues 11 = .ok (.ifCond .ne 7, 3) := by decide +kernel
theorem dX12_readValues_14 : decode cX12_readValues 14 = .ok (.iconst 1, 1) := by decide +kernel
theorem dX12_readValues_15 : decode cX12_readValues 15 = .ok (.goto 4, 3) := by decide +kernel
theorem dX12_readValues_18 : decode cX12_readValues 18 = .ok (.iconst 0, 1) := by decide +kernel
theorem dX12_readValues_19 : decode cX12_readValues 19 = .ok (.aload_n 0, 1) := by decide +kernel
theorem dX12_readValues_20 : decode cX12_readValues 20 = .ok (.iload_n 2, 1) := by decide +kernel
theorem dX12_readValues_21 : decode cX12_readValues 21 = .ok (.invokevirtual 297, 3) := by decide +kernel
theorem dX12_readValues_24 : decode cX12_readValues 24 = .ok (.ifCond .eq 15, 3) := by decide +kernel
theorem dX12_readValues_27 : decode cX12_readValues 27 = .ok (.aload_n 0, 1) := by decide +kernel
theorem dX12_readValues_28 : decode cX12_readValues 28 = .ok (.iload_n 2, 1) := by decide +kernel
theorem dX12_readValues_29 : decode cX12_readValues 29 = .ok (.invokevirtual 441, 3) := by decide +kernel
theorem dX12_readValues_32 : decode cX12_readValues 32 = .ok (.ifCond .ne 7, 3) := by decide +kernel
theorem dX12_readValues_35 : decode cX12_readValues 35 = .ok (.iconst 1, 1) := by decide +kernel
theorem dX12_readValues_36 : decode cX12_readValues 36 = .ok (.goto 4, 3) := by decide +kernel
theorem dX12_readValues_39 : decode cX12_readValues 39 = .ok (.iconst 0, 1) := by decide +kernel
theorem dX12_readValues_40 : decode cX12_readValues 40 = .ok (.invokevirtual 300, 3) := by decide +kernel
theorem dX12_readValues_43 : decode cX12_readValues 43 = .ok (.ifCond .eq 5, 3) := by decide +kernel
theorem dX12_readValues_46 : decode cX12_readValues 46 = .ok (.iconst 0, 1) := by decide +kernel
theorem dX12_readValues_47 : decode cX12_readValues 47 = .ok (.ireturn, 1) := by decide +kernel
theorem dX12_readValues_48 : decode cX12_readValues 48 = .ok (.aload_n 0, 1) := by decide +kernel
theorem dX12_readValues_49 : decode cX12_readValues 49 = .ok (.iload_n 1, 1) := by decide +kernel
theorem dX12_readValues_50 : decode cX12_readValues 50 = .ok (.invokevirtual 417, 3) := by decide +kernel
theorem dX12_readValues_53 : decode cX12_readValues 53 = .ok (.aload_n 0, 1) := by decide +kernel
theorem dX12_readValues_54 : decode cX12_readValues 54 = .ok (.iload_n 2, 1) := by decide +kernel
theorem dX12_readValues_55 : decode cX12_readValues 55 = .ok (.iconst 0, 1) := by decide +kernel
theorem dX12_readValues_56 : decode cX12_readValues 56 = .ok (.invokevirtual 304, 3) := by decide +kernel
theorem dX12_readValues_59 : decode cX12_readValues 59 = .ok (.istore_n 3, 1) := by decide +kernel
theorem dX12_readValues_60 : decode cX12_readValues 60 = .ok (.aload_n 0, 1) := by decide +kernel
theorem dX12_readValues_61 : decode cX12_readValues 61 = .ok (.iload_n 2, 1) := by decide +kernel
theorem dX12_readValues_62 : decode cX12_readValues 62 = .ok (.invokevirtual 444, 3) := by decide +kernel
theorem dX12_readValues_65 : decode cX12_readValues 65 = .ok (.aload_n 0, 1) := by decide +kernel
theorem dX12_readValues_66 : decode cX12_readValues 66 = .ok (.getfield 65, 3) := by decide +kernel
theorem dX12_readValues_69 : decode cX12_readValues 69 = .ok (.iload_n 3, 1) := by decide +kernel
theorem dX12_readValues_70 : decode cX12_readValues 70 = .ok (.iaload, 1) := by decide +kernel
theorem dX12_readValues_71 : decode cX12_readValues 71 = .ok (.isub, 1) := by decide +kernel
theorem dX12_readValues_72 : decode cX12_readValues 72 = .ok (.istore 4, 2) := by decide +kernel
theorem dX12_readValues_74 : decode cX12_readValues 74 = .ok (.iconst 0, 1) := by decide +kernel
theorem dX12_readValues_75 : decode cX12_readValues 75 = .ok (.istore 5, 2) := by decide +kernel
theorem dX12_readValues_77 : decode cX12_readValues 77 = .ok (.iconst 0, 1) := by decide +kernel
theorem dX12_readValues_78 : decode cX12_readValues 78 = .ok (.istore 6, 2) := by decide +kernel
theorem dX12_readValues_80 : decode cX12_readValues 80 = .ok (.iload 6, 2) := by decide +kernel
theorem dX12_readValues_82 : decode cX12_readValues 82 = .ok (.aload_n 0, 1) := by decide +kernel
theorem dX12_readValues_83 : decode cX12_readValues 83 = .ok (.getfield 376, 3) := by decide +kernel
theorem dX12_readValues_86 : decode cX12_readValues 86 = .ok (.if_icmp .ge 61, 3) := by decide +kernel
theorem dX12_readValues_89 : decode cX12_readValues 89 = .ok (.aload_n 0, 1) := by decide +kernel
theorem dX12_readValues_90 : decode cX12_readValues 90 = .ok (.getfield 69, 3) := by decide +kernel
theorem dX12_readValues_93 : decode cX12_readValues 93 = .ok (.iload 6, 2) := by decide +kernel
theorem dX12_readValues_95 : decode cX12_readValues 95 = .ok (.laload, 1) := by decide +kernel
theorem dX12_readValues_96 : decode cX12_readValues 96 = .ok (.iload_n 3, 1) := by decide +kernel
theorem dX12_readValues_97 : decode cX12_readValues 97 = .ok (.invokestatic 324, 3) := by decide +kernel
theorem dX12_readValues_100 : decode cX12_readValues 100 = .ok (.iload 4, 2) := by decide +kernel
theorem dX12_readValues_102 : decode cX12_readValues 102 = .ok (.if_icmp .ne 39, 3) := by decide +kernel
theorem dX12_readValues_105 : decode cX12_readValues 105 = .ok (.aload_n 0, 1) := by decide +kernel
theorem dX12_readValues_106 : decode cX12_readValues 106 = .ok (.aload_n 0, 1) := by decide +kernel
theorem dX12_readValues_107 : decode cX12_readValues 107 = .ok (.getfield 69, 3) := by decide +kernel
theorem dX12_readValues_110 : decode cX12_readValues 110 = .ok (.iload 6, 2) := by decide +kernel
theorem dX12_readValues_112 : decode cX12_readValues 112 = .ok (.laload, 1) := by decide +kernel
theorem dX12_readValues_113 : decode cX12_readValues 113 = .ok (.iload_n 3, 1) := by decide +kernel
theorem dX12_readValues_114 : decode cX12_readValues 114 = .ok (.invokevirtual 332, 3) := by decide +kernel
theorem dX12_readValues_117 : decode cX12_readValues 117 = .ok (.ifCond .eq 24, 3) := by decide +kernel
theorem dX12_readValues_120 : decode cX12_readValues 120 = .ok (.iload 5, 2) := by decide +kernel
theorem dX12_readValues_122 : decode cX12_readValues 122 = .ok (.iconst 1, 1) := by decide +kernel
theorem dX12_readValues_123 : decode cX12_readValues 123 = .ok (.aload_n 0, 1) := by decide +kernel
theorem dX12_readValues_124 : decode cX12_readValues 124 = .ok (.getfield 356, 3) := by decide +kernel
theorem dX12_readValues_127 : decode cX12_readValues 127 = .ok (.iload_n 3, 1) := by decide +kernel
theorem dX12_readValues_128 : decode cX12_readValues 128 = .ok (.aload_n 0, 1) := by decide +kernel
theorem dX12_readValues_129 : decode cX12_readValues 129 = .ok (.iload_n 2, 1) := by decide +kernel
theorem dX12_readValues_130 : decode cX12_readValues 130 = .ok (.iconst 3, 1) := by decide +kernel
theorem dX12_readValues_131 : decode cX12_readValues 131 = .ok (.invokevirtual 304, 3) := by decide +kernel
theorem dX12_readValues_134 : decode cX12_readValues 134 = .ok (.invokestatic 320, 3) := by decide +kernel
theorem dX12_readValues_137 : decode cX12_readValues 137 = .ok (.ishl, 1) := by decide +kernel
theorem dX12_readValues_138 : decode cX12_readValues 138 = .ok (.ior, 1) := by decide +kernel
theorem dX12_readValues_139 : decode cX12_readValues 139 = .ok (.istore 5, 2) := by decide +kernel
theorem dX12_readValues_141 : decode cX12_readValues 141 = .ok (.iinc 6 1, 3) := by decide +kernel
theorem dX12_readValues_144 : decode cX12_readValues 144 = .ok (.goto (-64), 3) := by decide +kernel
theorem dX12_readValues_147 : decode cX12_readValues 147 = .ok (.iload 5, 2) := by decide +kernel
theorem dX12_readValues_149 : decode cX12_readValues 149 = .ok (.ireturn, 1) := by decide +kernel
theorem dX12_finalValues_0 : decode cX12_finalValues 0 = .ok (.aload_n 0, 1) := by decide +kernel
theorem dX12_finalValues_1 : decode cX12_finalValues 1 = .ok (.aload_n 0, 1) := by decide +kernel
theorem dX12_finalValues_2 : decode cX12_finalValues 2 = .ok (.iload_n 1, 1) := by decide +kernel
theorem dX12_finalValues_3 : decode cX12_finalValues 3 = .ok (.invokevirtual 414, 3) := by decide +kernel
theorem dX12_finalValues_6 : decode cX12_finalValues 6 = .ok (.iload_n 2, 1) := by decide +kernel
theorem dX12_finalValues_7 : decode cX12_finalValues 7 = .ok (.iconst 0, 1) := by decide +kernel
theorem dX12_finalValues_8 : decode cX12_finalValues 8 = .ok (.aload_n 0, 1) := by decide +kernel
theorem dX12_finalValues_9 : decode cX12_finalValues 9 = .ok (.getfield 17, 3) := by decide +kernel
theorem dX12_finalValues_12 : decode cX12_finalValues 12 = .ok (.iconst 2, 1) := by decide +kernel
theorem dX12_finalValues_13 : decode cX12_finalValues 13 = .ok (.iaload, 1) := by decide +kernel
theorem dX12_finalValues_14 : decode cX12_finalValues 14 = .ok (.iconst 1, 1) := by decide +kernel
theorem dX12_finalValues_15 : decode cX12_finalValues 15 = .ok (.isub, 1) := by decide +kernel
theorem dX12_finalValues_16 : decode cX12_finalValues 16 = .ok (.invokestatic 124, 3) := by decide +kernel
theorem dX12_finalValues_19 : decode cX12_finalValues 19 = .ok (.ifCond .ne 7, 3) := by decide +kernel
theorem dX12_finalValues_22 : decode cX12_finalValues 22 = .ok (.iconst 1, 1) := by decide +kernel
theorem dX12_finalValues_23 : decode cX12_finalValues 23 = .ok (.goto 4, 3) := by decide +kernel
theorem dX12_finalValues_26 : decode cX12_finalValues 26 = .ok (.iconst 0, 1) := by decide +kernel
theorem dX12_finalValues_27 : decode cX12_finalValues 27 = .ok (.iconst 0, 1) := by decide +kernel
theorem dX12_finalValues_28 : decode cX12_finalValues 28 = .ok (.invokevirtual 300, 3) := by decide +kernel
theorem dX12_finalValues_31 : decode cX12_finalValues 31 = .ok (.ifCond .eq 5, 3) := by decide +kernel
theorem dX12_finalValues_34 : decode cX12_finalValues 34 = .ok (.iconst 0, 1) := by decide +kernel
theorem dX12_finalValues_35 : decode cX12_finalValues 35 = .ok (.ireturn, 1) := by decide +kernel
theorem dX12_finalValues_36 : decode cX12_finalValues 36 = .ok (.aload_n 0, 1) := by decide +kernel
theorem dX12_finalValues_37 : decode cX12_finalValues 37 = .ok (.iload_n 1, 1) := by decide +kernel
theorem dX12_finalValues_38 : decode cX12_finalValues 38 = .ok (.invokevirtual 417, 3) := by decide +kernel
theorem dX12_finalValues_41 : decode cX12_finalValues 41 = .ok (.iconst 0, 1) := by decide +kernel
theorem dX12_finalValues_42 : decode cX12_finalValues 42 = .ok (.istore_n 3, 1) := by decide +kernel
theorem dX12_finalValues_43 : decode cX12_finalValues 43 = .ok (.iconst 0, 1) := by decide +kernel
theorem dX12_finalValues_44 : decode cX12_finalValues 44 = .ok (.istore 4, 2) := by decide +kernel
theorem dX12_finalValues_46 : decode cX12_finalValues 46 = .ok (.iload 4, 2) := by decide +kernel
theorem dX12_finalValues_48 : decode cX12_finalValues 48 = .ok (.aload_n 0, 1) := by decide +kernel
theorem dX12_finalValues_49 : decode cX12_finalValues 49 = .ok (.getfield 395, 3) := by decide +kernel
theorem dX12_finalValues_52 : decode cX12_finalValues 52 = .ok (.if_icmp .ge 35, 3) := by decide +kernel
theorem dX12_finalValues_55 : decode cX12_finalValues 55 = .ok (.iload_n 3, 1) := by decide +kernel
theorem dX12_finalValues_56 : decode cX12_finalValues 56 = .ok (.iconst 1, 1) := by decide +kernel
theorem dX12_finalValues_57 : decode cX12_finalValues 57 = .ok (.aload_n 0, 1) := by decide +kernel
theorem dX12_finalValues_58 : decode cX12_finalValues 58 = .ok (.aload_n 0, 1) := by decide +kernel
theorem dX12_finalValues_59 : decode cX12_finalValues 59 = .ok (.getfield 82, 3) := by decide +kernel
theorem dX12_finalValues_62 : decode cX12_finalValues 62 = .ok (.iload 4, 2) := by decide +kernel
theorem dX12_finalValues_64 : decode cX12_finalValues 64 = .ok (.iaload, 1) := by decide +kernel
theorem dX12_finalValues_65 : decode cX12_finalValues 65 = .ok (.iconst 2, 1) := by decide +kernel
theorem dX12_finalValues_66 : decode cX12_finalValues 66 = .ok (.aload_n 0, 1) := by decide +kernel
theorem dX12_finalValues_67 : decode cX12_finalValues 67 = .ok (.getfield 17, 3) := by decide +kernel
theorem dX12_finalValues_70 : decode cX12_finalValues 70 = .ok (.iconst 1, 1) := by decide +kernel
theorem dX12_finalValues_71 : decode cX12_finalValues 71 = .ok (.iaload, 1) := by decide +kernel
theorem dX12_finalValues_72 : decode cX12_finalValues 72 = .ok (.imul, 1) := by decide +kernel
theorem dX12_finalValues_73 : decode cX12_finalValues 73 = .ok (.iload_n 2, 1) := by decide +kernel
theorem dX12_finalValues_74 : decode cX12_finalValues 74 = .ok (.iadd, 1) := by decide +kernel
theorem dX12_finalValues_75 : decode cX12_finalValues 75 = .ok (.invokevirtual 432, 3) := by decide +kernel
theorem dX12_finalValues_78 : decode cX12_finalValues 78 = .ok (.ishl, 1) := by decide +kernel
theorem dX12_finalValues_79 : decode cX12_finalValues 79 = .ok (.ior, 1) := by decide +kernel
theorem dX12_finalValues_80 : decode cX12_finalValues 80 = .ok (.istore_n 3, 1) := by decide +kernel
theorem dX12_finalValues_81 : decode cX12_finalValues 81 = .ok (.iinc 4 1, 3) := by decide +kernel
theorem dX12_finalValues_84 : decode cX12_finalValues 84 = .ok (.goto (-38), 3) := by decide +kernel
theorem dX12_finalValues_87 : decode cX12_finalValues 87 = .ok (.iload_n 3, 1) := by decide +kernel
theorem dX12_finalValues_88 : decode cX12_finalValues 88 = .ok (.ireturn, 1) := by decide +kernel
theorem dX12_greatestBuffer_0 : decode cX12_greatestBuffer 0 = .ok (.aload_n 0, 1) := by decide +kernel
theorem dX12_greatestBuffer_1 : decode cX12_greatestBuffer 1 = .ok (.aload_n 0, 1) := by decide +kernel
theorem dX12_greatestBuffer_2 : decode cX12_greatestBuffer 2 = .ok (.iload_n 1, 1) := by decide +kernel
theorem dX12_greatestBuffer_3 : decode cX12_greatestBuffer 3 = .ok (.invokevirtual 414, 3) := by decide +kernel
theorem dX12_greatestBuffer_6 : decode cX12_greatestBuffer 6 = .ok (.iload_n 2, 1) := by decide +kernel
theorem dX12_greatestBuffer_7 : decode cX12_greatestBuffer 7 = .ok (.iconst 0, 1) := by decide +kernel
theorem dX12_greatestBuffer_8 : decode cX12_greatestBuffer 8 = .ok (.aload_n 0, 1) := by decide +kernel
theorem dX12_greatestBuffer_9 : decode cX12_greatestBuffer 9 = .ok (.getfield 17, 3) := by decide +kernel
theorem dX12_greatestBuffer_12 : decode cX12_greatestBuffer 12 = .ok (.iconst 1, 1) := by decide +kernel
theorem dX12_greatestBuffer_13 : decode cX12_greatestBuffer 13 = .ok (.iaload, 1) := by decide +kernel
theorem dX12_greatestBuffer_14 : decode cX12_greatestBuffer 14 = .ok (.iconst 1, 1) := by decide +kernel
theorem dX12_greatestBuffer_15 : decode cX12_greatestBuffer 15 = .ok (.isub, 1) := by decide +kernel
theorem dX12_greatestBuffer_16 : decode cX12_greatestBuffer 16 = .ok (.invokestatic 124, 3) := by decide +kernel
theorem dX12_greatestBuffer_19 : decode cX12_greatestBuffer 19 = .ok (.ifCond .ne 7, 3) := by decide +kernel
theorem dX12_greatestBuffer_22 : decode cX12_greatestBuffer 22 = .ok (.iconst 1, 1) := by decide +kernel
theorem dX12_greatestBuffer_23 : decode cX12_greatestBuffer 23 = .ok (.goto 4, 3) := by decide +kernel
theorem dX12_greatestBuffer_26 : decode cX12_greatestBuffer 26 = .ok (.iconst 0, 1) := by decide +kernel
theorem dX12_greatestBuffer_27 : decode cX12_greatestBuffer 27 = .ok (.iconst 0, 1) := by decide +kernel
theorem dX12_greatestBuffer_28 : decode cX12_greatestBuffer 28 = .ok (.invokevirtual 300, 3) := by decide +kernel
theorem dX12_greatestBuffer_31 : decode cX12_greatestBuffer 31 = .ok (.ifCond .eq 5, 3) := by decide +kernel
theorem dX12_greatestBuffer_34 : decode cX12_greatestBuffer 34 = .ok (.iconst 0, 1) := by decide +kernel
theorem dX12_greatestBuffer_35 : decode cX12_greatestBuffer 35 = .ok (.ireturn, 1) := by decide +kernel
theorem dX12_greatestBuffer_36 : decode cX12_greatestBuffer 36 = .ok (.aload_n 0, 1) := by decide +kernel
theorem dX12_greatestBuffer_37 : decode cX12_greatestBuffer 37 = .ok (.iload_n 1, 1) := by decide +kernel
theorem dX12_greatestBuffer_38 : decode cX12_greatestBuffer 38 = .ok (.invokevirtual 417, 3) := by decide +kernel
theorem dX12_greatestBuffer_41 : decode cX12_greatestBuffer 41 = .ok (.iconst 0, 1) := by decide +kernel
theorem dX12_greatestBuffer_42 : decode cX12_greatestBuffer 42 = .ok (.istore_n 3, 1) := by decide +kernel
theorem dX12_greatestBuffer_43 : decode cX12_greatestBuffer 43 = .ok (.iconst 0, 1) := by decide +kernel
theorem dX12_greatestBuffer_44 : decode cX12_greatestBuffer 44 = .ok (.istore 4, 2) := by decide +kernel
theorem dX12_greatestBuffer_46 : decode cX12_greatestBuffer 46 = .ok (.iload 4, 2) := by decide +kernel
theorem dX12_greatestBuffer_48 : decode cX12_greatestBuffer 48 = .ok (.aload_n 0, 1) := by decide +kernel
theorem dX12_greatestBuffer_49 : decode cX12_greatestBuffer 49 = .ok (.getfield 376, 3) := by decide +kernel
theorem dX12_greatestBuffer_52 : decode cX12_greatestBuffer 52 = .ok (.if_icmp .ge 26, 3) := by decide +kernel
theorem dX12_greatestBuffer_55 : decode cX12_greatestBuffer 55 = .ok (.iload_n 3, 1) := by decide +kernel
theorem dX12_greatestBuffer_56 : decode cX12_greatestBuffer 56 = .ok (.aload_n 0, 1) := by decide +kernel
theorem dX12_greatestBuffer_57 : decode cX12_greatestBuffer 57 = .ok (.aload_n 0, 1) := by decide +kernel
theorem dX12_greatestBuffer_58 : decode cX12_greatestBuffer 58 = .ok (.getfield 69, 3) := by decide +kernel
theorem dX12_greatestBuffer_61 : decode cX12_greatestBuffer 61 = .ok (.iload 4, 2) := by decide +kernel
theorem dX12_greatestBuffer_63 : decode cX12_greatestBuffer 63 = .ok (.laload, 1) := by decide +kernel
theorem dX12_greatestBuffer_64 : decode cX12_greatestBuffer 64 = .ok (.iload_n 2, 1) := by decide +kernel
theorem dX12_greatestBuffer_65 : decode cX12_greatestBuffer 65 = .ok (.invokevirtual 447, 3) := by decide +kernel
theorem dX12_greatestBuffer_68 : decode cX12_greatestBuffer 68 = .ok (.invokestatic 450, 3) := by decide +kernel
theorem dX12_greatestBuffer_71 : decode cX12_greatestBuffer 71 = .ok (.istore_n 3, 1) := by decide +kernel
theorem dX12_greatestBuffer_72 : decode cX12_greatestBuffer 72 = .ok (.iinc 4 1, 3) := by decide +kernel
theorem dX12_greatestBuffer_75 : decode cX12_greatestBuffer 75 = .ok (.goto (-29), 3) := by decide +kernel
theorem dX12_greatestBuffer_78 : decode cX12_greatestBuffer 78 = .ok (.iload_n 3, 1) := by decide +kernel
theorem dX12_greatestBuffer_79 : decode cX12_greatestBuffer 79 = .ok (.ireturn, 1) := by decide +kernel
theorem dX12_conflict_0 : decode cX12_conflict 0 = .ok (.aload_n 0, 1) := by decide +kernel
theorem dX12_conflict_1 : decode cX12_conflict 1 = .ok (.iload_n 1, 1) := by decide +kernel
theorem dX12_conflict_2 : decode cX12_conflict 2 = .ok (.iconst 0, 1) := by decide +kernel
theorem dX12_conflict_3 : decode cX12_conflict 3 = .ok (.invokevirtual 304, 3) := by decide +kernel
theorem dX12_conflict_6 : decode cX12_conflict 6 = .ok (.aload_n 0, 1) := by decide +kernel
theorem dX12_conflict_7 : decode cX12_conflict 7 = .ok (.iload_n 2, 1) := by decide +kernel
theorem dX12_conflict_8 : decode cX12_conflict 8 = .ok (.iconst 0, 1) := by decide +kernel
theorem dX12_conflict_9 : decode cX12_conflict 9 = .ok (.invokevirtual 304, 3) := by decide +kernel
theorem dX12_conflict_12 : decode cX12_conflict 12 = .ok (.if_icmp .eq 38, 3) := by decide +kernel
theorem dX12_conflict_15 : decode cX12_conflict 15 = .ok (.aload_n 0, 1) := by decide +kernel
theorem dX12_conflict_16 : decode cX12_conflict 16 = .ok (.iload_n 1, 1) := by decide +kernel
theorem dX12_conflict_17 : decode cX12_conflict 17 = .ok (.iconst 1, 1) := by decide +kernel
theorem dX12_conflict_18 : decode cX12_conflict 18 = .ok (.invokevirtual 304, 3) := by decide +kernel
theorem dX12_conflict_21 : decode cX12_conflict 21 = .ok (.iconst 3, 1) := by decide +kernel
theorem dX12_conflict_22 : decode cX12_conflict 22 = .ok (.if_icmp .eq 28, 3) := by decide +kernel
theorem dX12_conflict_25 : decode cX12_conflict 25 = .ok (.aload_n 0, 1) := by decide +kernel
theorem dX12_conflict_26 : decode cX12_conflict 26 = .ok (.iload_n 2, 1) := by decide +kernel
theorem dX12_conflict_27 : decode cX12_conflict 27 = .ok (.iconst 1, 1) := by decide +kernel
theorem dX12_conflict_28 : decode cX12_conflict 28 = .ok (.invokevirtual 304, 3) := by decide +kernel
theorem dX12_conflict_31 : decode cX12_conflict 31 = .ok (.iconst 3, 1) := by decide +kernel
theorem dX12_conflict_32 : decode cX12_conflict 32 = .ok (.if_icmp .eq 18, 3) := by decide +kernel
theorem dX12_conflict_35 : decode cX12_conflict 35 = .ok (.aload_n 0, 1) := by decide +kernel
theorem dX12_conflict_36 : decode cX12_conflict 36 = .ok (.iload_n 1, 1) := by decide +kernel
theorem dX12_conflict_37 : decode cX12_conflict 37 = .ok (.iconst 2, 1) := by decide +kernel
theorem dX12_conflict_38 : decode cX12_conflict 38 = .ok (.invokevirtual 304, 3) := by decide +kernel
theorem dX12_conflict_41 : decode cX12_conflict 41 = .ok (.aload_n 0, 1) := by decide +kernel
theorem dX12_conflict_42 : decode cX12_conflict 42 = .ok (.iload_n 2, 1) := by decide +kernel
theorem dX12_conflict_43 : decode cX12_conflict 43 = .ok (.iconst 2, 1) := by decide +kernel
theorem dX12_conflict_44 : decode cX12_conflict 44 = .ok (.invokevirtual 304, 3) := by decide +kernel
theorem dX12_conflict_47 : decode cX12_conflict 47 = .ok (.if_icmp .eq 5, 3) := by decide +kernel
theorem dX12_conflict_50 : decode cX12_conflict 50 = .ok (.iconst 0, 1) := by decide +kernel
theorem dX12_conflict_51 : decode cX12_conflict 51 = .ok (.ireturn, 1) := by decide +kernel
theorem dX12_conflict_52 : decode cX12_conflict 52 = .ok (.aload_n 0, 1) := by decide +kernel
theorem dX12_conflict_53 : decode cX12_conflict 53 = .ok (.iload_n 1, 1) := by decide +kernel
theorem dX12_conflict_54 : decode cX12_conflict 54 = .ok (.iconst 1, 1) := by decide +kernel
theorem dX12_conflict_55 : decode cX12_conflict 55 = .ok (.invokevirtual 304, 3) := by decide +kernel
theorem dX12_conflict_58 : decode cX12_conflict 58 = .ok (.aload_n 0, 1) := by decide +kernel
theorem dX12_conflict_59 : decode cX12_conflict 59 = .ok (.iload_n 2, 1) := by decide +kernel
theorem dX12_conflict_60 : decode cX12_conflict 60 = .ok (.iconst 1, 1) := by decide +kernel
theorem dX12_conflict_61 : decode cX12_conflict 61 = .ok (.invokevirtual 304, 3) := by decide +kernel
theorem dX12_conflict_64 : decode cX12_conflict 64 = .ok (.if_icmp .ne 12, 3) := by decide +kernel
theorem dX12_conflict_67 : decode cX12_conflict 67 = .ok (.aload_n 0, 1) := by decide +kernel
theorem dX12_conflict_68 : decode cX12_conflict 68 = .ok (.iload_n 1, 1) := by decide +kernel
theorem dX12_conflict_69 : decode cX12_conflict 69 = .ok (.iconst 1, 1) := by decide +kernel
theorem dX12_conflict_70 : decode cX12_conflict 70 = .ok (.invokevirtual 304, 3) := by decide +kernel
theorem dX12_conflict_73 : decode cX12_conflict 73 = .ok (.ifCond .ne 7, 3) := by decide +kernel
theorem dX12_conflict_76 : decode cX12_conflict 76 = .ok (.iconst 1, 1) := by decide +kernel
theorem dX12_conflict_77 : decode cX12_conflict 77 = .ok (.goto 4, 3) := by decide +kernel
theorem dX12_conflict_80 : decode cX12_conflict 80 = .ok (.iconst 0, 1) := by decide +kernel
theorem dX12_conflict_81 : decode cX12_conflict 81 = .ok (.ireturn, 1) := by decide +kernel
theorem dX12_race_0 : decode cX12_race 0 = .ok (.aload_n 0, 1) := by decide +kernel
theorem dX12_race_1 : decode cX12_race 1 = .ok (.iload_n 1, 1) := by decide +kernel
theorem dX12_race_2 : decode cX12_race 2 = .ok (.iload_n 2, 1) := by decide +kernel
theorem dX12_race_3 : decode cX12_race 3 = .ok (.invokevirtual 455, 3) := by decide +kernel
theorem dX12_race_6 : decode cX12_race 6 = .ok (.ifCond .ne 5, 3) := by decide +kernel
theorem dX12_race_9 : decode cX12_race 9 = .ok (.iconst 0, 1) := by decide +kernel
theorem dX12_race_10 : decode cX12_race 10 = .ok (.ireturn, 1) := by decide +kernel
theorem dX12_race_11 : decode cX12_race 11 = .ok (.aload_n 0, 1) := by decide +kernel
theorem dX12_race_12 : decode cX12_race 12 = .ok (.iload_n 1, 1) := by decide +kernel
theorem dX12_race_13 : decode cX12_race 13 = .ok (.iconst 0, 1) := by decide +kernel
theorem dX12_race_14 : decode cX12_race 14 = .ok (.invokevirtual 304, 3) := by decide +kernel
theorem dX12_race_17 : decode cX12_race 17 = .ok (.istore_n 3, 1) := by decide +kernel
theorem dX12_race_18 : decode cX12_race 18 = .ok (.aload_n 0, 1) := by decide +kernel
theorem dX12_race_19 : decode cX12_race 19 = .ok (.iload_n 2, 1) := by decide +kernel
theorem dX12_race_20 : decode cX12_race 20 = .ok (.iconst 0, 1) := by decide +kernel
theorem dX12_race_21 : decode cX12_race 21 = .ok (.invokevirtual 304, 3) := by decide +kernel
theorem dX12_race_24 : decode cX12_race 24 = .ok (.istore 4, 2) := by decide +kernel
theorem dX12_race_26 : decode cX12_race 26 = .ok (.aload_n 0, 1) := by decide +kernel
theorem dX12_race_27 : decode cX12_race 27 = .ok (.iload_n 1, 1) := by decide +kernel
theorem dX12_race_28 : decode cX12_race 28 = .ok (.invokevirtual 444, 3) := by decide +kernel
theorem dX12_race_31 : decode cX12_race 31 = .ok (.aload_n 0, 1) := by decide +kernel
theorem dX12_race_32 : decode cX12_race 32 = .ok (.getfield 65, 3) := by decide +kernel
theorem dX12_race_35 : decode cX12_race 35 = .ok (.iload_n 3, 1) := by decide +kernel
theorem dX12_race_36 : decode cX12_race 36 = .ok (.iaload, 1) := by decide +kernel
theorem dX12_race_37 : decode cX12_race 37 = .ok (.isub, 1) := by decide +kernel
theorem dX12_race_38 : decode cX12_race 38 = .ok (.istore 5, 2) := by decide +kernel
theorem dX12_race_40 : decode cX12_race 40 = .ok (.aload_n 0, 1) := by decide +kernel
theorem dX12_race_41 : decode cX12_race 41 = .ok (.iload_n 2, 1) := by decide +kernel
theorem dX12_race_42 : decode cX12_race 42 = .ok (.invokevirtual 444, 3) := by decide +kernel
theorem dX12_race_45 : decode cX12_race 45 = .ok (.aload_n 0, 1) := by decide +kernel
theorem dX12_race_46 : decode cX12_race 46 = .ok (.getfield 65, 3) := by decide +kernel
theorem dX12_race_49 : decode cX12_race 49 = .ok (.iload 4, 2) := by decide +kernel
theorem dX12_race_51 : decode cX12_race 51 = .ok (.iaload, 1) := by decide +kernel
theorem dX12_race_52 : decode cX12_race 52 = .ok (.isub, 1) := by decide +kernel
theorem dX12_race_53 : decode cX12_race 53 = .ok (.istore 6, 2) := by decide +kernel
theorem dX12_race_55 : decode cX12_race 55 = .ok (.iconst 0, 1) := by decide +kernel
theorem dX12_race_56 : decode cX12_race 56 = .ok (.istore 7, 2) := by decide +kernel
theorem dX12_race_58 : decode cX12_race 58 = .ok (.iload 7, 2) := by decide +kernel
theorem dX12_race_60 : decode cX12_race 60 = .ok (.aload_n 0, 1) := by decide +kernel
theorem dX12_race_61 : decode cX12_race 61 = .ok (.getfield 376, 3) := by decide +kernel
theorem dX12_race_64 : decode cX12_race 64 = .ok (.if_icmp .ge 44, 3) := by decide +kernel
theorem dX12_race_67 : decode cX12_race 67 = .ok (.aload_n 0, 1) := by decide +kernel
theorem dX12_race_68 : decode cX12_race 68 = .ok (.getfield 69, 3) := by decide +kernel
theorem dX12_race_71 : decode cX12_race 71 = .ok (.iload 7, 2) := by decide +kernel
theorem dX12_race_73 : decode cX12_race 73 = .ok (.laload, 1) := by decide +kernel
theorem dX12_race_74 : decode cX12_race 74 = .ok (.iload_n 3, 1) := by decide +kernel
theorem dX12_race_75 : decode cX12_race 75 = .ok (.invokestatic 324, 3) := by decide +kernel
theorem dX12_race_78 : decode cX12_race 78 = .ok (.iload 5, 2) := by decide +kernel
theorem dX12_race_80 : decode cX12_race 80 = .ok (.if_icmp .ne 22, 3) := by decide +kernel
theorem dX12_race_83 : decode cX12_race 83 = .ok (.aload_n 0, 1) := by decide +kernel
theorem dX12_race_84 : decode cX12_race 84 = .ok (.getfield 69, 3) := by decide +kernel
theorem dX12_race_87 : decode cX12_race 87 = .ok (.iload 7, 2) := by decide +kernel
theorem dX12_race_89 : decode cX12_race 89 = .ok (.laload, 1) := by decide +kernel
theorem dX12_race_90 : decode cX12_race 90 = .ok (.iload 4, 2) := by decide +kernel
theorem dX12_race_92 : decode cX12_race 92 = .ok (.invokestatic 324, 3) := by decide +kernel
theorem dX12_race_95 : decode cX12_race 95 = .ok (.iload 6, 2) := by decide +kernel
theorem dX12_race_97 : decode cX12_race 97 = .ok (.if_icmp .ne 5, 3) := by decide +kernel
theorem dX12_race_100 : decode cX12_race 100 = .ok (.iconst 1, 1) := by decide +kernel
theorem dX12_race_101 : decode cX12_race 101 = .ok (.ireturn, 1) := by decide +kernel
theorem dX12_race_102 : decode cX12_race 102 = .ok (.iinc 7 1, 3) := by decide +kernel
theorem dX12_race_105 : decode cX12_race 105 = .ok (.goto (-47), 3) := by decide +kernel
theorem dX12_race_108 : decode cX12_race 108 = .ok (.iconst 0, 1) := by decide +kernel
theorem dX12_race_109 : decode cX12_race 109 = .ok (.ireturn, 1) := by decide +kernel
theorem dX12_isRace_0 : decode cX12_isRace 0 = .ok (.aload_n 0, 1) := by decide +kernel
theorem dX12_isRace_1 : decode cX12_isRace 1 = .ok (.aload_n 0, 1) := by decide +kernel
theorem dX12_isRace_2 : decode cX12_isRace 2 = .ok (.iload_n 1, 1) := by decide +kernel
theorem dX12_isRace_3 : decode cX12_isRace 3 = .ok (.invokevirtual 297, 3) := by decide +kernel
theorem dX12_isRace_6 : decode cX12_isRace 6 = .ok (.ifCond .eq 11, 3) := by decide +kernel
theorem dX12_isRace_9 : decode cX12_isRace 9 = .ok (.aload_n 0, 1) := by decide +kernel
theorem dX12_isRace_10 : decode cX12_isRace 10 = .ok (.iload_n 2, 1) := by decide +kernel
theorem dX12_isRace_11 : decode cX12_isRace 11 = .ok (.invokevirtual 297, 3) := by decide +kernel
theorem dX12_isRace_14 : decode cX12_isRace 14 = .ok (.ifCond .ne 7, 3) := by decide +kernel
theorem dX12_isRace_17 : decode cX12_isRace 17 = .ok (.iconst 1, 1) := by decide +kernel
theorem dX12_isRace_18 : decode cX12_isRace 18 = .ok (.goto 4, 3) := by decide +kernel
theorem dX12_isRace_21 : decode cX12_isRace 21 = .ok (.iconst 0, 1) := by decide +kernel
theorem dX12_isRace_22 : decode cX12_isRace 22 = .ok (.iconst 0, 1) := by decide +kernel
theorem dX12_isRace_23 : decode cX12_isRace 23 = .ok (.iconst 0, 1) := by decide +kernel
theorem dX12_isRace_24 : decode cX12_isRace 24 = .ok (.invokevirtual 300, 3) := by decide +kernel
theorem dX12_isRace_27 : decode cX12_isRace 27 = .ok (.ifCond .eq 5, 3) := by decide +kernel
theorem dX12_isRace_30 : decode cX12_isRace 30 = .ok (.iconst 0, 1) := by decide +kernel
theorem dX12_isRace_31 : decode cX12_isRace 31 = .ok (.ireturn, 1) := by decide +kernel
theorem dX12_isRace_32 : decode cX12_isRace 32 = .ok (.aload_n 0, 1) := by decide +kernel
theorem dX12_isRace_33 : decode cX12_isRace 33 = .ok (.iconst 0, 1) := by decide +kernel
theorem dX12_isRace_34 : decode cX12_isRace 34 = .ok (.invokevirtual 417, 3) := by decide +kernel
theorem dX12_isRace_37 : decode cX12_isRace 37 = .ok (.aload_n 0, 1) := by decide +kernel
theorem dX12_isRace_38 : decode cX12_isRace 38 = .ok (.iload_n 1, 1) := by decide +kernel
theorem dX12_isRace_39 : decode cX12_isRace 39 = .ok (.iload_n 2, 1) := by decide +kernel
theorem dX12_isRace_40 : decode cX12_isRace 40 = .ok (.invokevirtual 458, 3) := by decide +kernel
theorem dX12_isRace_43 : decode cX12_isRace 43 = .ok (.ireturn, 1) := by decide +kernel
theorem dX12_raceCount_0 : decode cX12_raceCount 0 = .ok (.aload_n 0, 1) := by decide +kernel
theorem dX12_raceCount_1 : decode cX12_raceCount 1 = .ok (.iconst 0, 1) := by decide +kernel
theorem dX12_raceCount_2 : decode cX12_raceCount 2 = .ok (.putfield 1, 3) := by decide +kernel
theorem dX12_raceCount_5 : decode cX12_raceCount 5 = .ok (.aload_n 0, 1) := by decide +kernel
theorem dX12_raceCount_6 : decode cX12_raceCount 6 = .ok (.iconst 0, 1) := by decide +kernel
theorem dX12_raceCount_7 : decode cX12_raceCount 7 = .ok (.invokevirtual 417, 3) := by decide +kernel
theorem dX12_raceCount_10 : decode cX12_raceCount 10 = .ok (.iconst 0, 1) := by decide +kernel
theorem dX12_raceCount_11 : decode cX12_raceCount 11 = .ok (.istore_n 1, 1) := by decide +kernel
theorem dX12_raceCount_12 : decode cX12_raceCount 12 = .ok (.iconst 0, 1) := by decide +kernel
theorem dX12_raceCount_13 : decode cX12_raceCount 13 = .ok (.istore_n 2, 1) := by decide +kernel
theorem dX12_raceCount_14 : decode cX12_raceCount 14 = .ok (.iload_n 2, 1) := by decide +kernel
theorem dX12_raceCount_15 : decode cX12_raceCount 15 = .ok (.aload_n 0, 1) := by decide +kernel
theorem dX12_raceCount_16 : decode cX12_raceCount 16 = .ok (.getfield 17, 3) := by decide +kernel
theorem dX12_raceCount_19 : decode cX12_raceCount 19 = .ok (.iconst 0, 1) := by decide +kernel
theorem dX12_raceCount_20 : decode cX12_raceCount 20 = .ok (.iaload, 1) := by decide +kernel
theorem dX12_raceCount_21 : decode cX12_raceCount 21 = .ok (.if_icmp .ge 46, 3) := by decide +kernel
theorem dX12_raceCount_24 : decode cX12_raceCount 24 = .ok (.iload_n 2, 1) := by decide +kernel
theorem dX12_raceCount_25 : decode cX12_raceCount 25 = .ok (.iconst 1, 1) := by decide +kernel
theorem dX12_raceCount_26 : decode cX12_raceCount 26 = .ok (.iadd, 1) := by decide +kernel
theorem dX12_raceCount_27 : decode cX12_raceCount 27 = .ok (.istore_n 3, 1) := by decide +kernel
theorem dX12_raceCount_28 : decode cX12_raceCount 28 = .ok (.iload_n 3, 1) := by decide +kernel
theorem dX12_raceCount_29 : decode cX12_raceCount 29 = .ok (.aload_n 0, 1) := by decide +kernel
theorem dX12_raceCount_30 : decode cX12_raceCount 30 = .ok (.getfield 17, 3) := by decide +kernel
theorem dX12_raceCount_33 : decode cX12_raceCount 33 = .ok (.iconst 0, 1) := by decide +kernel
theorem dX12_raceCount_34 : decode cX12_raceCount 34 = .ok (.iaload, 1) := by decide +kernel
theorem dX12_raceCount_35 : decode cX12_raceCount 35 = .ok (.if_icmp .ge 26, 3) := by decide +kernel
theorem dX12_raceCount_38 : decode cX12_raceCount 38 = .ok (.iload_n 1, 1) := by decide +kernel
theorem dX12_raceCount_39 : decode cX12_raceCount 39 = .ok (.aload_n 0, 1) := by decide +kernel
theorem dX12_raceCount_40 : decode cX12_raceCount 40 = .ok (.iload_n 2, 1) := by decide +kernel
theorem dX12_raceCount_41 : decode cX12_raceCount 41 = .ok (.iload_n 3, 1) := by decide +kernel
theorem dX12_raceCount_42 : decode cX12_raceCount 42 = .ok (.invokevirtual 458, 3) := by decide +kernel
theorem dX12_raceCount_45 : decode cX12_raceCount 45 = .ok (.ifCond .eq 7, 3) := by decide +kernel
theorem dX12_raceCount_48 : decode cX12_raceCount 48 = .ok (.iconst 1, 1) := by decide +kernel
theorem dX12_raceCount_49 : decode cX12_raceCount 49 = .ok (.goto 4, 3) := by decide +kernel
theorem dX12_raceCount_52 : decode cX12_raceCount 52 = .ok (.iconst 0, 1) := by decide +kernel
theorem dX12_raceCount_53 : decode cX12_raceCount 53 = .ok (.iadd, 1) := by decide +kernel
theorem dX12_raceCount_54 : decode cX12_raceCount 54 = .ok (.istore_n 1, 1) := by decide +kernel
theorem dX12_raceCount_55 : decode cX12_raceCount 55 = .ok (.iinc 3 1, 3) := by decide +kernel
theorem dX12_raceCount_58 : decode cX12_raceCount 58 = .ok (.goto (-30), 3) := by decide +kernel
theorem dX12_raceCount_61 : decode cX12_raceCount 61 = .ok (.iinc 2 1, 3) := by decide +kernel
theorem dX12_raceCount_64 : decode cX12_raceCount 64 = .ok (.goto (-50), 3) := by decide +kernel
theorem dX12_raceCount_67 : decode cX12_raceCount 67 = .ok (.iload_n 1, 1) := by decide +kernel
theorem dX12_raceCount_68 : decode cX12_raceCount 68 = .ok (.ireturn, 1) := by decide +kernel
theorem dX12_gapMany_0 : decode cX12_gapMany 0 = .ok (.iconst 0, 1) := by decide +kernel
theorem dX12_gapMany_1 : decode cX12_gapMany 1 = .ok (.istore_n 1, 1) := by decide +kernel
theorem dX12_gapMany_2 : decode cX12_gapMany 2 = .ok (.iconst 0, 1) := by decide +kernel
theorem dX12_gapMany_3 : decode cX12_gapMany 3 = .ok (.istore_n 2, 1) := by decide +kernel
theorem dX12_gapMany_4 : decode cX12_gapMany 4 = .ok (.iload_n 2, 1) := by decide +kernel
theorem dX12_gapMany_5 : decode cX12_gapMany 5 = .ok (.aload_n 0, 1) := by decide +kernel
theorem dX12_gapMany_6 : decode cX12_gapMany 6 = .ok (.getfield 17, 3) := by decide +kernel
theorem dX12_gapMany_9 : decode cX12_gapMany 9 = .ok (.iconst 0, 1) := by decide +kernel
theorem dX12_gapMany_10 : decode cX12_gapMany 10 = .ok (.iaload, 1) := by decide +kernel
theorem dX12_gapMany_11 : decode cX12_gapMany 11 = .ok (.if_icmp .ge 25, 3) := by decide +kernel
theorem dX12_gapMany_14 : decode cX12_gapMany 14 = .ok (.iload_n 1, 1) := by decide +kernel
theorem dX12_gapMany_15 : decode cX12_gapMany 15 = .ok (.aload_n 0, 1) := by decide +kernel
theorem dX12_gapMany_16 : decode cX12_gapMany 16 = .ok (.iload_n 2, 1) := by decide +kernel
theorem dX12_gapMany_17 : decode cX12_gapMany 17 = .ok (.invokevirtual 307, 3) := by decide +kernel
theorem dX12_gapMany_20 : decode cX12_gapMany 20 = .ok (.ifCond .eq 7, 3) := by decide +kernel
theorem dX12_gapMany_23 : decode cX12_gapMany 23 = .ok (.iconst 1, 1) := by decide +kernel
theorem dX12_gapMany_24 : decode cX12_gapMany 24 = .ok (.goto 4, 3) := by decide +kernel
theorem dX12_gapMany_27 : decode cX12_gapMany 27 = .ok (.iconst 0, 1) := by decide +kernel
theorem dX12_gapMany_28 : decode cX12_gapMany 28 = .ok (.iadd, 1) := by decide +kernel
theorem dX12_gapMany_29 : decode cX12_gapMany 29 = .ok (.istore_n 1, 1) := by decide +kernel
theorem dX12_gapMany_30 : decode cX12_gapMany 30 = .ok (.iinc 2 1, 3) := by decide +kernel
theorem dX12_gapMany_33 : decode cX12_gapMany 33 = .ok (.goto (-29), 3) := by decide +kernel
theorem dX12_gapMany_36 : decode cX12_gapMany 36 = .ok (.iload_n 1, 1) := by decide +kernel
theorem dX12_gapMany_37 : decode cX12_gapMany 37 = .ok (.ireturn, 1) := by decide +kernel
theorem dX12_gapAt_0 : decode cX12_gapAt 0 = .ok (.iload_n 1, 1) := by decide +kernel
theorem dX12_gapAt_1 : decode cX12_gapAt 1 = .ok (.istore_n 2, 1) := by decide +kernel
theorem dX12_gapAt_2 : decode cX12_gapAt 2 = .ok (.iconst 0, 1) := by decide +kernel
theorem dX12_gapAt_3 : decode cX12_gapAt 3 = .ok (.istore_n 3, 1) := by decide +kernel
theorem dX12_gapAt_4 : decode cX12_gapAt 4 = .ok (.iload_n 3, 1) := by decide +kernel
theorem dX12_gapAt_5 : decode cX12_gapAt 5 = .ok (.aload_n 0, 1) := by decide +kernel
theorem dX12_gapAt_6 : decode cX12_gapAt 6 = .ok (.getfield 17, 3) := by decide +kernel
theorem dX12_gapAt_9 : decode cX12_gapAt 9 = .ok (.iconst 0, 1) := by decide +kernel
theorem dX12_gapAt_10 : decode cX12_gapAt 10 = .ok (.iaload, 1) := by decide +kernel
theorem dX12_gapAt_11 : decode cX12_gapAt 11 = .ok (.if_icmp .ge 29, 3) := by decide +kernel
theorem dX12_gapAt_14 : decode cX12_gapAt 14 = .ok (.aload_n 0, 1) := by decide +kernel
theorem dX12_gapAt_15 : decode cX12_gapAt 15 = .ok (.iload_n 3, 1) := by decide +kernel
theorem dX12_gapAt_16 : decode cX12_gapAt 16 = .ok (.invokevirtual 307, 3) := by decide +kernel
theorem dX12_gapAt_19 : decode cX12_gapAt 19 = .ok (.ifCond .ne 6, 3) := by decide +kernel
theorem dX12_gapAt_22 : decode cX12_gapAt 22 = .ok (.goto 12, 3) := by decide +kernel
theorem dX12_gapAt_25 : decode cX12_gapAt 25 = .ok (.iload_n 2, 1) := by decide +kernel
theorem dX12_gapAt_26 : decode cX12_gapAt 26 = .ok (.ifCond .ne 5, 3) := by decide +kernel
theorem dX12_gapAt_29 : decode cX12_gapAt 29 = .ok (.iload_n 3, 1) := by decide +kernel
theorem dX12_gapAt_30 : decode cX12_gapAt 30 = .ok (.ireturn, 1) := by decide +kernel
theorem dX12_gapAt_31 : decode cX12_gapAt 31 = .ok (.iinc 2 (-1), 3) := by decide +kernel
theorem dX12_gapAt_34 : decode cX12_gapAt 34 = .ok (.iinc 3 1, 3) := by decide +kernel
theorem dX12_gapAt_37 : decode cX12_gapAt 37 = .ok (.goto (-33), 3) := by decide +kernel
theorem dX12_gapAt_40 : decode cX12_gapAt 40 = .ok (.iconst (-1), 1) := by decide +kernel
theorem dX12_gapAt_41 : decode cX12_gapAt 41 = .ok (.ireturn, 1) := by decide +kernel
theorem dX12_gapCount_0 : decode cX12_gapCount 0 = .ok (.aload_n 0, 1) := by decide +kernel
theorem dX12_gapCount_1 : decode cX12_gapCount 1 = .ok (.iconst 0, 1) := by decide +kernel
theorem dX12_gapCount_2 : decode cX12_gapCount 2 = .ok (.putfield 1, 3) := by decide +kernel
theorem dX12_gapCount_5 : decode cX12_gapCount 5 = .ok (.aload_n 0, 1) := by decide +kernel
theorem dX12_gapCount_6 : decode cX12_gapCount 6 = .ok (.invokevirtual 461, 3) := by decide +kernel
theorem dX12_gapCount_9 : decode cX12_gapCount 9 = .ok (.ireturn, 1) := by decide +kernel
theorem dX12_gapBefore_0 : decode cX12_gapBefore 0 = .ok (.aload_n 0, 1) := by decide +kernel
theorem dX12_gapBefore_1 : decode cX12_gapBefore 1 = .ok (.iconst 0, 1) := by decide +kernel
theorem dX12_gapBefore_2 : decode cX12_gapBefore 2 = .ok (.putfield 1, 3) := by decide +kernel
theorem dX12_gapBefore_5 : decode cX12_gapBefore 5 = .ok (.iload_n 1, 1) := by decide +kernel
theorem dX12_gapBefore_6 : decode cX12_gapBefore 6 = .ok (.ifCond .ge 7, 3) := by decide +kernel
theorem dX12_gapBefore_9 : decode cX12_gapBefore 9 = .ok (.iconst (-1), 1) := by decide +kernel
theorem dX12_gapBefore_10 : decode cX12_gapBefore 10 = .ok (.goto 8, 3) := by decide +kernel
theorem dX12_gapBefore_13 : decode cX12_gapBefore 13 = .ok (.aload_n 0, 1) := by decide +kernel
theorem dX12_gapBefore_14 : decode cX12_gapBefore 14 = .ok (.iload_n 1, 1) := by decide +kernel
theorem dX12_gapBefore_15 : decode cX12_gapBefore 15 = .ok (.invokevirtual 464, 3) := by decide +kernel
theorem dX12_gapBefore_18 : decode cX12_gapBefore 18 = .ok (.ireturn, 1) := by decide +kernel
theorem dX12_matchesWith_0 : decode cX12_matchesWith 0 = .ok (.aload_n 0, 1) := by decide +kernel
theorem dX12_matchesWith_1 : decode cX12_matchesWith 1 = .ok (.aload_n 0, 1) := by decide +kernel
theorem dX12_matchesWith_2 : decode cX12_matchesWith 2 = .ok (.iload_n 1, 1) := by decide +kernel
theorem dX12_matchesWith_3 : decode cX12_matchesWith 3 = .ok (.invokevirtual 414, 3) := by decide +kernel
theorem dX12_matchesWith_6 : decode cX12_matchesWith 6 = .ok (.ifCond .ne 17, 3) := by decide +kernel
theorem dX12_matchesWith_9 : decode cX12_matchesWith 9 = .ok (.iload_n 2, 1) := by decide +kernel
theorem dX12_matchesWith_10 : decode cX12_matchesWith 10 = .ok (.ifCond .lt 13, 3) := by decide +kernel
theorem dX12_matchesWith_13 : decode cX12_matchesWith 13 = .ok (.iload_n 2, 1) := by decide +kernel
theorem dX12_matchesWith_14 : decode cX12_matchesWith 14 = .ok (.iconst 1, 1) := by decide +kernel
theorem dX12_matchesWith_15 : decode cX12_matchesWith 15 = .ok (.aload_n 0, 1) := by decide +kernel
theorem dX12_matchesWith_16 : decode cX12_matchesWith 16 = .ok (.invokevirtual 461, 3) := by decide +kernel
theorem dX12_matchesWith_19 : decode cX12_matchesWith 19 = .ok (.ishl, 1) := by decide +kernel
theorem dX12_matchesWith_20 : decode cX12_matchesWith 20 = .ok (.if_icmp .lt 7, 3) := by decide +kernel
theorem dX12_matchesWith_23 : decode cX12_matchesWith 23 = .ok (.iconst 1, 1) := by decide +kernel
theorem dX12_matchesWith_24 : decode cX12_matchesWith 24 = .ok (.goto 4, 3) := by decide +kernel
theorem dX12_matchesWith_27 : decode cX12_matchesWith 27 = .ok (.iconst 0, 1) := by decide +kernel
theorem dX12_matchesWith_28 : decode cX12_matchesWith 28 = .ok (.iconst 0, 1) := by decide +kernel
theorem dX12_matchesWith_29 : decode cX12_matchesWith 29 = .ok (.iconst 0, 1) := by decide +kernel
theorem dX12_matchesWith_30 : decode cX12_matchesWith 30 = .ok (.invokevirtual 300, 3) := by decide +kernel
theorem dX12_matchesWith_33 : decode cX12_matchesWith 33 = .ok (.ifCond .eq 5, 3) := by decide +kernel
theorem dX12_matchesWith_36 : decode cX12_matchesWith 36 = .ok (.iconst 0, 1) := by decide +kernel
theorem dX12_matchesWith_37 : decode cX12_matchesWith 37 = .ok (.ireturn, 1) := by decide +kernel
theorem dX12_matchesWith_38 : decode cX12_matchesWith 38 = .ok (.aload_n 0, 1) := by decide +kernel
theorem dX12_matchesWith_39 : decode cX12_matchesWith 39 = .ok (.iload_n 2, 1) := by decide +kernel
theorem dX12_matchesWith_40 : decode cX12_matchesWith 40 = .ok (.iconst (-1), 1) := by decide +kernel
theorem dX12_matchesWith_41 : decode cX12_matchesWith 41 = .ok (.invokevirtual 408, 3) := by decide +kernel
theorem dX12_matchesWith_44 : decode cX12_matchesWith 44 = .ok (.aload_n 0, 1) := by decide +kernel
theorem dX12_matchesWith_45 : decode cX12_matchesWith 45 = .ok (.iload_n 1, 1) := by decide +kernel
theorem dX12_matchesWith_46 : decode cX12_matchesWith 46 = .ok (.invokevirtual 411, 3) := by decide +kernel
theorem dX12_matchesWith_49 : decode cX12_matchesWith 49 = .ok (.aload_n 0, 1) := by decide +kernel
theorem dX12_matchesWith_50 : decode cX12_matchesWith 50 = .ok (.invokevirtual 438, 3) := by decide +kernel
theorem dX12_matchesWith_53 : decode cX12_matchesWith 53 = .ok (.ireturn, 1) := by decide +kernel
theorem dX12_bitsOf_0 : decode cX12_bitsOf 0 = .ok (.iconst 0, 1) := by decide +kernel
theorem dX12_bitsOf_1 : decode cX12_bitsOf 1 = .ok (.istore_n 1, 1) := by decide +kernel
theorem dX12_bitsOf_2 : decode cX12_bitsOf 2 = .ok (.iload_n 0, 1) := by decide +kernel
theorem dX12_bitsOf_3 : decode cX12_bitsOf 3 = .ok (.istore_n 2, 1) := by decide +kernel
theorem dX12_bitsOf_4 : decode cX12_bitsOf 4 = .ok (.iload_n 2, 1) := by decide +kernel
theorem dX12_bitsOf_5 : decode cX12_bitsOf 5 = .ok (.ifCond .eq 15, 3) := by decide +kernel
theorem dX12_bitsOf_8 : decode cX12_bitsOf 8 = .ok (.iinc 1 1, 3) := by decide +kernel
theorem dX12_bitsOf_11 : decode cX12_bitsOf 11 = .ok (.iload_n 2, 1) := by decide +kernel
theorem dX12_bitsOf_12 : decode cX12_bitsOf 12 = .ok (.iload_n 2, 1) := by decide +kernel
theorem dX12_bitsOf_13 : decode cX12_bitsOf 13 = .ok (.iconst 1, 1) := by decide +kernel
theorem dX12_bitsOf_14 : decode cX12_bitsOf 14 = .ok (.isub, 1) := by decide +kernel
theorem dX12_bitsOf_15 : decode cX12_bitsOf 15 = .ok (.iand, 1) := by decide +kernel
theorem dX12_bitsOf_16 : decode cX12_bitsOf 16 = .ok (.istore_n 2, 1) := by decide +kernel
theorem dX12_bitsOf_17 : decode cX12_bitsOf 17 = .ok (.goto (-13), 3) := by decide +kernel
theorem dX12_bitsOf_20 : decode cX12_bitsOf 20 = .ok (.iload_n 1, 1) := by decide +kernel
theorem dX12_bitsOf_21 : decode cX12_bitsOf 21 = .ok (.ireturn, 1) := by decide +kernel
theorem dX12_areOthers_0 : decode cX12_areOthers 0 = .ok (.aload_n 0, 1) := by decide +kernel
theorem dX12_areOthers_1 : decode cX12_areOthers 1 = .ok (.getfield 395, 3) := by decide +kernel
theorem dX12_areOthers_4 : decode cX12_areOthers 4 = .ok (.aload_n 0, 1) := by decide +kernel
theorem dX12_areOthers_5 : decode cX12_areOthers 5 = .ok (.getfield 423, 3) := by decide +kernel
theorem dX12_areOthers_8 : decode cX12_areOthers 8 = .ok (.if_icmp .eq 5, 3) := by decide +kernel
theorem dX12_areOthers_11 : decode cX12_areOthers 11 = .ok (.iconst 0, 1) := by decide +kernel
theorem dX12_areOthers_12 : decode cX12_areOthers 12 = .ok (.ireturn, 1) := by decide +kernel
theorem dX12_areOthers_13 : decode cX12_areOthers 13 = .ok (.iconst 0, 1) := by decide +kernel
theorem dX12_areOthers_14 : decode cX12_areOthers 14 = .ok (.istore_n 1, 1) := by decide +kernel
theorem dX12_areOthers_15 : decode cX12_areOthers 15 = .ok (.iload_n 1, 1) := by decide +kernel
theorem dX12_areOthers_16 : decode cX12_areOthers 16 = .ok (.aload_n 0, 1) := by decide +kernel
theorem dX12_areOthers_17 : decode cX12_areOthers 17 = .ok (.getfield 395, 3) := by decide +kernel
theorem dX12_areOthers_20 : decode cX12_areOthers 20 = .ok (.if_icmp .ge 26, 3) := by decide +kernel
theorem dX12_areOthers_23 : decode cX12_areOthers 23 = .ok (.aload_n 0, 1) := by decide +kernel
theorem dX12_areOthers_24 : decode cX12_areOthers 24 = .ok (.getfield 82, 3) := by decide +kernel
theorem dX12_areOthers_27 : decode cX12_areOthers 27 = .ok (.iload_n 1, 1) := by decide +kernel
theorem dX12_areOthers_28 : decode cX12_areOthers 28 = .ok (.iaload, 1) := by decide +kernel
theorem dX12_areOthers_29 : decode cX12_areOthers 29 = .ok (.aload_n 0, 1) := by decide +kernel
theorem dX12_areOthers_30 : decode cX12_areOthers 30 = .ok (.getfield 85, 3) := by decide +kernel
theorem dX12_areOthers_33 : decode cX12_areOthers 33 = .ok (.iload_n 1, 1) := by decide +kernel
theorem dX12_areOthers_34 : decode cX12_areOthers 34 = .ok (.iaload, 1) := by decide +kernel
theorem dX12_areOthers_35 : decode cX12_areOthers 35 = .ok (.if_icmp .eq 5, 3) := by decide +kernel
theorem dX12_areOthers_38 : decode cX12_areOthers 38 = .ok (.iconst 0, 1) := by decide +kernel
theorem dX12_areOthers_39 : decode cX12_areOthers 39 = .ok (.ireturn, 1) := by decide +kernel
theorem dX12_areOthers_40 : decode cX12_areOthers 40 = .ok (.iinc 1 1, 3) := by decide +kernel
theorem dX12_areOthers_43 : decode cX12_areOthers 43 = .ok (.goto (-28), 3) := by decide +kernel
theorem dX12_areOthers_46 : decode cX12_areOthers 46 = .ok (.iconst 1, 1) := by decide +kernel
theorem dX12_areOthers_47 : decode cX12_areOthers 47 = .ok (.ireturn, 1) := by decide +kernel
theorem dX12_fewest_0 : decode cX12_fewest 0 = .ok (.iconst 1, 1) := by decide +kernel
theorem dX12_fewest_1 : decode cX12_fewest 1 = .ok (.aload_n 0, 1) := by decide +kernel
theorem dX12_fewest_2 : decode cX12_fewest 2 = .ok (.invokevirtual 461, 3) := by decide +kernel
theorem dX12_fewest_5 : decode cX12_fewest 5 = .ok (.ishl, 1) := by decide +kernel
theorem dX12_fewest_6 : decode cX12_fewest 6 = .ok (.istore_n 3, 1) := by decide +kernel
theorem dX12_fewest_7 : decode cX12_fewest 7 = .ok (.iconst 0, 1) := by decide +kernel
theorem dX12_fewest_8 : decode cX12_fewest 8 = .ok (.istore 4, 2) := by decide +kernel
theorem dX12_fewest_10 : decode cX12_fewest 10 = .ok (.iload 4, 2) := by decide +kernel
theorem dX12_fewest_12 : decode cX12_fewest 12 = .ok (.bipush 8, 2) := by decide +kernel
theorem dX12_fewest_14 : decode cX12_fewest 14 = .ok (.if_icmp .gt 73, 3) := by decide +kernel
theorem dX12_fewest_17 : decode cX12_fewest 17 = .ok (.iconst 0, 1) := by decide +kernel
theorem dX12_fewest_18 : decode cX12_fewest 18 = .ok (.istore 5, 2) := by decide +kernel
theorem dX12_fewest_20 : decode cX12_fewest 20 = .ok (.iload 5, 2) := by decide +kernel
theorem dX12_fewest_22 : decode cX12_fewest 22 = .ok (.iload_n 3, 1) := by decide +kernel
theorem dX12_fewest_23 : decode cX12_fewest 23 = .ok (.if_icmp .ge 58, 3) := by decide +kernel
theorem dX12_fewest_26 : decode cX12_fewest 26 = .ok (.iload 5, 2) := by decide +kernel
theorem dX12_fewest_28 : decode cX12_fewest 28 = .ok (.invokestatic 467, 3) := by decide +kernel
theorem dX12_fewest_31 : decode cX12_fewest 31 = .ok (.iload 4, 2) := by decide +kernel
theorem dX12_fewest_33 : decode cX12_fewest 33 = .ok (.if_icmp .eq 6, 3) := by decide +kernel
theorem dX12_fewest_36 : decode cX12_fewest 36 = .ok (.goto 39, 3) := by decide +kernel
theorem dX12_fewest_39 : decode cX12_fewest 39 = .ok (.aload_n 0, 1) := by decide +kernel
theorem dX12_fewest_40 : decode cX12_fewest 40 = .ok (.iload 5, 2) := by decide +kernel
theorem dX12_fewest_42 : decode cX12_fewest 42 = .ok (.iconst (-1), 1) := by decide +kernel
theorem dX12_fewest_43 : decode cX12_fewest 43 = .ok (.invokevirtual 408, 3) := by decide +kernel
theorem dX12_fewest_46 : decode cX12_fewest 46 = .ok (.aload_n 0, 1) := by decide +kernel
theorem dX12_fewest_47 : decode cX12_fewest 47 = .ok (.iload_n 1, 1) := by decide +kernel
theorem dX12_fewest_48 : decode cX12_fewest 48 = .ok (.invokevirtual 411, 3) := by decide +kernel
theorem dX12_fewest_51 : decode cX12_fewest 51 = .ok (.iload_n 2, 1) := by decide +kernel
theorem dX12_fewest_52 : decode cX12_fewest 52 = .ok (.ifCond .eq 13, 3) := by decide +kernel
theorem dX12_fewest_55 : decode cX12_fewest 55 = .ok (.aload_n 0, 1) := by decide +kernel
theorem dX12_fewest_56 : decode cX12_fewest 56 = .ok (.invokevirtual 470, 3) := by decide +kernel
theorem dX12_fewest_59 : decode cX12_fewest 59 = .ok (.ifCond .eq 16, 3) := by decide +kernel
theorem dX12_fewest_62 : decode cX12_fewest 62 = .ok (.goto 10, 3) := by decide +kernel
theorem dX12_fewest_65 : decode cX12_fewest 65 = .ok (.aload_n 0, 1) := by decide +kernel
theorem dX12_fewest_66 : decode cX12_fewest 66 = .ok (.invokevirtual 438, 3) := by decide +kernel
theorem dX12_fewest_69 : decode cX12_fewest 69 = .ok (.ifCond .ne 6, 3) := by decide +kernel
theorem dX12_fewest_72 : decode cX12_fewest 72 = .ok (.iload 5, 2) := by decide +kernel
theorem dX12_fewest_74 : decode cX12_fewest 74 = .ok (.ireturn, 1) := by decide +kernel
theorem dX12_fewest_75 : decode cX12_fewest 75 = .ok (.iinc 5 1, 3) := by decide +kernel
theorem dX12_fewest_78 : decode cX12_fewest 78 = .ok (.goto (-58), 3) := by decide +kernel
theorem dX12_fewest_81 : decode cX12_fewest 81 = .ok (.iinc 4 1, 3) := by decide +kernel
theorem dX12_fewest_84 : decode cX12_fewest 84 = .ok (.goto (-74), 3) := by decide +kernel
theorem dX12_fewest_87 : decode cX12_fewest 87 = .ok (.iconst (-1), 1) := by decide +kernel
theorem dX12_fewest_88 : decode cX12_fewest 88 = .ok (.ireturn, 1) := by decide +kernel
theorem dX12_fewestFences_0 : decode cX12_fewestFences 0 = .ok (.aload_n 0, 1) := by decide +kernel
theorem dX12_fewestFences_1 : decode cX12_fewestFences 1 = .ok (.aload_n 0, 1) := by decide +kernel
theorem dX12_fewestFences_2 : decode cX12_fewestFences 2 = .ok (.iload_n 1, 1) := by decide +kernel
theorem dX12_fewestFences_3 : decode cX12_fewestFences 3 = .ok (.invokevirtual 414, 3) := by decide +kernel
theorem dX12_fewestFences_6 : decode cX12_fewestFences 6 = .ok (.iconst 0, 1) := by decide +kernel
theorem dX12_fewestFences_7 : decode cX12_fewestFences 7 = .ok (.iconst 0, 1) := by decide +kernel
theorem dX12_fewestFences_8 : decode cX12_fewestFences 8 = .ok (.invokevirtual 300, 3) := by decide +kernel
theorem dX12_fewestFences_11 : decode cX12_fewestFences 11 = .ok (.ifCond .eq 7, 3) := by decide +kernel
theorem dX12_fewestFences_14 : decode cX12_fewestFences 14 = .ok (.iconst 0, 1) := by decide +kernel
theorem dX12_fewestFences_15 : decode cX12_fewestFences 15 = .ok (.goto 9, 3) := by decide +kernel
theorem dX12_fewestFences_18 : decode cX12_fewestFences 18 = .ok (.aload_n 0, 1) := by decide +kernel
theorem dX12_fewestFences_19 : decode cX12_fewestFences 19 = .ok (.iload_n 1, 1) := by decide +kernel
theorem dX12_fewestFences_20 : decode cX12_fewestFences 20 = .ok (.iconst 0, 1) := by decide +kernel
theorem dX12_fewestFences_21 : decode cX12_fewestFences 21 = .ok (.invokevirtual 473, 3) := by decide +kernel
theorem dX12_fewestFences_24 : decode cX12_fewestFences 24 = .ok (.ireturn, 1) := by decide +kernel
theorem dX12_repairingFences_0 : decode cX12_repairingFences 0 = .ok (.aload_n 0, 1) := by decide +kernel
theorem dX12_repairingFences_1 : decode cX12_repairingFences 1 = .ok (.aload_n 0, 1) := by decide +kernel
theorem dX12_repairingFences_2 : decode cX12_repairingFences 2 = .ok (.iload_n 1, 1) := by decide +kernel
theorem dX12_repairingFences_3 : decode cX12_repairingFences 3 = .ok (.invokevirtual 414, 3) := by decide +kernel
theorem dX12_repairingFences_6 : decode cX12_repairingFences 6 = .ok (.iconst 0, 1) := by decide +kernel
theorem dX12_repairingFences_7 : decode cX12_repairingFences 7 = .ok (.iconst 0, 1) := by decide +kernel
theorem dX12_repairingFences_8 : decode cX12_repairingFences 8 = .ok (.invokevirtual 300, 3) := by decide +kernel
theorem dX12_repairingFences_11 : decode cX12_repairingFences 11 = .ok (.ifCond .eq 5, 3) := by decide +kernel
theorem dX12_repairingFences_14 : decode cX12_repairingFences 14 = .ok (.iconst 0, 1) := by decide +kernel
theorem dX12_repairingFences_15 : decode cX12_repairingFences 15 = .ok (.ireturn, 1) := by decide +kernel
theorem dX12_repairingFences_16 : decode cX12_repairingFences 16 = .ok (.aload_n 0, 1) := by decide +kernel
theorem dX12_repairingFences_17 : decode cX12_repairingFences 17 = .ok (.iconst 0, 1) := by decide +kernel
theorem dX12_repairingFences_18 : decode cX12_repairingFences 18 = .ok (.invokevirtual 417, 3) := by decide +kernel
theorem dX12_repairingFences_21 : decode cX12_repairingFences 21 = .ok (.aload_n 0, 1) := by decide +kernel
theorem dX12_repairingFences_22 : decode cX12_repairingFences 22 = .ok (.invokevirtual 426, 3) := by decide +kernel
theorem dX12_repairingFences_25 : decode cX12_repairingFences 25 = .ok (.aload_n 0, 1) := by decide +kernel
theorem dX12_repairingFences_26 : decode cX12_repairingFences 26 = .ok (.iload_n 1, 1) := by decide +kernel
theorem dX12_repairingFences_27 : decode cX12_repairingFences 27 = .ok (.iconst 1, 1) := by decide +kernel
theorem dX12_repairingFences_28 : decode cX12_repairingFences 28 = .ok (.invokevirtual 473, 3) := by decide +kernel
theorem dX12_repairingFences_31 : decode cX12_repairingFences 31 = .ok (.ireturn, 1) := by decide +kernel
theorem dX12_isFence_0 : decode cX12_isFence 0 = .ok (.aload_n 0, 1) := by decide +kernel
theorem dX12_isFence_1 : decode cX12_isFence 1 = .ok (.iload_n 1, 1) := by decide +kernel
theorem dX12_isFence_2 : decode cX12_isFence 2 = .ok (.invokevirtual 297, 3) := by decide +kernel
theorem dX12_isFence_5 : decode cX12_isFence 5 = .ok (.ifCond .eq 17, 3) := by decide +kernel
theorem dX12_isFence_8 : decode cX12_isFence 8 = .ok (.aload_n 0, 1) := by decide +kernel
theorem dX12_isFence_9 : decode cX12_isFence 9 = .ok (.iload_n 1, 1) := by decide +kernel
theorem dX12_isFence_10 : decode cX12_isFence 10 = .ok (.iconst 1, 1) := by decide +kernel
theorem dX12_isFence_11 : decode cX12_isFence 11 = .ok (.invokevirtual 304, 3) := by decide +kernel
theorem dX12_isFence_14 : decode cX12_isFence 14 = .ok (.iconst 3, 1) := by decide +kernel
theorem dX12_isFence_15 : decode cX12_isFence 15 = .ok (.if_icmp .ne 7, 3) := by decide +kernel
theorem dX12_isFence_18 : decode cX12_isFence 18 = .ok (.iconst 1, 1) := by decide +kernel
theorem dX12_isFence_19 : decode cX12_isFence 19 = .ok (.goto 4, 3) := by decide +kernel
theorem dX12_isFence_22 : decode cX12_isFence 22 = .ok (.iconst 0, 1) := by decide +kernel
theorem dX12_isFence_23 : decode cX12_isFence 23 = .ok (.ireturn, 1) := by decide +kernel
theorem dX12_isFenceNeeded_0 : decode cX12_isFenceNeeded 0 = .ok (.aload_n 0, 1) := by decide +kernel
theorem dX12_isFenceNeeded_1 : decode cX12_isFenceNeeded 1 = .ok (.aload_n 0, 1) := by decide +kernel
theorem dX12_isFenceNeeded_2 : decode cX12_isFenceNeeded 2 = .ok (.iload_n 1, 1) := by decide +kernel
theorem dX12_isFenceNeeded_3 : decode cX12_isFenceNeeded 3 = .ok (.invokevirtual 414, 3) := by decide +kernel
theorem dX12_isFenceNeeded_6 : decode cX12_isFenceNeeded 6 = .ok (.aload_n 0, 1) := by decide +kernel
theorem dX12_isFenceNeeded_7 : decode cX12_isFenceNeeded 7 = .ok (.iload_n 2, 1) := by decide +kernel
theorem dX12_isFenceNeeded_8 : decode cX12_isFenceNeeded 8 = .ok (.invokevirtual 297, 3) := by decide +kernel
theorem dX12_isFenceNeeded_11 : decode cX12_isFenceNeeded 11 = .ok (.ifCond .ne 7, 3) := by decide +kernel
theorem dX12_isFenceNeeded_14 : decode cX12_isFenceNeeded 14 = .ok (.iconst 1, 1) := by decide +kernel
theorem dX12_isFenceNeeded_15 : decode cX12_isFenceNeeded 15 = .ok (.goto 4, 3) := by decide +kernel
theorem dX12_isFenceNeeded_18 : decode cX12_isFenceNeeded 18 = .ok (.iconst 0, 1) := by decide +kernel
theorem dX12_isFenceNeeded_19 : decode cX12_isFenceNeeded 19 = .ok (.aload_n 0, 1) := by decide +kernel
theorem dX12_isFenceNeeded_20 : decode cX12_isFenceNeeded 20 = .ok (.iload_n 2, 1) := by decide +kernel
theorem dX12_isFenceNeeded_21 : decode cX12_isFenceNeeded 21 = .ok (.invokevirtual 476, 3) := by decide +kernel
theorem dX12_isFenceNeeded_24 : decode cX12_isFenceNeeded 24 = .ok (.ifCond .ne 7, 3) := by decide +kernel
theorem dX12_isFenceNeeded_27 : decode cX12_isFenceNeeded 27 = .ok (.iconst 1, 1) := by decide +kernel
theorem dX12_isFenceNeeded_28 : decode cX12_isFenceNeeded 28 = .ok (.goto 4, 3) := by decide +kernel
theorem dX12_isFenceNeeded_31 : decode cX12_isFenceNeeded 31 = .ok (.iconst 0, 1) := by decide +kernel
theorem dX12_isFenceNeeded_32 : decode cX12_isFenceNeeded 32 = .ok (.invokevirtual 300, 3) := by decide +kernel
theorem dX12_isFenceNeeded_35 : decode cX12_isFenceNeeded 35 = .ok (.ifCond .eq 5, 3) := by decide +kernel
theorem dX12_isFenceNeeded_38 : decode cX12_isFenceNeeded 38 = .ok (.iconst 0, 1) := by decide +kernel
theorem dX12_isFenceNeeded_39 : decode cX12_isFenceNeeded 39 = .ok (.ireturn, 1) := by decide +kernel
theorem dX12_isFenceNeeded_40 : decode cX12_isFenceNeeded 40 = .ok (.aload_n 0, 1) := by decide +kernel
theorem dX12_isFenceNeeded_41 : decode cX12_isFenceNeeded 41 = .ok (.iload_n 1, 1) := by decide +kernel
theorem dX12_isFenceNeeded_42 : decode cX12_isFenceNeeded 42 = .ok (.invokevirtual 417, 3) := by decide +kernel
theorem dX12_isFenceNeeded_45 : decode cX12_isFenceNeeded 45 = .ok (.aload_n 0, 1) := by decide +kernel
theorem dX12_isFenceNeeded_46 : decode cX12_isFenceNeeded 46 = .ok (.invokevirtual 426, 3) := by decide +kernel
theorem dX12_isFenceNeeded_49 : decode cX12_isFenceNeeded 49 = .ok (.aload_n 0, 1) := by decide +kernel
theorem dX12_isFenceNeeded_50 : decode cX12_isFenceNeeded 50 = .ok (.iconst 0, 1) := by decide +kernel
theorem dX12_isFenceNeeded_51 : decode cX12_isFenceNeeded 51 = .ok (.iload_n 2, 1) := by decide +kernel
theorem dX12_isFenceNeeded_52 : decode cX12_isFenceNeeded 52 = .ok (.invokevirtual 408, 3) := by decide +kernel
theorem dX12_isFenceNeeded_55 : decode cX12_isFenceNeeded 55 = .ok (.aload_n 0, 1) := by decide +kernel
theorem dX12_isFenceNeeded_56 : decode cX12_isFenceNeeded 56 = .ok (.iload_n 1, 1) := by decide +kernel
theorem dX12_isFenceNeeded_57 : decode cX12_isFenceNeeded 57 = .ok (.invokevirtual 411, 3) := by decide +kernel
theorem dX12_isFenceNeeded_60 : decode cX12_isFenceNeeded 60 = .ok (.aload_n 0, 1) := by decide +kernel
theorem dX12_isFenceNeeded_61 : decode cX12_isFenceNeeded 61 = .ok (.invokevirtual 470, 3) := by decide +kernel
theorem dX12_isFenceNeeded_64 : decode cX12_isFenceNeeded 64 = .ok (.ifCond .ne 7, 3) := by decide +kernel
theorem dX12_isFenceNeeded_67 : decode cX12_isFenceNeeded 67 = .ok (.iconst 1, 1) := by decide +kernel
theorem dX12_isFenceNeeded_68 : decode cX12_isFenceNeeded 68 = .ok (.goto 4, 3) := by decide +kernel
theorem dX12_isFenceNeeded_71 : decode cX12_isFenceNeeded 71 = .ok (.iconst 0, 1) := by decide +kernel
theorem dX12_isFenceNeeded_72 : decode cX12_isFenceNeeded 72 = .ok (.ireturn, 1) := by decide +kernel
theorem dX12_insertFence_0 : decode cX12_insertFence 0 = .ok (.aload_n 0, 1) := by decide +kernel
theorem dX12_insertFence_1 : decode cX12_insertFence 1 = .ok (.iconst 0, 1) := by decide +kernel
theorem dX12_insertFence_2 : decode cX12_insertFence 2 = .ok (.putfield 1, 3) := by decide +kernel
theorem dX12_insertFence_5 : decode cX12_insertFence 5 = .ok (.iload_n 1, 1) := by decide +kernel
theorem dX12_insertFence_6 : decode cX12_insertFence 6 = .ok (.ifCond .ge 7, 3) := by decide +kernel
theorem dX12_insertFence_9 : decode cX12_insertFence 9 = .ok (.iconst (-1), 1) := by decide +kernel
theorem dX12_insertFence_10 : decode cX12_insertFence 10 = .ok (.goto 8, 3) := by decide +kernel
theorem dX12_insertFence_13 : decode cX12_insertFence 13 = .ok (.aload_n 0, 1) := by decide +kernel
theorem dX12_insertFence_14 : decode cX12_insertFence 14 = .ok (.iload_n 1, 1) := by decide +kernel
theorem dX12_insertFence_15 : decode cX12_insertFence 15 = .ok (.invokevirtual 464, 3) := by decide +kernel
theorem dX12_insertFence_18 : decode cX12_insertFence 18 = .ok (.istore_n 2, 1) := by decide +kernel
theorem dX12_insertFence_19 : decode cX12_insertFence 19 = .ok (.iconst 0, 1) := by decide +kernel
theorem dX12_insertFence_20 : decode cX12_insertFence 20 = .ok (.istore_n 3, 1) := by decide +kernel
theorem dX12_insertFence_21 : decode cX12_insertFence 21 = .ok (.iconst 0, 1) := by decide +kernel
theorem dX12_insertFence_22 : decode cX12_insertFence 22 = .ok (.istore 4, 2) := by decide +kernel
theorem dX12_insertFence_24 : decode cX12_insertFence 24 = .ok (.iload 4, 2) := by decide +kernel
theorem dX12_insertFence_26 : decode cX12_insertFence 26 = .ok (.aload_n 0, 1) := by decide +kernel
theorem dX12_insertFence_27 : decode cX12_insertFence 27 = .ok (.getfield 17, 3) := by decide +kernel
theorem dX12_insertFence_30 : decode cX12_insertFence 30 = .ok (.iconst 0, 1) := by decide +kernel
theorem dX12_insertFence_31 : decode cX12_insertFence 31 = .ok (.iaload, 1) := by decide +kernel
theorem dX12_insertFence_32 : decode cX12_insertFence 32 = .ok (.if_icmp .ge 38, 3) := by decide +kernel
theorem dX12_insertFence_35 : decode cX12_insertFence 35 = .ok (.iload_n 2, 1) := by decide +kernel
theorem dX12_insertFence_36 : decode cX12_insertFence 36 = .ok (.iconst (-1), 1) := by decide +kernel
theorem dX12_insertFence_37 : decode cX12_insertFence 37 = .ok (.if_icmp .eq 33, 3) := by decide +kernel
theorem dX12_insertFence_40 : decode cX12_insertFence 40 = .ok (.iload_n 3, 1) := by decide +kernel
theorem dX12_insertFence_41 : decode cX12_insertFence 41 = .ok (.aload_n 0, 1) := by decide +kernel
theorem dX12_insertFence_42 : decode cX12_insertFence 42 = .ok (.iload 4, 2) := by decide +kernel
theorem dX12_insertFence_44 : decode cX12_insertFence 44 = .ok (.iconst 0, 1) := by decide +kernel
theorem dX12_insertFence_45 : decode cX12_insertFence 45 = .ok (.invokevirtual 304, 3) := by decide +kernel
theorem dX12_insertFence_48 : decode cX12_insertFence 48 = .ok (.aload_n 0, 1) := by decide +kernel
theorem dX12_insertFence_49 : decode cX12_insertFence 49 = .ok (.iload_n 2, 1) := by decide +kernel
theorem dX12_insertFence_50 : decode cX12_insertFence 50 = .ok (.iconst 0, 1) := by decide +kernel
theorem dX12_insertFence_51 : decode cX12_insertFence 51 = .ok (.invokevirtual 304, 3) := by decide +kernel
theorem dX12_insertFence_54 : decode cX12_insertFence 54 = .ok (.if_icmp .ne 7, 3) := by decide +kernel
theorem dX12_insertFence_57 : decode cX12_insertFence 57 = .ok (.iconst 1, 1) := by decide +kernel
theorem dX12_insertFence_58 : decode cX12_insertFence 58 = .ok (.goto 4, 3) := by decide +kernel
theorem dX12_insertFence_61 : decode cX12_insertFence 61 = .ok (.iconst 0, 1) := by decide +kernel
theorem dX12_insertFence_62 : decode cX12_insertFence 62 = .ok (.iadd, 1) := by decide +kernel
theorem dX12_insertFence_63 : decode cX12_insertFence 63 = .ok (.istore_n 3, 1) := by decide +kernel
theorem dX12_insertFence_64 : decode cX12_insertFence 64 = .ok (.iinc 4 1, 3) := by decide +kernel
theorem dX12_insertFence_67 : decode cX12_insertFence 67 = .ok (.goto (-43), 3) := by decide +kernel
theorem dX12_insertFence_70 : decode cX12_insertFence 70 = .ok (.aload_n 0, 1) := by decide +kernel
theorem dX12_insertFence_71 : decode cX12_insertFence 71 = .ok (.iload_n 2, 1) := by decide +kernel
theorem dX12_insertFence_72 : decode cX12_insertFence 72 = .ok (.iconst (-1), 1) := by decide +kernel
theorem dX12_insertFence_73 : decode cX12_insertFence 73 = .ok (.if_icmp .ne 7, 3) := by decide +kernel
theorem dX12_insertFence_76 : decode cX12_insertFence 76 = .ok (.iconst 1, 1) := by decide +kernel
theorem dX12_insertFence_77 : decode cX12_insertFence 77 = .ok (.goto 4, 3) := by decide +kernel
theorem dX12_insertFence_80 : decode cX12_insertFence 80 = .ok (.iconst 0, 1) := by decide +kernel
theorem dX12_insertFence_81 : decode cX12_insertFence 81 = .ok (.iload_n 3, 1) := by decide +kernel
theorem dX12_insertFence_82 : decode cX12_insertFence 82 = .ok (.bipush 7, 2) := by decide +kernel
theorem dX12_insertFence_84 : decode cX12_insertFence 84 = .ok (.if_icmp .eq 14, 3) := by decide +kernel
theorem dX12_insertFence_87 : decode cX12_insertFence 87 = .ok (.aload_n 0, 1) := by decide +kernel
theorem dX12_insertFence_88 : decode cX12_insertFence 88 = .ok (.getfield 17, 3) := by decide +kernel
theorem dX12_insertFence_91 : decode cX12_insertFence 91 = .ok (.iconst 0, 1) := by decide +kernel
theorem dX12_insertFence_92 : decode cX12_insertFence 92 = .ok (.iaload, 1) := by decide +kernel
theorem dX12_insertFence_93 : decode cX12_insertFence 93 = .ok (.bipush 10, 2) := by decide +kernel
theorem dX12_insertFence_95 : decode cX12_insertFence 95 = .ok (.if_icmp .ne 7, 3) := by decide +kernel
theorem dX12_insertFence_98 : decode cX12_insertFence 98 = .ok (.iconst 1, 1) := by decide +kernel
theorem dX12_insertFence_99 : decode cX12_insertFence 99 = .ok (.goto 4, 3) := by decide +kernel
theorem dX12_insertFence_102 : decode cX12_insertFence 102 = .ok (.iconst 0, 1) := by decide +kernel
theorem dX12_insertFence_103 : decode cX12_insertFence 103 = .ok (.iconst 0, 1) := by decide +kernel
theorem dX12_insertFence_104 : decode cX12_insertFence 104 = .ok (.invokevirtual 300, 3) := by decide +kernel
theorem dX12_insertFence_107 : decode cX12_insertFence 107 = .ok (.ifCond .eq 5, 3) := by decide +kernel
theorem dX12_insertFence_110 : decode cX12_insertFence 110 = .ok (.iconst 0, 1) := by decide +kernel
theorem dX12_insertFence_111 : decode cX12_insertFence 111 = .ok (.ireturn, 1) := by decide +kernel
theorem dX12_insertFence_112 : decode cX12_insertFence 112 = .ok (.aload_n 0, 1) := by decide +kernel
theorem dX12_insertFence_113 : decode cX12_insertFence 113 = .ok (.invokevirtual 479, 3) := by decide +kernel
theorem dX12_insertFence_116 : decode cX12_insertFence 116 = .ok (.aload_n 0, 1) := by decide +kernel
theorem dX12_insertFence_117 : decode cX12_insertFence 117 = .ok (.iload_n 2, 1) := by decide +kernel
theorem dX12_insertFence_118 : decode cX12_insertFence 118 = .ok (.iconst 0, 1) := by decide +kernel
theorem dX12_insertFence_119 : decode cX12_insertFence 119 = .ok (.invokevirtual 304, 3) := by decide +kernel
theorem dX12_insertFence_122 : decode cX12_insertFence 122 = .ok (.istore 4, 2) := by decide +kernel
theorem dX12_insertFence_124 : decode cX12_insertFence 124 = .ok (.bipush 6, 2) := by decide +kernel
theorem dX12_insertFence_126 : decode cX12_insertFence 126 = .ok (.bipush 6, 2) := by decide +kernel
theorem dX12_insertFence_128 : decode cX12_insertFence 128 = .ok (.aload_n 0, 1) := by decide +kernel
theorem dX12_insertFence_129 : decode cX12_insertFence 129 = .ok (.getfield 17, 3) := by decide +kernel
theorem dX12_insertFence_132 : decode cX12_insertFence 132 = .ok (.iconst 0, 1) := by decide +kernel
theorem dX12_insertFence_133 : decode cX12_insertFence 133 = .ok (.iaload, 1) := by decide +kernel
theorem dX12_insertFence_134 : decode cX12_insertFence 134 = .ok (.iconst 1, 1) := by decide +kernel
theorem dX12_insertFence_135 : decode cX12_insertFence 135 = .ok (.iadd, 1) := by decide +kernel
theorem dX12_insertFence_136 : decode cX12_insertFence 136 = .ok (.imul, 1) := by decide +kernel
theorem dX12_insertFence_137 : decode cX12_insertFence 137 = .ok (.iadd, 1) := by decide +kernel
theorem dX12_insertFence_138 : decode cX12_insertFence 138 = .ok (.iconst 1, 1) := by decide +kernel
theorem dX12_insertFence_139 : decode cX12_insertFence 139 = .ok (.isub, 1) := by decide +kernel
theorem dX12_insertFence_140 : decode cX12_insertFence 140 = .ok (.istore 5, 2) := by decide +kernel
theorem dX12_insertFence_142 : decode cX12_insertFence 142 = .ok (.iload 5, 2) := by decide +kernel
theorem dX12_insertFence_144 : decode cX12_insertFence 144 = .ok (.bipush 6, 2) := by decide +kernel
theorem dX12_insertFence_146 : decode cX12_insertFence 146 = .ok (.bipush 6, 2) := by decide +kernel
theorem dX12_insertFence_148 : decode cX12_insertFence 148 = .ok (.iload_n 2, 1) := by decide +kernel
theorem dX12_insertFence_149 : decode cX12_insertFence 149 = .ok (.iconst 1, 1) := by decide +kernel
theorem dX12_insertFence_150 : decode cX12_insertFence 150 = .ok (.iadd, 1) := by decide +kernel
theorem dX12_insertFence_151 : decode cX12_insertFence 151 = .ok (.imul, 1) := by decide +kernel
theorem dX12_insertFence_152 : decode cX12_insertFence 152 = .ok (.iadd, 1) := by decide +kernel
theorem dX12_insertFence_153 : decode cX12_insertFence 153 = .ok (.if_icmp .lt 26, 3) := by decide +kernel
theorem dX12_insertFence_156 : decode cX12_insertFence 156 = .ok (.aload_n 0, 1) := by decide +kernel
theorem dX12_insertFence_157 : decode cX12_insertFence 157 = .ok (.getfield 17, 3) := by decide +kernel
theorem dX12_insertFence_160 : decode cX12_insertFence 160 = .ok (.iload 5, 2) := by decide +kernel
theorem dX12_insertFence_162 : decode cX12_insertFence 162 = .ok (.aload_n 0, 1) := by decide +kernel
theorem dX12_insertFence_163 : decode cX12_insertFence 163 = .ok (.getfield 17, 3) := by decide +kernel
theorem dX12_insertFence_166 : decode cX12_insertFence 166 = .ok (.iload 5, 2) := by decide +kernel
theorem dX12_insertFence_168 : decode cX12_insertFence 168 = .ok (.bipush 6, 2) := by decide +kernel
theorem dX12_insertFence_170 : decode cX12_insertFence 170 = .ok (.isub, 1) := by decide +kernel
theorem dX12_insertFence_171 : decode cX12_insertFence 171 = .ok (.iaload, 1) := by decide +kernel
theorem dX12_insertFence_172 : decode cX12_insertFence 172 = .ok (.iastore, 1) := by decide +kernel
theorem dX12_insertFence_173 : decode cX12_insertFence 173 = .ok (.iinc 5 (-1), 3) := by decide +kernel
theorem dX12_insertFence_176 : decode cX12_insertFence 176 = .ok (.goto (-34), 3) := by decide +kernel
theorem dX12_insertFence_179 : decode cX12_insertFence 179 = .ok (.aload_n 0, 1) := by decide +kernel
theorem dX12_insertFence_180 : decode cX12_insertFence 180 = .ok (.getfield 17, 3) := by decide +kernel
theorem dX12_insertFence_183 : decode cX12_insertFence 183 = .ok (.iconst 0, 1) := by decide +kernel
theorem dX12_insertFence_184 : decode cX12_insertFence 184 = .ok (.dup2, 1) := by decide +kernel
theorem dX12_insertFence_185 : decode cX12_insertFence 185 = .ok (.iaload, 1) := by decide +kernel
theorem dX12_insertFence_186 : decode cX12_insertFence 186 = .ok (.iconst 1, 1) := by decide +kernel
theorem dX12_insertFence_187 : decode cX12_insertFence 187 = .ok (.iadd, 1) := by decide +kernel
theorem dX12_insertFence_188 : decode cX12_insertFence 188 = .ok (.iastore, 1) := by decide +kernel
theorem dX12_insertFence_189 : decode cX12_insertFence 189 = .ok (.iconst 0, 1) := by decide +kernel
theorem dX12_insertFence_190 : decode cX12_insertFence 190 = .ok (.istore 5, 2) := by decide +kernel
theorem dX12_insertFence_192 : decode cX12_insertFence 192 = .ok (.iload 5, 2) := by decide +kernel
theorem dX12_insertFence_194 : decode cX12_insertFence 194 = .ok (.bipush 6, 2) := by decide +kernel
theorem dX12_insertFence_196 : decode cX12_insertFence 196 = .ok (.if_icmp .ge 25, 3) := by decide +kernel
theorem dX12_insertFence_199 : decode cX12_insertFence 199 = .ok (.aload_n 0, 1) := by decide +kernel
theorem dX12_insertFence_200 : decode cX12_insertFence 200 = .ok (.getfield 17, 3) := by decide +kernel
theorem dX12_insertFence_203 : decode cX12_insertFence 203 = .ok (.bipush 6, 2) := by decide +kernel
theorem dX12_insertFence_205 : decode cX12_insertFence 205 = .ok (.bipush 6, 2) := by decide +kernel
theorem dX12_insertFence_207 : decode cX12_insertFence 207 = .ok (.iload_n 2, 1) := by decide +kernel
theorem dX12_insertFence_208 : decode cX12_insertFence 208 = .ok (.imul, 1) := by decide +kernel
theorem dX12_insertFence_209 : decode cX12_insertFence 209 = .ok (.iadd, 1) := by decide +kernel
theorem dX12_insertFence_210 : decode cX12_insertFence 210 = .ok (.iload 5, 2) := by decide +kernel
theorem dX12_insertFence_212 : decode cX12_insertFence 212 = .ok (.iadd, 1) := by decide +kernel
theorem dX12_insertFence_213 : decode cX12_insertFence 213 = .ok (.iconst (-1), 1) := by decide +kernel
theorem dX12_insertFence_214 : decode cX12_insertFence 214 = .ok (.iastore, 1) := by decide +kernel
theorem dX12_insertFence_215 : decode cX12_insertFence 215 = .ok (.iinc 5 1, 3) := by decide +kernel
theorem dX12_insertFence_218 : decode cX12_insertFence 218 = .ok (.goto (-26), 3) := by decide +kernel
theorem dX12_insertFence_221 : decode cX12_insertFence 221 = .ok (.aload_n 0, 1) := by decide +kernel
theorem dX12_insertFence_222 : decode cX12_insertFence 222 = .ok (.getfield 17, 3) := by decide +kernel
theorem dX12_insertFence_225 : decode cX12_insertFence 225 = .ok (.bipush 6, 2) := by decide +kernel
theorem dX12_insertFence_227 : decode cX12_insertFence 227 = .ok (.bipush 6, 2) := by decide +kernel
theorem dX12_insertFence_229 : decode cX12_insertFence 229 = .ok (.iload_n 2, 1) := by decide +kernel
theorem dX12_insertFence_230 : decode cX12_insertFence 230 = .ok (.imul, 1) := by decide +kernel
theorem dX12_insertFence_231 : decode cX12_insertFence 231 = .ok (.iadd, 1) := by decide +kernel
theorem dX12_insertFence_232 : decode cX12_insertFence 232 = .ok (.iconst 0, 1) := by decide +kernel
theorem dX12_insertFence_233 : decode cX12_insertFence 233 = .ok (.iadd, 1) := by decide +kernel
theorem dX12_insertFence_234 : decode cX12_insertFence 234 = .ok (.iload 4, 2) := by decide +kernel
theorem dX12_insertFence_236 : decode cX12_insertFence 236 = .ok (.iastore, 1) := by decide +kernel
theorem dX12_insertFence_237 : decode cX12_insertFence 237 = .ok (.aload_n 0, 1) := by decide +kernel
theorem dX12_insertFence_238 : decode cX12_insertFence 238 = .ok (.getfield 17, 3) := by decide +kernel
theorem dX12_insertFence_241 : decode cX12_insertFence 241 = .ok (.bipush 6, 2) := by decide +kernel
theorem dX12_insertFence_243 : decode cX12_insertFence 243 = .ok (.bipush 6, 2) := by decide +kernel
theorem dX12_insertFence_245 : decode cX12_insertFence 245 = .ok (.iload_n 2, 1) := by decide +kernel
theorem dX12_insertFence_246 : decode cX12_insertFence 246 = .ok (.imul, 1) := by decide +kernel
theorem dX12_insertFence_247 : decode cX12_insertFence 247 = .ok (.iadd, 1) := by decide +kernel
theorem dX12_insertFence_248 : decode cX12_insertFence 248 = .ok (.iconst 1, 1) := by decide +kernel
theorem dX12_insertFence_249 : decode cX12_insertFence 249 = .ok (.iadd, 1) := by decide +kernel
theorem dX12_insertFence_250 : decode cX12_insertFence 250 = .ok (.iconst 3, 1) := by decide +kernel
theorem dX12_insertFence_251 : decode cX12_insertFence 251 = .ok (.iastore, 1) := by decide +kernel
theorem dX12_insertFence_252 : decode cX12_insertFence 252 = .ok (.iload_n 2, 1) := by decide +kernel
theorem dX12_insertFence_253 : decode cX12_insertFence 253 = .ok (.ireturn, 1) := by decide +kernel
theorem dX12_removeFence_0 : decode cX12_removeFence 0 = .ok (.aload_n 0, 1) := by decide +kernel
theorem dX12_removeFence_1 : decode cX12_removeFence 1 = .ok (.aload_n 0, 1) := by decide +kernel
theorem dX12_removeFence_2 : decode cX12_removeFence 2 = .ok (.iload_n 1, 1) := by decide +kernel
theorem dX12_removeFence_3 : decode cX12_removeFence 3 = .ok (.invokevirtual 297, 3) := by decide +kernel
theorem dX12_removeFence_6 : decode cX12_removeFence 6 = .ok (.ifCond .ne 7, 3) := by decide +kernel
theorem dX12_removeFence_9 : decode cX12_removeFence 9 = .ok (.iconst 1, 1) := by decide +kernel
theorem dX12_removeFence_10 : decode cX12_removeFence 10 = .ok (.goto 4, 3) := by decide +kernel
theorem dX12_removeFence_13 : decode cX12_removeFence 13 = .ok (.iconst 0, 1) := by decide +kernel
theorem dX12_removeFence_14 : decode cX12_removeFence 14 = .ok (.aload_n 0, 1) := by decide +kernel
theorem dX12_removeFence_15 : decode cX12_removeFence 15 = .ok (.iload_n 1, 1) := by decide +kernel
theorem dX12_removeFence_16 : decode cX12_removeFence 16 = .ok (.invokevirtual 476, 3) := by decide +kernel
theorem dX12_removeFence_19 : decode cX12_removeFence 19 = .ok (.ifCond .ne 7, 3) := by decide +kernel
theorem dX12_removeFence_22 : decode cX12_removeFence 22 = .ok (.iconst 1, 1) := by decide +kernel
theorem dX12_removeFence_23 : decode cX12_removeFence 23 = .ok (.goto 4, 3) := by decide +kernel
theorem dX12_removeFence_26 : decode cX12_removeFence 26 = .ok (.iconst 0, 1) := by decide +kernel
theorem dX12_removeFence_27 : decode cX12_removeFence 27 = .ok (.iconst 0, 1) := by decide +kernel
theorem dX12_removeFence_28 : decode cX12_removeFence 28 = .ok (.invokevirtual 300, 3) := by decide +kernel
theorem dX12_removeFence_31 : decode cX12_removeFence 31 = .ok (.ifCond .eq 5, 3) := by decide +kernel
theorem dX12_removeFence_34 : decode cX12_removeFence 34 = .ok (.iconst 0, 1) := by decide +kernel
theorem dX12_removeFence_35 : decode cX12_removeFence 35 = .ok (.ireturn, 1) := by decide +kernel
theorem dX12_removeFence_36 : decode cX12_removeFence 36 = .ok (.aload_n 0, 1) := by decide +kernel
theorem dX12_removeFence_37 : decode cX12_removeFence 37 = .ok (.invokevirtual 479, 3) := by decide +kernel
theorem dX12_removeFence_40 : decode cX12_removeFence 40 = .ok (.aload_n 0, 1) := by decide +kernel
theorem dX12_removeFence_41 : decode cX12_removeFence 41 = .ok (.getfield 17, 3) := by decide +kernel
theorem dX12_removeFence_44 : decode cX12_removeFence 44 = .ok (.iconst 0, 1) := by decide +kernel
theorem dX12_removeFence_45 : decode cX12_removeFence 45 = .ok (.dup2, 1) := by decide +kernel
theorem dX12_removeFence_46 : decode cX12_removeFence 46 = .ok (.iaload, 1) := by decide +kernel
theorem dX12_removeFence_47 : decode cX12_removeFence 47 = .ok (.iconst 1, 1) := by decide +kernel
theorem dX12_removeFence_48 : decode cX12_removeFence 48 = .ok (.isub, 1) := by decide +kernel
theorem dX12_removeFence_49 : decode cX12_removeFence 49 = .ok (.iastore, 1) := by decide +kernel
theorem dX12_removeFence_50 : decode cX12_removeFence 50 = .ok (.bipush 6, 2) := by decide +kernel
theorem dX12_removeFence_52 : decode cX12_removeFence 52 = .ok (.bipush 6, 2) := by decide +kernel
theorem dX12_removeFence_54 : decode cX12_removeFence 54 = .ok (.iload_n 1, 1) := by decide +kernel
theorem dX12_removeFence_55 : decode cX12_removeFence 55 = .ok (.imul, 1) := by decide +kernel
theorem dX12_removeFence_56 : decode cX12_removeFence 56 = .ok (.iadd, 1) := by decide +kernel
theorem dX12_removeFence_57 : decode cX12_removeFence 57 = .ok (.istore_n 2, 1) := by decide +kernel
theorem dX12_removeFence_58 : decode cX12_removeFence 58 = .ok (.iload_n 2, 1) := by decide +kernel
theorem dX12_removeFence_59 : decode cX12_removeFence 59 = .ok (.bipush 6, 2) := by decide +kernel
theorem dX12_removeFence_61 : decode cX12_removeFence 61 = .ok (.bipush 6, 2) := by decide +kernel
theorem dX12_removeFence_63 : decode cX12_removeFence 63 = .ok (.aload_n 0, 1) := by decide +kernel
theorem dX12_removeFence_64 : decode cX12_removeFence 64 = .ok (.getfield 17, 3) := by decide +kernel
theorem dX12_removeFence_67 : decode cX12_removeFence 67 = .ok (.iconst 0, 1) := by decide +kernel
theorem dX12_removeFence_68 : decode cX12_removeFence 68 = .ok (.iaload, 1) := by decide +kernel
theorem dX12_removeFence_69 : decode cX12_removeFence 69 = .ok (.imul, 1) := by decide +kernel
theorem dX12_removeFence_70 : decode cX12_removeFence 70 = .ok (.iadd, 1) := by decide +kernel
theorem dX12_removeFence_71 : decode cX12_removeFence 71 = .ok (.if_icmp .ge 24, 3) := by decide +kernel
theorem dX12_removeFence_74 : decode cX12_removeFence 74 = .ok (.aload_n 0, 1) := by decide +kernel
theorem dX12_removeFence_75 : decode cX12_removeFence 75 = .ok (.getfield 17, 3) := by decide +kernel
theorem dX12_removeFence_78 : decode cX12_removeFence 78 = .ok (.iload_n 2, 1) := by decide +kernel
theorem dX12_removeFence_79 : decode cX12_removeFence 79 = .ok (.aload_n 0, 1) := by decide +kernel
theorem dX12_removeFence_80 : decode cX12_removeFence 80 = .ok (.getfield 17, 3) := by decide +kernel
theorem dX12_removeFence_83 : decode cX12_removeFence 83 = .ok (.iload_n 2, 1) := by decide +kernel
theorem dX12_removeFence_84 : decode cX12_removeFence 84 = .ok (.bipush 6, 2) := by decide +kernel
theorem dX12_removeFence_86 : decode cX12_removeFence 86 = .ok (.iadd, 1) := by decide +kernel
theorem dX12_removeFence_87 : decode cX12_removeFence 87 = .ok (.iaload, 1) := by decide +kernel
theorem dX12_removeFence_88 : decode cX12_removeFence 88 = .ok (.iastore, 1) := by decide +kernel
theorem dX12_removeFence_89 : decode cX12_removeFence 89 = .ok (.iinc 2 1, 3) := by decide +kernel
theorem dX12_removeFence_92 : decode cX12_removeFence 92 = .ok (.goto (-34), 3) := by decide +kernel
theorem dX12_removeFence_95 : decode cX12_removeFence 95 = .ok (.aload_n 0, 1) := by decide +kernel
theorem dX12_removeFence_96 : decode cX12_removeFence 96 = .ok (.getfield 17, 3) := by decide +kernel
theorem dX12_removeFence_99 : decode cX12_removeFence 99 = .ok (.iconst 0, 1) := by decide +kernel
theorem dX12_removeFence_100 : decode cX12_removeFence 100 = .ok (.iaload, 1) := by decide +kernel
theorem dX12_removeFence_101 : decode cX12_removeFence 101 = .ok (.ireturn, 1) := by decide +kernel
theorem dX12_writes_0 : decode cX12_writes 0 = .ok (.aload_n 0, 1) := by decide +kernel
theorem dX12_writes_1 : decode cX12_writes 1 = .ok (.getfield 101, 3) := by decide +kernel
theorem dX12_writes_4 : decode cX12_writes 4 = .ok (.bipush 60, 2) := by decide +kernel
theorem dX12_writes_6 : decode cX12_writes 6 = .ok (.iload_n 1, 1) := by decide +kernel
theorem dX12_writes_7 : decode cX12_writes 7 = .ok (.imul, 1) := by decide +kernel
theorem dX12_writes_8 : decode cX12_writes 8 = .ok (.aload_n 0, 1) := by decide +kernel
theorem dX12_writes_9 : decode cX12_writes 9 = .ok (.getfield 104, 3) := by decide +kernel
theorem dX12_writes_12 : decode cX12_writes 12 = .ok (.iload_n 1, 1) := by decide +kernel
theorem dX12_writes_13 : decode cX12_writes 13 = .ok (.iaload, 1) := by decide +kernel
theorem dX12_writes_14 : decode cX12_writes 14 = .ok (.iadd, 1) := by decide +kernel
theorem dX12_writes_15 : decode cX12_writes 15 = .ok (.iload_n 2, 1) := by decide +kernel
theorem dX12_writes_16 : decode cX12_writes 16 = .ok (.iastore, 1) := by decide +kernel
theorem dX12_writes_17 : decode cX12_writes 17 = .ok (.aload_n 0, 1) := by decide +kernel
theorem dX12_writes_18 : decode cX12_writes 18 = .ok (.getfield 104, 3) := by decide +kernel
theorem dX12_writes_21 : decode cX12_writes 21 = .ok (.iload_n 1, 1) := by decide +kernel
theorem dX12_writes_22 : decode cX12_writes 22 = .ok (.dup2, 1) := by decide +kernel
theorem dX12_writes_23 : decode cX12_writes 23 = .ok (.iaload, 1) := by decide +kernel
theorem dX12_writes_24 : decode cX12_writes 24 = .ok (.iconst 1, 1) := by decide +kernel
theorem dX12_writes_25 : decode cX12_writes 25 = .ok (.iadd, 1) := by decide +kernel
theorem dX12_writes_26 : decode cX12_writes 26 = .ok (.iastore, 1) := by decide +kernel
theorem dX12_writes_27 : decode cX12_writes 27 = .ok (.aload_n 0, 1) := by decide +kernel
theorem dX12_writes_28 : decode cX12_writes 28 = .ok (.getfield 107, 3) := by decide +kernel
theorem dX12_writes_31 : decode cX12_writes 31 = .ok (.iload_n 1, 1) := by decide +kernel
theorem dX12_writes_32 : decode cX12_writes 32 = .ok (.iload_n 2, 1) := by decide +kernel
theorem dX12_writes_33 : decode cX12_writes 33 = .ok (.iastore, 1) := by decide +kernel
theorem dX12_writes_34 : decode cX12_writes 34 = .ok (.return_, 1) := by decide +kernel
theorem dX12_takes_0 : decode cX12_takes 0 = .ok (.aload_n 0, 1) := by decide +kernel
theorem dX12_takes_1 : decode cX12_takes 1 = .ok (.getfield 95, 3) := by decide +kernel
theorem dX12_takes_4 : decode cX12_takes 4 = .ok (.aload_n 0, 1) := by decide +kernel
theorem dX12_takes_5 : decode cX12_takes 5 = .ok (.getfield 482, 3) := by decide +kernel
theorem dX12_takes_8 : decode cX12_takes 8 = .ok (.bipush 10, 2) := by decide +kernel
theorem dX12_takes_10 : decode cX12_takes 10 = .ok (.iload_n 1, 1) := by decide +kernel
theorem dX12_takes_11 : decode cX12_takes 11 = .ok (.imul, 1) := by decide +kernel
theorem dX12_takes_12 : decode cX12_takes 12 = .ok (.iload_n 2, 1) := by decide +kernel
theorem dX12_takes_13 : decode cX12_takes 13 = .ok (.iadd, 1) := by decide +kernel
theorem dX12_takes_14 : decode cX12_takes 14 = .ok (.iastore, 1) := by decide +kernel
theorem dX12_takes_15 : decode cX12_takes 15 = .ok (.aload_n 0, 1) := by decide +kernel
theorem dX12_takes_16 : decode cX12_takes 16 = .ok (.dup, 1) := by decide +kernel
theorem dX12_takes_17 : decode cX12_takes 17 = .ok (.getfield 482, 3) := by decide +kernel
theorem dX12_takes_20 : decode cX12_takes 20 = .ok (.iconst 1, 1) := by decide +kernel
theorem dX12_takes_21 : decode cX12_takes 21 = .ok (.iadd, 1) := by decide +kernel
theorem dX12_takes_22 : decode cX12_takes 22 = .ok (.putfield 482, 3) := by decide +kernel
theorem dX12_takes_25 : decode cX12_takes 25 = .ok (.aload_n 0, 1) := by decide +kernel
theorem dX12_takes_26 : decode cX12_takes 26 = .ok (.getfield 346, 3) := by decide +kernel
theorem dX12_takes_29 : decode cX12_takes 29 = .ok (.istore_n 3, 1) := by decide +kernel
theorem dX12_takes_30 : decode cX12_takes 30 = .ok (.iload_n 2, 1) := by decide +kernel
theorem dX12_takes_31 : decode cX12_takes 31 = .ok (.ifCond .le 20, 3) := by decide +kernel
theorem dX12_takes_34 : decode cX12_takes 34 = .ok (.aload_n 0, 1) := by decide +kernel
theorem dX12_takes_35 : decode cX12_takes 35 = .ok (.aload_n 0, 1) := by decide +kernel
theorem dX12_takes_36 : decode cX12_takes 36 = .ok (.getfield 47, 3) := by decide +kernel
theorem dX12_takes_39 : decode cX12_takes 39 = .ok (.iload_n 3, 1) := by decide +kernel
theorem dX12_takes_40 : decode cX12_takes 40 = .ok (.iaload, 1) := by decide +kernel
theorem dX12_takes_41 : decode cX12_takes 41 = .ok (.aload_n 0, 1) := by decide +kernel
theorem dX12_takes_42 : decode cX12_takes 42 = .ok (.getfield 59, 3) := by decide +kernel
theorem dX12_takes_45 : decode cX12_takes 45 = .ok (.iload_n 3, 1) := by decide +kernel
theorem dX12_takes_46 : decode cX12_takes 46 = .ok (.iaload, 1) := by decide +kernel
theorem dX12_takes_47 : decode cX12_takes 47 = .ok (.invokevirtual 485, 3) := by decide +kernel
theorem dX12_takes_50 : decode cX12_takes 50 = .ok (.return_, 1) := by decide +kernel
theorem dX12_takes_51 : decode cX12_takes 51 = .ok (.aload_n 0, 1) := by decide +kernel
theorem dX12_takes_52 : decode cX12_takes 52 = .ok (.getfield 360, 3) := by decide +kernel
theorem dX12_takes_55 : decode cX12_takes 55 = .ok (.iconst (-1), 1) := by decide +kernel
theorem dX12_takes_56 : decode cX12_takes 56 = .ok (.if_icmp .eq 46, 3) := by decide +kernel
theorem dX12_takes_59 : decode cX12_takes 59 = .ok (.aload_n 0, 1) := by decide +kernel
theorem dX12_takes_60 : decode cX12_takes 60 = .ok (.getfield 98, 3) := by decide +kernel
theorem dX12_takes_63 : decode cX12_takes 63 = .ok (.aload_n 0, 1) := by decide +kernel
theorem dX12_takes_64 : decode cX12_takes 64 = .ok (.getfield 59, 3) := by decide +kernel
theorem dX12_takes_67 : decode cX12_takes 67 = .ok (.iload_n 3, 1) := by decide +kernel
theorem dX12_takes_68 : decode cX12_takes 68 = .ok (.iaload, 1) := by decide +kernel
theorem dX12_takes_69 : decode cX12_takes 69 = .ok (.aload_n 0, 1) := by decide +kernel
theorem dX12_takes_70 : decode cX12_takes 70 = .ok (.getfield 360, 3) := by decide +kernel
theorem dX12_takes_73 : decode cX12_takes 73 = .ok (.bipush (-2), 2) := by decide +kernel
theorem dX12_takes_75 : decode cX12_takes 75 = .ok (.if_icmp .ne 17, 3) := by decide +kernel
theorem dX12_takes_78 : decode cX12_takes 78 = .ok (.aload_n 0, 1) := by decide +kernel
theorem dX12_takes_79 : decode cX12_takes 79 = .ok (.getfield 107, 3) := by decide +kernel
theorem dX12_takes_82 : decode cX12_takes 82 = .ok (.aload_n 0, 1) := by decide +kernel
theorem dX12_takes_83 : decode cX12_takes 83 = .ok (.getfield 47, 3) := by decide +kernel
theorem dX12_takes_86 : decode cX12_takes 86 = .ok (.iload_n 3, 1) := by decide +kernel
theorem dX12_takes_87 : decode cX12_takes 87 = .ok (.iaload, 1) := by decide +kernel
theorem dX12_takes_88 : decode cX12_takes 88 = .ok (.iaload, 1) := by decide +kernel
theorem dX12_takes_89 : decode cX12_takes 89 = .ok (.goto 12, 3) := by decide +kernel
theorem dX12_takes_92 : decode cX12_takes 92 = .ok (.aload_n 0, 1) := by decide +kernel
theorem dX12_takes_93 : decode cX12_takes 93 = .ok (.getfield 59, 3) := by decide +kernel
theorem dX12_takes_96 : decode cX12_takes 96 = .ok (.aload_n 0, 1) := by decide +kernel
theorem dX12_takes_97 : decode cX12_takes 97 = .ok (.getfield 360, 3) := by decide +kernel
theorem dX12_takes_100 : decode cX12_takes 100 = .ok (.iaload, 1) := by decide +kernel
theorem dX12_takes_101 : decode cX12_takes 101 = .ok (.iastore, 1) := by decide +kernel
theorem dX12_takes_102 : decode cX12_takes 102 = .ok (.aload_n 0, 1) := by decide +kernel
theorem dX12_takes_103 : decode cX12_takes 103 = .ok (.getfield 44, 3) := by decide +kernel
theorem dX12_takes_106 : decode cX12_takes 106 = .ok (.iload_n 3, 1) := by decide +kernel
theorem dX12_takes_107 : decode cX12_takes 107 = .ok (.iaload, 1) := by decide +kernel
theorem dX12_takes_108 : decode cX12_takes 108 = .ok (.iconst 2, 1) := by decide +kernel
theorem dX12_takes_109 : decode cX12_takes 109 = .ok (.if_icmp .eq 19, 3) := by decide +kernel
theorem dX12_takes_112 : decode cX12_takes 112 = .ok (.aload_n 0, 1) := by decide +kernel
theorem dX12_takes_113 : decode cX12_takes 113 = .ok (.getfield 44, 3) := by decide +kernel
theorem dX12_takes_116 : decode cX12_takes 116 = .ok (.iload_n 3, 1) := by decide +kernel
theorem dX12_takes_117 : decode cX12_takes 117 = .ok (.iaload, 1) := by decide +kernel
theorem dX12_takes_118 : decode cX12_takes 118 = .ok (.ifCond .ne 26, 3) := by decide +kernel
theorem dX12_takes_121 : decode cX12_takes 121 = .ok (.aload_n 0, 1) := by decide +kernel
theorem dX12_takes_122 : decode cX12_takes 122 = .ok (.getfield 335, 3) := by decide +kernel
theorem dX12_takes_125 : decode cX12_takes 125 = .ok (.ifCond .ne 19, 3) := by decide +kernel
theorem dX12_takes_128 : decode cX12_takes 128 = .ok (.aload_n 0, 1) := by decide +kernel
theorem dX12_takes_129 : decode cX12_takes 129 = .ok (.aload_n 0, 1) := by decide +kernel
theorem dX12_takes_130 : decode cX12_takes 130 = .ok (.getfield 47, 3) := by decide +kernel
theorem dX12_takes_133 : decode cX12_takes 133 = .ok (.iload_n 3, 1) := by decide +kernel
theorem dX12_takes_134 : decode cX12_takes 134 = .ok (.iaload, 1) := by decide +kernel
theorem dX12_takes_135 : decode cX12_takes 135 = .ok (.aload_n 0, 1) := by decide +kernel
theorem dX12_takes_136 : decode cX12_takes 136 = .ok (.getfield 59, 3) := by decide +kernel
theorem dX12_takes_139 : decode cX12_takes 139 = .ok (.iload_n 3, 1) := by decide +kernel
theorem dX12_takes_140 : decode cX12_takes 140 = .ok (.iaload, 1) := by decide +kernel
theorem dX12_takes_141 : decode cX12_takes 141 = .ok (.invokevirtual 485, 3) := by decide +kernel
theorem dX12_takes_144 : decode cX12_takes 144 = .ok (.return_, 1) := by decide +kernel
theorem dX12_leastStep_0 : decode cX12_leastStep 0 = .ok (.iconst 0, 1) := by decide +kernel
theorem dX12_leastStep_1 : decode cX12_leastStep 1 = .ok (.istore_n 3, 1) := by decide +kernel
theorem dX12_leastStep_2 : decode cX12_leastStep 2 = .ok (.iload_n 3, 1) := by decide +kernel
theorem dX12_leastStep_3 : decode cX12_leastStep 3 = .ok (.iconst 4, 1) := by decide +kernel
theorem dX12_leastStep_4 : decode cX12_leastStep 4 = .ok (.if_icmp .ge 71, 3) := by decide +kernel
theorem dX12_leastStep_7 : decode cX12_leastStep 7 = .ok (.iconst 0, 1) := by decide +kernel
theorem dX12_leastStep_8 : decode cX12_leastStep 8 = .ok (.istore 4, 2) := by decide +kernel
theorem dX12_leastStep_10 : decode cX12_leastStep 10 = .ok (.iload 4, 2) := by decide +kernel
theorem dX12_leastStep_12 : decode cX12_leastStep 12 = .ok (.iconst 3, 1) := by decide +kernel
theorem dX12_leastStep_13 : decode cX12_leastStep 13 = .ok (.if_icmp .gt 56, 3) := by decide +kernel
theorem dX12_leastStep_16 : decode cX12_leastStep 16 = .ok (.aload_n 0, 1) := by decide +kernel
theorem dX12_leastStep_17 : decode cX12_leastStep 17 = .ok (.lload_n 1, 1) := by decide +kernel
theorem dX12_leastStep_18 : decode cX12_leastStep 18 = .ok (.iload_n 3, 1) := by decide +kernel
theorem dX12_leastStep_19 : decode cX12_leastStep 19 = .ok (.iload 4, 2) := by decide +kernel
theorem dX12_leastStep_21 : decode cX12_leastStep 21 = .ok (.invokevirtual 386, 3) := by decide +kernel
theorem dX12_leastStep_24 : decode cX12_leastStep 24 = .ok (.ifCond .eq 39, 3) := by decide +kernel
theorem dX12_leastStep_27 : decode cX12_leastStep 27 = .ok (.aload_n 0, 1) := by decide +kernel
theorem dX12_leastStep_28 : decode cX12_leastStep 28 = .ok (.getfield 110, 3) := by decide +kernel
theorem dX12_leastStep_31 : decode cX12_leastStep 31 = .ok (.aload_n 0, 1) := by decide +kernel
theorem dX12_leastStep_32 : decode cX12_leastStep 32 = .ok (.getfield 76, 3) := by decide +kernel
theorem dX12_leastStep_35 : decode cX12_leastStep 35 = .ok (.aload_n 0, 1) := by decide +kernel
theorem dX12_leastStep_36 : decode cX12_leastStep 36 = .ok (.aload_n 0, 1) := by decide +kernel
theorem dX12_leastStep_37 : decode cX12_leastStep 37 = .ok (.getfield 356, 3) := by decide +kernel
theorem dX12_leastStep_40 : decode cX12_leastStep 40 = .ok (.invokevirtual 372, 3) := by decide +kernel
theorem dX12_leastStep_43 : decode cX12_leastStep 43 = .ok (.iaload, 1) := by decide +kernel
theorem dX12_leastStep_44 : decode cX12_leastStep 44 = .ok (.baload, 1) := by decide +kernel
theorem dX12_leastStep_45 : decode cX12_leastStep 45 = .ok (.ifCond .ne 6, 3) := by decide +kernel
theorem dX12_leastStep_48 : decode cX12_leastStep 48 = .ok (.goto 15, 3) := by decide +kernel
theorem dX12_leastStep_51 : decode cX12_leastStep 51 = .ok (.aload_n 0, 1) := by decide +kernel
theorem dX12_leastStep_52 : decode cX12_leastStep 52 = .ok (.iload_n 3, 1) := by decide +kernel
theorem dX12_leastStep_53 : decode cX12_leastStep 53 = .ok (.iload 4, 2) := by decide +kernel
theorem dX12_leastStep_55 : decode cX12_leastStep 55 = .ok (.invokevirtual 488, 3) := by decide +kernel
theorem dX12_leastStep_58 : decode cX12_leastStep 58 = .ok (.aload_n 0, 1) := by decide +kernel
theorem dX12_leastStep_59 : decode cX12_leastStep 59 = .ok (.getfield 356, 3) := by decide +kernel
theorem dX12_leastStep_62 : decode cX12_leastStep 62 = .ok (.lreturn, 1) := by decide +kernel
theorem dX12_leastStep_63 : decode cX12_leastStep 63 = .ok (.iinc 4 1, 3) := by decide +kernel
theorem dX12_leastStep_66 : decode cX12_leastStep 66 = .ok (.goto (-56), 3) := by decide +kernel
theorem dX12_leastStep_69 : decode cX12_leastStep 69 = .ok (.iinc 3 1, 3) := by decide +kernel
theorem dX12_leastStep_72 : decode cX12_leastStep 72 = .ok (.goto (-70), 3) := by decide +kernel
theorem dX12_leastStep_75 : decode cX12_leastStep 75 = .ok (.lload_n 1, 1) := by decide +kernel
theorem dX12_leastStep_76 : decode cX12_leastStep 76 = .ok (.lreturn, 1) := by decide +kernel
theorem dX12_explain_0 : decode cX12_explain 0 = .ok (.aload_n 0, 1) := by decide +kernel
theorem dX12_explain_1 : decode cX12_explain 1 = .ok (.aload_n 0, 1) := by decide +kernel
theorem dX12_explain_2 : decode cX12_explain 2 = .ok (.iload_n 1, 1) := by decide +kernel
theorem dX12_explain_3 : decode cX12_explain 3 = .ok (.invokevirtual 414, 3) := by decide +kernel
theorem dX12_explain_6 : decode cX12_explain 6 = .ok (.iconst 0, 1) := by decide +kernel
theorem dX12_explain_7 : decode cX12_explain 7 = .ok (.iconst 0, 1) := by decide +kernel
theorem dX12_explain_8 : decode cX12_explain 8 = .ok (.invokevirtual 300, 3) := by decide +kernel
theorem dX12_explain_11 : decode cX12_explain 11 = .ok (.ifCond .eq 5, 3) := by decide +kernel
theorem dX12_explain_14 : decode cX12_explain 14 = .ok (.iconst 0, 1) := by decide +kernel
theorem dX12_explain_15 : decode cX12_explain 15 = .ok (.ireturn, 1) := by decide +kernel
theorem dX12_explain_16 : decode cX12_explain 16 = .ok (.aload_n 0, 1) := by decide +kernel
theorem dX12_explain_17 : decode cX12_explain 17 = .ok (.iload_n 1, 1) := by decide +kernel
theorem dX12_explain_18 : decode cX12_explain 18 = .ok (.invokevirtual 417, 3) := by decide +kernel
theorem dX12_explain_21 : decode cX12_explain 21 = .ok (.aload_n 0, 1) := by decide +kernel
theorem dX12_explain_22 : decode cX12_explain 22 = .ok (.iload_n 2, 1) := by decide +kernel
theorem dX12_explain_23 : decode cX12_explain 23 = .ok (.invokevirtual 420, 3) := by decide +kernel
theorem dX12_explain_26 : decode cX12_explain 26 = .ok (.iconst (-1), 1) := by decide +kernel
theorem dX12_explain_27 : decode cX12_explain 27 = .ok (.if_icmp .ne 5, 3) := by decide +kernel
theorem dX12_explain_30 : decode cX12_explain 30 = .ok (.iconst (-1), 1) := by decide +kernel
theorem dX12_explain_31 : decode cX12_explain 31 = .ok (.ireturn, 1) := by decide +kernel
theorem dX12_explain_32 : decode cX12_explain 32 = .ok (.aload_n 0, 1) := by decide +kernel
theorem dX12_explain_33 : decode cX12_explain 33 = .ok (.getfield 376, 3) := by decide +kernel
theorem dX12_explain_36 : decode cX12_explain 36 = .ok (.iconst 1, 1) := by decide +kernel
theorem dX12_explain_37 : decode cX12_explain 37 = .ok (.isub, 1) := by decide +kernel
theorem dX12_explain_38 : decode cX12_explain 38 = .ok (.istore_n 3, 1) := by decide +kernel
theorem dX12_explain_39 : decode cX12_explain 39 = .ok (.iload_n 3, 1) := by decide +kernel
theorem dX12_explain_40 : decode cX12_explain 40 = .ok (.ifCond .lt 144, 3) := by decide +kernel
theorem dX12_explain_43 : decode cX12_explain 43 = .ok (.aload_n 0, 1) := by decide +kernel
theorem dX12_explain_44 : decode cX12_explain 44 = .ok (.getfield 110, 3) := by decide +kernel
theorem dX12_explain_47 : decode cX12_explain 47 = .ok (.iload_n 3, 1) := by decide +kernel
theorem dX12_explain_48 : decode cX12_explain 48 = .ok (.aload_n 0, 1) := by decide +kernel
theorem dX12_explain_49 : decode cX12_explain 49 = .ok (.aload_n 0, 1) := by decide +kernel
theorem dX12_explain_50 : decode cX12_explain 50 = .ok (.getfield 69, 3) := by decide +kernel
theorem dX12_explain_53 : decode cX12_explain 53 = .ok (.iload_n 3, 1) := by decide +kernel
theorem dX12_explain_54 : decode cX12_explain 54 = .ok (.laload, 1) := by decide +kernel
theorem dX12_explain_55 : decode cX12_explain 55 = .ok (.invokevirtual 398, 3) := by decide +kernel
theorem dX12_explain_58 : decode cX12_explain 58 = .ok (.ifCond .eq 21, 3) := by decide +kernel
theorem dX12_explain_61 : decode cX12_explain 61 = .ok (.aload_n 0, 1) := by decide +kernel
theorem dX12_explain_62 : decode cX12_explain 62 = .ok (.aload_n 0, 1) := by decide +kernel
theorem dX12_explain_63 : decode cX12_explain 63 = .ok (.getfield 69, 3) := by decide +kernel
theorem dX12_explain_66 : decode cX12_explain 66 = .ok (.iload_n 3, 1) := by decide +kernel
theorem dX12_explain_67 : decode cX12_explain 67 = .ok (.laload, 1) := by decide +kernel
theorem dX12_explain_68 : decode cX12_explain 68 = .ok (.invokevirtual 402, 3) := by decide +kernel
theorem dX12_explain_71 : decode cX12_explain 71 = .ok (.iload_n 2, 1) := by decide +kernel
theorem dX12_explain_72 : decode cX12_explain 72 = .ok (.if_icmp .ne 7, 3) := by decide +kernel
theorem dX12_explain_75 : decode cX12_explain 75 = .ok (.iconst 1, 1) := by decide +kernel
theorem dX12_explain_76 : decode cX12_explain 76 = .ok (.goto 4, 3) := by decide +kernel
theorem dX12_explain_79 : decode cX12_explain 79 = .ok (.iconst 0, 1) := by decide +kernel
theorem dX12_explain_80 : decode cX12_explain 80 = .ok (.bastore, 1) := by decide +kernel
theorem dX12_explain_81 : decode cX12_explain 81 = .ok (.iconst 0, 1) := by decide +kernel
theorem dX12_explain_82 : decode cX12_explain 82 = .ok (.istore 4, 2) := by decide +kernel
theorem dX12_explain_84 : decode cX12_explain 84 = .ok (.iload 4, 2) := by decide +kernel
theorem dX12_explain_86 : decode cX12_explain 86 = .ok (.iconst 4, 1) := by decide +kernel
theorem dX12_explain_87 : decode cX12_explain 87 = .ok (.if_icmp .ge 91, 3) := by decide +kernel
theorem dX12_explain_90 : decode cX12_explain 90 = .ok (.aload_n 0, 1) := by decide +kernel
theorem dX12_explain_91 : decode cX12_explain 91 = .ok (.getfield 110, 3) := by decide +kernel
theorem dX12_explain_94 : decode cX12_explain 94 = .ok (.iload_n 3, 1) := by decide +kernel
theorem dX12_explain_95 : decode cX12_explain 95 = .ok (.baload, 1) := by decide +kernel
theorem dX12_explain_96 : decode cX12_explain 96 = .ok (.ifCond .ne 82, 3) := by decide +kernel
theorem dX12_explain_99 : decode cX12_explain 99 = .ok (.iconst 0, 1) := by decide +kernel
theorem dX12_explain_100 : decode cX12_explain 100 = .ok (.istore 5, 2) := by decide +kernel
theorem dX12_explain_102 : decode cX12_explain 102 = .ok (.iload 5, 2) := by decide +kernel
theorem dX12_explain_104 : decode cX12_explain 104 = .ok (.iconst 3, 1) := by decide +kernel
theorem dX12_explain_105 : decode cX12_explain 105 = .ok (.if_icmp .gt 67, 3) := by decide +kernel
theorem dX12_explain_108 : decode cX12_explain 108 = .ok (.aload_n 0, 1) := by decide +kernel
theorem dX12_explain_109 : decode cX12_explain 109 = .ok (.getfield 110, 3) := by decide +kernel
theorem dX12_explain_112 : decode cX12_explain 112 = .ok (.iload_n 3, 1) := by decide +kernel
theorem dX12_explain_113 : decode cX12_explain 113 = .ok (.baload, 1) := by decide +kernel
theorem dX12_explain_114 : decode cX12_explain 114 = .ok (.ifCond .ne 58, 3) := by decide +kernel
theorem dX12_explain_117 : decode cX12_explain 117 = .ok (.aload_n 0, 1) := by decide +kernel
theorem dX12_explain_118 : decode cX12_explain 118 = .ok (.getfield 110, 3) := by decide +kernel
theorem dX12_explain_121 : decode cX12_explain 121 = .ok (.iload_n 3, 1) := by decide +kernel
theorem dX12_explain_122 : decode cX12_explain 122 = .ok (.aload_n 0, 1) := by decide +kernel
theorem dX12_explain_123 : decode cX12_explain 123 = .ok (.aload_n 0, 1) := by decide +kernel
theorem dX12_explain_124 : decode cX12_explain 124 = .ok (.getfield 69, 3) := by decide +kernel
theorem dX12_explain_127 : decode cX12_explain 127 = .ok (.iload_n 3, 1) := by decide +kernel
theorem dX12_explain_128 : decode cX12_explain 128 = .ok (.laload, 1) := by decide +kernel
theorem dX12_explain_129 : decode cX12_explain 129 = .ok (.iload 4, 2) := by decide +kernel
theorem dX12_explain_131 : decode cX12_explain 131 = .ok (.iload 5, 2) := by decide +kernel
theorem dX12_explain_133 : decode cX12_explain 133 = .ok (.invokevirtual 386, 3) := by decide +kernel
theorem dX12_explain_136 : decode cX12_explain 136 = .ok (.ifCond .eq 28, 3) := by decide +kernel
theorem dX12_explain_139 : decode cX12_explain 139 = .ok (.aload_n 0, 1) := by decide +kernel
theorem dX12_explain_140 : decode cX12_explain 140 = .ok (.getfield 110, 3) := by decide +kernel
theorem dX12_explain_143 : decode cX12_explain 143 = .ok (.aload_n 0, 1) := by decide +kernel
theorem dX12_explain_144 : decode cX12_explain 144 = .ok (.getfield 76, 3) := by decide +kernel
theorem dX12_explain_147 : decode cX12_explain 147 = .ok (.aload_n 0, 1) := by decide +kernel
theorem dX12_explain_148 : decode cX12_explain 148 = .ok (.aload_n 0, 1) := by decide +kernel
theorem dX12_explain_149 : decode cX12_explain 149 = .ok (.getfield 356, 3) := by decide +kernel
theorem dX12_explain_152 : decode cX12_explain 152 = .ok (.invokevirtual 372, 3) := by decide +kernel
theorem dX12_explain_155 : decode cX12_explain 155 = .ok (.iaload, 1) := by decide +kernel
theorem dX12_explain_156 : decode cX12_explain 156 = .ok (.baload, 1) := by decide +kernel
theorem dX12_explain_157 : decode cX12_explain 157 = .ok (.ifCond .eq 7, 3) := by decide +kernel
theorem dX12_explain_160 : decode cX12_explain 160 = .ok (.iconst 1, 1) := by decide +kernel
theorem dX12_explain_161 : decode cX12_explain 161 = .ok (.goto 4, 3) := by decide +kernel
theorem dX12_explain_164 : decode cX12_explain 164 = .ok (.iconst 0, 1) := by decide +kernel
theorem dX12_explain_165 : decode cX12_explain 165 = .ok (.bastore, 1) := by decide +kernel
theorem dX12_explain_166 : decode cX12_explain 166 = .ok (.iinc 5 1, 3) := by decide +kernel
theorem dX12_explain_169 : decode cX12_explain 169 = .ok (.goto (-67), 3) := by decide +kernel
theorem dX12_explain_172 : decode cX12_explain 172 = .ok (.iinc 4 1, 3) := by decide +kernel
theorem dX12_explain_175 : decode cX12_explain 175 = .ok (.goto (-91), 3) := by decide +kernel
theorem dX12_explain_178 : decode cX12_explain 178 = .ok (.iinc 3 (-1), 3) := by decide +kernel
theorem dX12_explain_181 : decode cX12_explain 181 = .ok (.goto (-142), 3) := by decide +kernel
theorem dX12_explain_184 : decode cX12_explain 184 = .ok (.aload_n 0, 1) := by decide +kernel
theorem dX12_explain_185 : decode cX12_explain 185 = .ok (.iconst 1, 1) := by decide +kernel
theorem dX12_explain_186 : decode cX12_explain 186 = .ok (.putfield 135, 3) := by decide +kernel
theorem dX12_explain_189 : decode cX12_explain 189 = .ok (.aload_n 0, 1) := by decide +kernel
theorem dX12_explain_190 : decode cX12_explain 190 = .ok (.iconst 0, 1) := by decide +kernel
theorem dX12_explain_191 : decode cX12_explain 191 = .ok (.putfield 482, 3) := by decide +kernel
theorem dX12_explain_194 : decode cX12_explain 194 = .ok (.iconst 0, 1) := by decide +kernel
theorem dX12_explain_195 : decode cX12_explain 195 = .ok (.istore_n 3, 1) := by decide +kernel
theorem dX12_explain_196 : decode cX12_explain 196 = .ok (.iload_n 3, 1) := by decide +kernel
theorem dX12_explain_197 : decode cX12_explain 197 = .ok (.iconst 3, 1) := by decide +kernel
theorem dX12_explain_198 : decode cX12_explain 198 = .ok (.if_icmp .ge 23, 3) := by decide +kernel
theorem dX12_explain_201 : decode cX12_explain 201 = .ok (.aload_n 0, 1) := by decide +kernel
theorem dX12_explain_202 : decode cX12_explain 202 = .ok (.getfield 104, 3) := by decide +kernel
theorem dX12_explain_205 : decode cX12_explain 205 = .ok (.iload_n 3, 1) := by decide +kernel
theorem dX12_explain_206 : decode cX12_explain 206 = .ok (.iconst 0, 1) := by decide +kernel
theorem dX12_explain_207 : decode cX12_explain 207 = .ok (.iastore, 1) := by decide +kernel
theorem dX12_explain_208 : decode cX12_explain 208 = .ok (.aload_n 0, 1) := by decide +kernel
theorem dX12_explain_209 : decode cX12_explain 209 = .ok (.getfield 107, 3) := by decide +kernel
theorem dX12_explain_212 : decode cX12_explain 212 = .ok (.iload_n 3, 1) := by decide +kernel
theorem dX12_explain_213 : decode cX12_explain 213 = .ok (.iconst (-1), 1) := by decide +kernel
theorem dX12_explain_214 : decode cX12_explain 214 = .ok (.iastore, 1) := by decide +kernel
theorem dX12_explain_215 : decode cX12_explain 215 = .ok (.iinc 3 1, 3) := by decide +kernel
theorem dX12_explain_218 : decode cX12_explain 218 = .ok (.goto (-22), 3) := by decide +kernel
theorem dX12_explain_221 : decode cX12_explain 221 = .ok (.aload_n 0, 1) := by decide +kernel
theorem dX12_explain_222 : decode cX12_explain 222 = .ok (.invokevirtual 379, 3) := by decide +kernel
theorem dX12_explain_225 : decode cX12_explain 225 = .ok (.lstore_n 3, 1) := by decide +kernel
theorem dX12_explain_226 : decode cX12_explain 226 = .ok (.aload_n 0, 1) := by decide +kernel
theorem dX12_explain_227 : decode cX12_explain 227 = .ok (.lload_n 3, 1) := by decide +kernel
theorem dX12_explain_228 : decode cX12_explain 228 = .ok (.invokevirtual 398, 3) := by decide +kernel
theorem dX12_explain_231 : decode cX12_explain 231 = .ok (.ifCond .ne 12, 3) := by decide +kernel
theorem dX12_explain_234 : decode cX12_explain 234 = .ok (.aload_n 0, 1) := by decide +kernel
theorem dX12_explain_235 : decode cX12_explain 235 = .ok (.lload_n 3, 1) := by decide +kernel
theorem dX12_explain_236 : decode cX12_explain 236 = .ok (.invokevirtual 491, 3) := by decide +kernel
theorem dX12_explain_239 : decode cX12_explain 239 = .ok (.lstore_n 3, 1) := by decide +kernel
theorem dX12_explain_240 : decode cX12_explain 240 = .ok (.goto (-14), 3) := by decide +kernel
theorem dX12_explain_243 : decode cX12_explain 243 = .ok (.aload_n 0, 1) := by decide +kernel
theorem dX12_explain_244 : decode cX12_explain 244 = .ok (.getfield 482, 3) := by decide +kernel
theorem dX12_explain_247 : decode cX12_explain 247 = .ok (.ireturn, 1) := by decide +kernel
theorem dX12_step_0 : decode cX12_step 0 = .ok (.aload_n 0, 1) := by decide +kernel
theorem dX12_step_1 : decode cX12_step 1 = .ok (.iconst 0, 1) := by decide +kernel
theorem dX12_step_2 : decode cX12_step 2 = .ok (.putfield 1, 3) := by decide +kernel
theorem dX12_step_5 : decode cX12_step 5 = .ok (.aload_n 0, 1) := by decide +kernel
theorem dX12_step_6 : decode cX12_step 6 = .ok (.getfield 135, 3) := by decide +kernel
theorem dX12_step_9 : decode cX12_step 9 = .ok (.ifCond .eq 26, 3) := by decide +kernel
theorem dX12_step_12 : decode cX12_step 12 = .ok (.iload_n 1, 1) := by decide +kernel
theorem dX12_step_13 : decode cX12_step 13 = .ok (.iconst 0, 1) := by decide +kernel
theorem dX12_step_14 : decode cX12_step 14 = .ok (.aload_n 0, 1) := by decide +kernel
theorem dX12_step_15 : decode cX12_step 15 = .ok (.getfield 482, 3) := by decide +kernel
theorem dX12_step_18 : decode cX12_step 18 = .ok (.iconst 1, 1) := by decide +kernel
theorem dX12_step_19 : decode cX12_step 19 = .ok (.isub, 1) := by decide +kernel
theorem dX12_step_20 : decode cX12_step 20 = .ok (.invokestatic 124, 3) := by decide +kernel
theorem dX12_step_23 : decode cX12_step 23 = .ok (.ifCond .eq 12, 3) := by decide +kernel
theorem dX12_step_26 : decode cX12_step 26 = .ok (.aload_n 0, 1) := by decide +kernel
theorem dX12_step_27 : decode cX12_step 27 = .ok (.getfield 95, 3) := by decide +kernel
theorem dX12_step_30 : decode cX12_step 30 = .ok (.iload_n 1, 1) := by decide +kernel
theorem dX12_step_31 : decode cX12_step 31 = .ok (.iaload, 1) := by decide +kernel
theorem dX12_step_32 : decode cX12_step 32 = .ok (.goto 4, 3) := by decide +kernel
theorem dX12_step_35 : decode cX12_step 35 = .ok (.iconst (-1), 1) := by decide +kernel
theorem dX12_step_36 : decode cX12_step 36 = .ok (.ireturn, 1) := by decide +kernel
theorem dX12_readsFrom_0 : decode cX12_readsFrom 0 = .ok (.aload_n 0, 1) := by decide +kernel
theorem dX12_readsFrom_1 : decode cX12_readsFrom 1 = .ok (.aload_n 0, 1) := by decide +kernel
theorem dX12_readsFrom_2 : decode cX12_readsFrom 2 = .ok (.iload_n 1, 1) := by decide +kernel
theorem dX12_readsFrom_3 : decode cX12_readsFrom 3 = .ok (.invokevirtual 297, 3) := by decide +kernel
theorem dX12_readsFrom_6 : decode cX12_readsFrom 6 = .ok (.ifCond .ne 7, 3) := by decide +kernel
theorem dX12_readsFrom_9 : decode cX12_readsFrom 9 = .ok (.iconst 1, 1) := by decide +kernel
theorem dX12_readsFrom_10 : decode cX12_readsFrom 10 = .ok (.goto 4, 3) := by decide +kernel
theorem dX12_readsFrom_13 : decode cX12_readsFrom 13 = .ok (.iconst 0, 1) := by decide +kernel
theorem dX12_readsFrom_14 : decode cX12_readsFrom 14 = .ok (.aload_n 0, 1) := by decide +kernel
theorem dX12_readsFrom_15 : decode cX12_readsFrom 15 = .ok (.iload_n 1, 1) := by decide +kernel
theorem dX12_readsFrom_16 : decode cX12_readsFrom 16 = .ok (.invokevirtual 297, 3) := by decide +kernel
theorem dX12_readsFrom_19 : decode cX12_readsFrom 19 = .ok (.ifCond .eq 22, 3) := by decide +kernel
theorem dX12_readsFrom_22 : decode cX12_readsFrom 22 = .ok (.aload_n 0, 1) := by decide +kernel
theorem dX12_readsFrom_23 : decode cX12_readsFrom 23 = .ok (.iload_n 1, 1) := by decide +kernel
theorem dX12_readsFrom_24 : decode cX12_readsFrom 24 = .ok (.invokevirtual 441, 3) := by decide +kernel
theorem dX12_readsFrom_27 : decode cX12_readsFrom 27 = .ok (.ifCond .eq 10, 3) := by decide +kernel
theorem dX12_readsFrom_30 : decode cX12_readsFrom 30 = .ok (.aload_n 0, 1) := by decide +kernel
theorem dX12_readsFrom_31 : decode cX12_readsFrom 31 = .ok (.getfield 135, 3) := by decide +kernel
theorem dX12_readsFrom_34 : decode cX12_readsFrom 34 = .ok (.ifCond .ne 7, 3) := by decide +kernel
theorem dX12_readsFrom_37 : decode cX12_readsFrom 37 = .ok (.iconst 1, 1) := by decide +kernel
theorem dX12_readsFrom_38 : decode cX12_readsFrom 38 = .ok (.goto 4, 3) := by decide +kernel
theorem dX12_readsFrom_41 : decode cX12_readsFrom 41 = .ok (.iconst 0, 1) := by decide +kernel
theorem dX12_readsFrom_42 : decode cX12_readsFrom 42 = .ok (.iconst 0, 1) := by decide +kernel
theorem dX12_readsFrom_43 : decode cX12_readsFrom 43 = .ok (.invokevirtual 300, 3) := by decide +kernel
theorem dX12_readsFrom_46 : decode cX12_readsFrom 46 = .ok (.ifCond .eq 5, 3) := by decide +kernel
theorem dX12_readsFrom_49 : decode cX12_readsFrom 49 = .ok (.iconst 0, 1) := by decide +kernel
theorem dX12_readsFrom_50 : decode cX12_readsFrom 50 = .ok (.ireturn, 1) := by decide +kernel
theorem dX12_readsFrom_51 : decode cX12_readsFrom 51 = .ok (.aload_n 0, 1) := by decide +kernel
theorem dX12_readsFrom_52 : decode cX12_readsFrom 52 = .ok (.getfield 98, 3) := by decide +kernel
theorem dX12_readsFrom_55 : decode cX12_readsFrom 55 = .ok (.iload_n 1, 1) := by decide +kernel
theorem dX12_readsFrom_56 : decode cX12_readsFrom 56 = .ok (.iaload, 1) := by decide +kernel
theorem dX12_readsFrom_57 : decode cX12_readsFrom 57 = .ok (.ireturn, 1) := by decide +kernel
theorem dX12_writtenBy_0 : decode cX12_writtenBy 0 = .ok (.aload_n 0, 1) := by decide +kernel
theorem dX12_writtenBy_1 : decode cX12_writtenBy 1 = .ok (.iload_n 1, 1) := by decide +kernel
theorem dX12_writtenBy_2 : decode cX12_writtenBy 2 = .ok (.iconst 0, 1) := by decide +kernel
theorem dX12_writtenBy_3 : decode cX12_writtenBy 3 = .ok (.aload_n 0, 1) := by decide +kernel
theorem dX12_writtenBy_4 : decode cX12_writtenBy 4 = .ok (.getfield 17, 3) := by decide +kernel
theorem dX12_writtenBy_7 : decode cX12_writtenBy 7 = .ok (.iconst 2, 1) := by decide +kernel
theorem dX12_writtenBy_8 : decode cX12_writtenBy 8 = .ok (.iaload, 1) := by decide +kernel
theorem dX12_writtenBy_9 : decode cX12_writtenBy 9 = .ok (.iconst 1, 1) := by decide +kernel
theorem dX12_writtenBy_10 : decode cX12_writtenBy 10 = .ok (.isub, 1) := by decide +kernel
theorem dX12_writtenBy_11 : decode cX12_writtenBy 11 = .ok (.invokestatic 124, 3) := by decide +kernel
theorem dX12_writtenBy_14 : decode cX12_writtenBy 14 = .ok (.ifCond .ne 7, 3) := by decide +kernel
theorem dX12_writtenBy_17 : decode cX12_writtenBy 17 = .ok (.iconst 1, 1) := by decide +kernel
theorem dX12_writtenBy_18 : decode cX12_writtenBy 18 = .ok (.goto 4, 3) := by decide +kernel
theorem dX12_writtenBy_21 : decode cX12_writtenBy 21 = .ok (.iconst 0, 1) := by decide +kernel
theorem dX12_writtenBy_22 : decode cX12_writtenBy 22 = .ok (.iconst 0, 1) := by decide +kernel
theorem dX12_writtenBy_23 : decode cX12_writtenBy 23 = .ok (.iconst 0, 1) := by decide +kernel
theorem dX12_writtenBy_24 : decode cX12_writtenBy 24 = .ok (.invokevirtual 300, 3) := by decide +kernel
theorem dX12_writtenBy_27 : decode cX12_writtenBy 27 = .ok (.ifCond .eq 5, 3) := by decide +kernel
theorem dX12_writtenBy_30 : decode cX12_writtenBy 30 = .ok (.iconst 0, 1) := by decide +kernel
theorem dX12_writtenBy_31 : decode cX12_writtenBy 31 = .ok (.ireturn, 1) := by decide +kernel
theorem dX12_writtenBy_32 : decode cX12_writtenBy 32 = .ok (.aload_n 0, 1) := by decide +kernel
theorem dX12_writtenBy_33 : decode cX12_writtenBy 33 = .ok (.getfield 135, 3) := by decide +kernel
theorem dX12_writtenBy_36 : decode cX12_writtenBy 36 = .ok (.ifCond .eq 33, 3) := by decide +kernel
theorem dX12_writtenBy_39 : decode cX12_writtenBy 39 = .ok (.iload_n 2, 1) := by decide +kernel
theorem dX12_writtenBy_40 : decode cX12_writtenBy 40 = .ok (.iconst 0, 1) := by decide +kernel
theorem dX12_writtenBy_41 : decode cX12_writtenBy 41 = .ok (.aload_n 0, 1) := by decide +kernel
theorem dX12_writtenBy_42 : decode cX12_writtenBy 42 = .ok (.getfield 104, 3) := by decide +kernel
theorem dX12_writtenBy_45 : decode cX12_writtenBy 45 = .ok (.iload_n 1, 1) := by decide +kernel
theorem dX12_writtenBy_46 : decode cX12_writtenBy 46 = .ok (.iaload, 1) := by decide +kernel
theorem dX12_writtenBy_47 : decode cX12_writtenBy 47 = .ok (.iconst 1, 1) := by decide +kernel
theorem dX12_writtenBy_48 : decode cX12_writtenBy 48 = .ok (.isub, 1) := by decide +kernel
theorem dX12_writtenBy_49 : decode cX12_writtenBy 49 = .ok (.invokestatic 124, 3) := by decide +kernel
theorem dX12_writtenBy_52 : decode cX12_writtenBy 52 = .ok (.ifCond .eq 17, 3) := by decide +kernel
theorem dX12_writtenBy_55 : decode cX12_writtenBy 55 = .ok (.aload_n 0, 1) := by decide +kernel
theorem dX12_writtenBy_56 : decode cX12_writtenBy 56 = .ok (.getfield 101, 3) := by decide +kernel
theorem dX12_writtenBy_59 : decode cX12_writtenBy 59 = .ok (.bipush 60, 2) := by decide +kernel
theorem dX12_writtenBy_61 : decode cX12_writtenBy 61 = .ok (.iload_n 1, 1) := by decide +kernel
theorem dX12_writtenBy_62 : decode cX12_writtenBy 62 = .ok (.imul, 1) := by decide +kernel
theorem dX12_writtenBy_63 : decode cX12_writtenBy 63 = .ok (.iload_n 2, 1) := by decide +kernel
theorem dX12_writtenBy_64 : decode cX12_writtenBy 64 = .ok (.iadd, 1) := by decide +kernel
theorem dX12_writtenBy_65 : decode cX12_writtenBy 65 = .ok (.iaload, 1) := by decide +kernel
theorem dX12_writtenBy_66 : decode cX12_writtenBy 66 = .ok (.goto 4, 3) := by decide +kernel
theorem dX12_writtenBy_69 : decode cX12_writtenBy 69 = .ok (.iconst (-1), 1) := by decide +kernel
theorem dX12_writtenBy_70 : decode cX12_writtenBy 70 = .ok (.ireturn, 1) := by decide +kernel
theorem dX12_prints_0 : decode cX12_prints 0 = .ok (.aload_n 0, 1) := by decide +kernel
theorem dX12_prints_1 : decode cX12_prints 1 = .ok (.getfield 113, 3) := by decide +kernel
theorem dX12_prints_4 : decode cX12_prints 4 = .ok (.aload_n 0, 1) := by decide +kernel
theorem dX12_prints_5 : decode cX12_prints 5 = .ok (.getfield 495, 3) := by decide +kernel
theorem dX12_prints_8 : decode cX12_prints 8 = .ok (.iload_n 1, 1) := by decide +kernel
theorem dX12_prints_9 : decode cX12_prints 9 = .ok (.i2b, 1) := by decide +kernel
theorem dX12_prints_10 : decode cX12_prints 10 = .ok (.bastore, 1) := by decide +kernel
theorem dX12_prints_11 : decode cX12_prints 11 = .ok (.aload_n 0, 1) := by decide +kernel
theorem dX12_prints_12 : decode cX12_prints 12 = .ok (.dup, 1) := by decide +kernel
theorem dX12_prints_13 : decode cX12_prints 13 = .ok (.getfield 495, 3) := by decide +kernel
theorem dX12_prints_16 : decode cX12_prints 16 = .ok (.iconst 1, 1) := by decide +kernel
theorem dX12_prints_17 : decode cX12_prints 17 = .ok (.iadd, 1) := by decide +kernel
theorem dX12_prints_18 : decode cX12_prints 18 = .ok (.putfield 495, 3) := by decide +kernel
theorem dX12_prints_21 : decode cX12_prints 21 = .ok (.return_, 1) := by decide +kernel
theorem dX12_printsText_0 : decode cX12_printsText 0 = .ok (.iconst 0, 1) := by decide +kernel
theorem dX12_printsText_1 : decode cX12_printsText 1 = .ok (.istore_n 2, 1) := by decide +kernel
theorem dX12_printsText_2 : decode cX12_printsText 2 = .ok (.iload_n 2, 1) := by decide +kernel
theorem dX12_printsText_3 : decode cX12_printsText 3 = .ok (.aload_n 1, 1) := by decide +kernel
theorem dX12_printsText_4 : decode cX12_printsText 4 = .ok (.invokevirtual 168, 3) := by decide +kernel
theorem dX12_printsText_7 : decode cX12_printsText 7 = .ok (.if_icmp .ge 18, 3) := by decide +kernel
theorem dX12_printsText_10 : decode cX12_printsText 10 = .ok (.aload_n 0, 1) := by decide +kernel
theorem dX12_printsText_11 : decode cX12_printsText 11 = .ok (.aload_n 1, 1) := by decide +kernel
theorem dX12_printsText_12 : decode cX12_printsText 12 = .ok (.iload_n 2, 1) := by decide +kernel
theorem dX12_printsText_13 : decode cX12_printsText 13 = .ok (.invokevirtual 174, 3) := by decide +kernel
theorem dX12_printsText_16 : decode cX12_printsText 16 = .ok (.invokevirtual 498, 3) := by decide +kernel
theorem dX12_printsText_19 : decode cX12_printsText 19 = .ok (.iinc 2 1, 3) := by decide +kernel
theorem dX12_printsText_22 : decode cX12_printsText 22 = .ok (.goto (-20), 3) := by decide +kernel
theorem dX12_printsText_25 : decode cX12_printsText 25 = .ok (.return_, 1) := by decide +kernel
theorem dX12_printsName_0 : decode cX12_printsName 0 = .ok (.aload_n 0, 1) := by decide +kernel
theorem dX12_printsName_1 : decode cX12_printsName 1 = .ok (.bipush 32, 2) := by decide +kernel
theorem dX12_printsName_3 : decode cX12_printsName 3 = .ok (.invokevirtual 498, 3) := by decide +kernel
theorem dX12_printsName_6 : decode cX12_printsName 6 = .ok (.iconst 0, 1) := by decide +kernel
theorem dX12_printsName_7 : decode cX12_printsName 7 = .ok (.istore_n 2, 1) := by decide +kernel
theorem dX12_printsName_8 : decode cX12_printsName 8 = .ok (.iload_n 2, 1) := by decide +kernel
theorem dX12_printsName_9 : decode cX12_printsName 9 = .ok (.aload_n 0, 1) := by decide +kernel
theorem dX12_printsName_10 : decode cX12_printsName 10 = .ok (.getfield 29, 3) := by decide +kernel
theorem dX12_printsName_13 : decode cX12_printsName 13 = .ok (.iload_n 1, 1) := by decide +kernel
theorem dX12_printsName_14 : decode cX12_printsName 14 = .ok (.iaload, 1) := by decide +kernel
theorem dX12_printsName_15 : decode cX12_printsName 15 = .ok (.if_icmp .ge 24, 3) := by decide +kernel
theorem dX12_printsName_18 : decode cX12_printsName 18 = .ok (.aload_n 0, 1) := by decide +kernel
theorem dX12_printsName_19 : decode cX12_printsName 19 = .ok (.aload_n 0, 1) := by decide +kernel
theorem dX12_printsName_20 : decode cX12_printsName 20 = .ok (.getfield 26, 3) := by decide +kernel
theorem dX12_printsName_23 : decode cX12_printsName 23 = .ok (.bipush 8, 2) := by decide +kernel
theorem dX12_printsName_25 : decode cX12_printsName 25 = .ok (.iload_n 1, 1) := by decide +kernel
theorem dX12_printsName_26 : decode cX12_printsName 26 = .ok (.imul, 1) := by decide +kernel
theorem dX12_printsName_27 : decode cX12_printsName 27 = .ok (.iload_n 2, 1) := by decide +kernel
theorem dX12_printsName_28 : decode cX12_printsName 28 = .ok (.iadd, 1) := by decide +kernel
theorem dX12_printsName_29 : decode cX12_printsName 29 = .ok (.iaload, 1) := by decide +kernel
theorem dX12_printsName_30 : decode cX12_printsName 30 = .ok (.invokevirtual 498, 3) := by decide +kernel
theorem dX12_printsName_33 : decode cX12_printsName 33 = .ok (.iinc 2 1, 3) := by decide +kernel
theorem dX12_printsName_36 : decode cX12_printsName 36 = .ok (.goto (-28), 3) := by decide +kernel
theorem dX12_printsName_39 : decode cX12_printsName 39 = .ok (.return_, 1) := by decide +kernel
theorem dX12_printsRegister_0 : decode cX12_printsRegister 0 = .ok (.aload_n 0, 1) := by decide +kernel
theorem dX12_printsRegister_1 : decode cX12_printsRegister 1 = .ok (.ldc_w 501, 3) := by decide +kernel
theorem dX12_printsRegister_4 : decode cX12_printsRegister 4 = .ok (.invokevirtual 503, 3) := by decide +kernel
theorem dX12_printsRegister_7 : decode cX12_printsRegister 7 = .ok (.aload_n 0, 1) := by decide +kernel
theorem dX12_printsRegister_8 : decode cX12_printsRegister 8 = .ok (.bipush 48, 2) := by decide +kernel
theorem dX12_printsRegister_10 : decode cX12_printsRegister 10 = .ok (.iload_n 1, 1) := by decide +kernel
theorem dX12_printsRegister_11 : decode cX12_printsRegister 11 = .ok (.iadd, 1) := by decide +kernel
theorem dX12_printsRegister_12 : decode cX12_printsRegister 12 = .ok (.invokevirtual 498, 3) := by decide +kernel
theorem dX12_printsRegister_15 : decode cX12_printsRegister 15 = .ok (.return_, 1) := by decide +kernel
theorem dX12_printsInstruction_0 : decode cX12_printsInstruction 0 = .ok (.aload_n 0, 1) := by decide +kernel
theorem dX12_printsInstruction_1 : decode cX12_printsInstruction 1 = .ok (.aload_n 0, 1) := by decide +kernel
theorem dX12_printsInstruction_2 : decode cX12_printsInstruction 2 = .ok (.iload_n 1, 1) := by decide +kernel
theorem dX12_printsInstruction_3 : decode cX12_printsInstruction 3 = .ok (.iconst 1, 1) := by decide +kernel
theorem dX12_printsInstruction_4 : decode cX12_printsInstruction 4 = .ok (.invokevirtual 304, 3) := by decide +kernel
theorem dX12_printsInstruction_7 : decode cX12_printsInstruction 7 = .ok (.invokestatic 186, 3) := by decide +kernel
theorem dX12_printsInstruction_10 : decode cX12_printsInstruction 10 = .ok (.invokevirtual 503, 3) := by decide +kernel
theorem dX12_printsInstruction_13 : decode cX12_printsInstruction 13 = .ok (.aload_n 0, 1) := by decide +kernel
theorem dX12_printsInstruction_14 : decode cX12_printsInstruction 14 = .ok (.iload_n 1, 1) := by decide +kernel
theorem dX12_printsInstruction_15 : decode cX12_printsInstruction 15 = .ok (.iconst 3, 1) := by decide +kernel
theorem dX12_printsInstruction_16 : decode cX12_printsInstruction 16 = .ok (.invokevirtual 304, 3) := by decide +kernel
theorem dX12_printsInstruction_19 : decode cX12_printsInstruction 19 = .ok (.iconst (-1), 1) := by decide +kernel
theorem dX12_printsInstruction_20 : decode cX12_printsInstruction 20 = .ok (.if_icmp .eq 13, 3) := by decide +kernel
theorem dX12_printsInstruction_23 : decode cX12_printsInstruction 23 = .ok (.aload_n 0, 1) := by decide +kernel
theorem dX12_printsInstruction_24 : decode cX12_printsInstruction 24 = .ok (.aload_n 0, 1) := by decide +kernel
theorem dX12_printsInstruction_25 : decode cX12_printsInstruction 25 = .ok (.iload_n 1, 1) := by decide +kernel
theorem dX12_printsInstruction_26 : decode cX12_printsInstruction 26 = .ok (.iconst 3, 1) := by decide +kernel
theorem dX12_printsInstruction_27 : decode cX12_printsInstruction 27 = .ok (.invokevirtual 304, 3) := by decide +kernel
theorem dX12_printsInstruction_30 : decode cX12_printsInstruction 30 = .ok (.invokevirtual 507, 3) := by decide +kernel
theorem dX12_printsInstruction_33 : decode cX12_printsInstruction 33 = .ok (.aload_n 0, 1) := by decide +kernel
theorem dX12_printsInstruction_34 : decode cX12_printsInstruction 34 = .ok (.iload_n 1, 1) := by decide +kernel
theorem dX12_printsInstruction_35 : decode cX12_printsInstruction 35 = .ok (.iconst 2, 1) := by decide +kernel
theorem dX12_printsInstruction_36 : decode cX12_printsInstruction 36 = .ok (.invokevirtual 304, 3) := by decide +kernel
theorem dX12_printsInstruction_39 : decode cX12_printsInstruction 39 = .ok (.iconst (-1), 1) := by decide +kernel
theorem dX12_printsInstruction_40 : decode cX12_printsInstruction 40 = .ok (.if_icmp .eq 13, 3) := by decide +kernel
theorem dX12_printsInstruction_43 : decode cX12_printsInstruction 43 = .ok (.aload_n 0, 1) := by decide +kernel
theorem dX12_printsInstruction_44 : decode cX12_printsInstruction 44 = .ok (.aload_n 0, 1) := by decide +kernel
theorem dX12_printsInstruction_45 : decode cX12_printsInstruction 45 = .ok (.iload_n 1, 1) := by decide +kernel
theorem dX12_printsInstruction_46 : decode cX12_printsInstruction 46 = .ok (.iconst 2, 1) := by decide +kernel
theorem dX12_printsInstruction_47 : decode cX12_printsInstruction 47 = .ok (.invokevirtual 304, 3) := by decide +kernel
theorem dX12_printsInstruction_50 : decode cX12_printsInstruction 50 = .ok (.invokevirtual 510, 3) := by decide +kernel
theorem dX12_printsInstruction_53 : decode cX12_printsInstruction 53 = .ok (.aload_n 0, 1) := by decide +kernel
theorem dX12_printsInstruction_54 : decode cX12_printsInstruction 54 = .ok (.iload_n 1, 1) := by decide +kernel
theorem dX12_printsInstruction_55 : decode cX12_printsInstruction 55 = .ok (.iconst 5, 1) := by decide +kernel
theorem dX12_printsInstruction_56 : decode cX12_printsInstruction 56 = .ok (.invokevirtual 304, 3) := by decide +kernel
theorem dX12_printsInstruction_59 : decode cX12_printsInstruction 59 = .ok (.iconst (-1), 1) := by decide +kernel
theorem dX12_printsInstruction_60 : decode cX12_printsInstruction 60 = .ok (.if_icmp .eq 16, 3) := by decide +kernel
theorem dX12_printsInstruction_63 : decode cX12_printsInstruction 63 = .ok (.aload_n 0, 1) := by decide +kernel
theorem dX12_printsInstruction_64 : decode cX12_printsInstruction 64 = .ok (.aload_n 0, 1) := by decide +kernel
theorem dX12_printsInstruction_65 : decode cX12_printsInstruction 65 = .ok (.iload_n 1, 1) := by decide +kernel
theorem dX12_printsInstruction_66 : decode cX12_printsInstruction 66 = .ok (.iconst 5, 1) := by decide +kernel
theorem dX12_printsInstruction_67 : decode cX12_printsInstruction 67 = .ok (.invokevirtual 304, 3) := by decide +kernel
theorem dX12_printsInstruction_70 : decode cX12_printsInstruction 70 = .ok (.invokevirtual 507, 3) := by decide +kernel
theorem dX12_printsInstruction_73 : decode cX12_printsInstruction 73 = .ok (.goto 32, 3) := by decide +kernel
theorem dX12_printsInstruction_76 : decode cX12_printsInstruction 76 = .ok (.aload_n 0, 1) := by decide +kernel
theorem dX12_printsInstruction_77 : decode cX12_printsInstruction 77 = .ok (.iload_n 1, 1) := by decide +kernel
theorem dX12_printsInstruction_78 : decode cX12_printsInstruction 78 = .ok (.iconst 4, 1) := by decide +kernel
theorem dX12_printsInstruction_79 : decode cX12_printsInstruction 79 = .ok (.invokevirtual 304, 3) := by decide +kernel
theorem dX12_printsInstruction_82 : decode cX12_printsInstruction 82 = .ok (.iconst (-1), 1) := by decide +kernel
theorem dX12_printsInstruction_83 : decode cX12_printsInstruction 83 = .ok (.if_icmp .eq 22, 3) := by decide +kernel
theorem dX12_printsInstruction_86 : decode cX12_printsInstruction 86 = .ok (.aload_n 0, 1) := by decide +kernel
theorem dX12_printsInstruction_87 : decode cX12_printsInstruction 87 = .ok (.bipush 32, 2) := by decide +kernel
theorem dX12_printsInstruction_89 : decode cX12_printsInstruction 89 = .ok (.invokevirtual 498, 3) := by decide +kernel
theorem dX12_printsInstruction_92 : decode cX12_printsInstruction 92 = .ok (.aload_n 0, 1) := by decide +kernel
theorem dX12_printsInstruction_93 : decode cX12_printsInstruction 93 = .ok (.bipush 48, 2) := by decide +kernel
theorem dX12_printsInstruction_95 : decode cX12_printsInstruction 95 = .ok (.aload_n 0, 1) := by decide +kernel
theorem dX12_printsInstruction_96 : decode cX12_printsInstruction 96 = .ok (.iload_n 1, 1) := by decide +kernel
theorem dX12_printsInstruction_97 : decode cX12_printsInstruction 97 = .ok (.iconst 4, 1) := by decide +kernel
theorem dX12_printsInstruction_98 : decode cX12_printsInstruction 98 = .ok (.invokevirtual 304, 3) := by decide +kernel
theorem dX12_printsInstruction_101 : decode cX12_printsInstruction 101 = .ok (.iadd, 1) := by decide +kernel
theorem dX12_printsInstruction_102 : decode cX12_printsInstruction 102 = .ok (.invokevirtual 498, 3) := by decide +kernel
theorem dX12_printsInstruction_105 : decode cX12_printsInstruction 105 = .ok (.aload_n 0, 1) := by decide +kernel
theorem dX12_printsInstruction_106 : decode cX12_printsInstruction 106 = .ok (.bipush 59, 2) := by decide +kernel
theorem dX12_printsInstruction_108 : decode cX12_printsInstruction 108 = .ok (.invokevirtual 498, 3) := by decide +kernel
theorem dX12_printsInstruction_111 : decode cX12_printsInstruction 111 = .ok (.return_, 1) := by decide +kernel
theorem dX12_write_0 : decode cX12_write 0 = .ok (.aload_n 0, 1) := by decide +kernel
theorem dX12_write_1 : decode cX12_write 1 = .ok (.iconst 0, 1) := by decide +kernel
theorem dX12_write_2 : decode cX12_write 2 = .ok (.putfield 1, 3) := by decide +kernel
theorem dX12_write_5 : decode cX12_write 5 = .ok (.aload_n 0, 1) := by decide +kernel
theorem dX12_write_6 : decode cX12_write 6 = .ok (.iconst 0, 1) := by decide +kernel
theorem dX12_write_7 : decode cX12_write 7 = .ok (.putfield 495, 3) := by decide +kernel
theorem dX12_write_10 : decode cX12_write 10 = .ok (.iconst 0, 1) := by decide +kernel
theorem dX12_write_11 : decode cX12_write 11 = .ok (.istore_n 1, 1) := by decide +kernel
theorem dX12_write_12 : decode cX12_write 12 = .ok (.iload_n 1, 1) := by decide +kernel
theorem dX12_write_13 : decode cX12_write 13 = .ok (.aload_n 0, 1) := by decide +kernel
theorem dX12_write_14 : decode cX12_write 14 = .ok (.getfield 17, 3) := by decide +kernel
theorem dX12_write_17 : decode cX12_write 17 = .ok (.iconst 2, 1) := by decide +kernel
theorem dX12_write_18 : decode cX12_write 18 = .ok (.iaload, 1) := by decide +kernel
theorem dX12_write_19 : decode cX12_write 19 = .ok (.if_icmp .ge 47, 3) := by decide +kernel
theorem dX12_write_22 : decode cX12_write 22 = .ok (.aload_n 0, 1) := by decide +kernel
theorem dX12_write_23 : decode cX12_write 23 = .ok (.ldc 197, 2) := by decide +kernel
theorem dX12_write_25 : decode cX12_write 25 = .ok (.invokevirtual 503, 3) := by decide +kernel
theorem dX12_write_28 : decode cX12_write 28 = .ok (.aload_n 0, 1) := by decide +kernel
theorem dX12_write_29 : decode cX12_write 29 = .ok (.iload_n 1, 1) := by decide +kernel
theorem dX12_write_30 : decode cX12_write 30 = .ok (.invokevirtual 510, 3) := by decide +kernel
theorem dX12_write_33 : decode cX12_write 33 = .ok (.aload_n 0, 1) := by decide +kernel
theorem dX12_write_34 : decode cX12_write 34 = .ok (.bipush 32, 2) := by decide +kernel
theorem dX12_write_36 : decode cX12_write 36 = .ok (.invokevirtual 498, 3) := by decide +kernel
theorem dX12_write_39 : decode cX12_write 39 = .ok (.aload_n 0, 1) := by decide +kernel
theorem dX12_write_40 : decode cX12_write 40 = .ok (.bipush 48, 2) := by decide +kernel
theorem dX12_write_42 : decode cX12_write 42 = .ok (.aload_n 0, 1) := by decide +kernel
theorem dX12_write_43 : decode cX12_write 43 = .ok (.getfield 17, 3) := by decide +kernel
theorem dX12_write_46 : decode cX12_write 46 = .ok (.iconst 3, 1) := by decide +kernel
theorem dX12_write_47 : decode cX12_write 47 = .ok (.iload_n 1, 1) := by decide +kernel
theorem dX12_write_48 : decode cX12_write 48 = .ok (.iadd, 1) := by decide +kernel
theorem dX12_write_49 : decode cX12_write 49 = .ok (.iaload, 1) := by decide +kernel
theorem dX12_write_50 : decode cX12_write 50 = .ok (.iadd, 1) := by decide +kernel
theorem dX12_write_51 : decode cX12_write 51 = .ok (.invokevirtual 498, 3) := by decide +kernel
theorem dX12_write_54 : decode cX12_write 54 = .ok (.aload_n 0, 1) := by decide +kernel
theorem dX12_write_55 : decode cX12_write 55 = .ok (.bipush 59, 2) := by decide +kernel
theorem dX12_write_57 : decode cX12_write 57 = .ok (.invokevirtual 498, 3) := by decide +kernel
theorem dX12_write_60 : decode cX12_write 60 = .ok (.iinc 1 1, 3) := by decide +kernel
theorem dX12_write_63 : decode cX12_write 63 = .ok (.goto (-51), 3) := by decide +kernel
theorem dX12_write_66 : decode cX12_write 66 = .ok (.iconst 0, 1) := by decide +kernel
theorem dX12_write_67 : decode cX12_write 67 = .ok (.istore_n 1, 1) := by decide +kernel
theorem dX12_write_68 : decode cX12_write 68 = .ok (.iconst 0, 1) := by decide +kernel
theorem dX12_write_69 : decode cX12_write 69 = .ok (.istore_n 2, 1) := by decide +kernel
theorem dX12_write_70 : decode cX12_write 70 = .ok (.iload_n 2, 1) := by decide +kernel
theorem dX12_write_71 : decode cX12_write 71 = .ok (.aload_n 0, 1) := by decide +kernel
theorem dX12_write_72 : decode cX12_write 72 = .ok (.getfield 17, 3) := by decide +kernel
theorem dX12_write_75 : decode cX12_write 75 = .ok (.iconst 1, 1) := by decide +kernel
theorem dX12_write_76 : decode cX12_write 76 = .ok (.iaload, 1) := by decide +kernel
theorem dX12_write_77 : decode cX12_write 77 = .ok (.if_icmp .ge 47, 3) := by decide +kernel
theorem dX12_write_80 : decode cX12_write 80 = .ok (.aload_n 0, 1) := by decide +kernel
theorem dX12_write_81 : decode cX12_write 81 = .ok (.ldc_w 513, 3) := by decide +kernel
theorem dX12_write_84 : decode cX12_write 84 = .ok (.invokevirtual 503, 3) := by decide +kernel
theorem dX12_write_87 : decode cX12_write 87 = .ok (.iload_n 1, 1) := by decide +kernel
theorem dX12_write_88 : decode cX12_write 88 = .ok (.aload_n 0, 1) := by decide +kernel
theorem dX12_write_89 : decode cX12_write 89 = .ok (.getfield 17, 3) := by decide +kernel
theorem dX12_write_92 : decode cX12_write 92 = .ok (.iconst 0, 1) := by decide +kernel
theorem dX12_write_93 : decode cX12_write 93 = .ok (.iaload, 1) := by decide +kernel
theorem dX12_write_94 : decode cX12_write 94 = .ok (.if_icmp .ge 24, 3) := by decide +kernel
theorem dX12_write_97 : decode cX12_write 97 = .ok (.aload_n 0, 1) := by decide +kernel
theorem dX12_write_98 : decode cX12_write 98 = .ok (.iload_n 1, 1) := by decide +kernel
theorem dX12_write_99 : decode cX12_write 99 = .ok (.iconst 0, 1) := by decide +kernel
theorem dX12_write_100 : decode cX12_write 100 = .ok (.invokevirtual 304, 3) := by decide +kernel
theorem dX12_write_103 : decode cX12_write 103 = .ok (.iload_n 2, 1) := by decide +kernel
theorem dX12_write_104 : decode cX12_write 104 = .ok (.if_icmp .ne 14, 3) := by decide +kernel
theorem dX12_write_107 : decode cX12_write 107 = .ok (.aload_n 0, 1) := by decide +kernel
theorem dX12_write_108 : decode cX12_write 108 = .ok (.iload_n 1, 1) := by decide +kernel
theorem dX12_write_109 : decode cX12_write 109 = .ok (.invokevirtual 515, 3) := by decide +kernel
theorem dX12_write_112 : decode cX12_write 112 = .ok (.iinc 1 1, 3) := by decide +kernel
theorem dX12_write_115 : decode cX12_write 115 = .ok (.goto (-28), 3) := by decide +kernel
theorem dX12_write_118 : decode cX12_write 118 = .ok (.iinc 2 1, 3) := by decide +kernel
theorem dX12_write_121 : decode cX12_write 121 = .ok (.goto (-51), 3) := by decide +kernel
theorem dX12_write_124 : decode cX12_write 124 = .ok (.aload_n 0, 1) := by decide +kernel
theorem dX12_write_125 : decode cX12_write 125 = .ok (.getfield 495, 3) := by decide +kernel
theorem dX12_write_128 : decode cX12_write 128 = .ok (.ireturn, 1) := by decide +kernel
theorem dX12_outputByte_0 : decode cX12_outputByte 0 = .ok (.aload_n 0, 1) := by decide +kernel
theorem dX12_outputByte_1 : decode cX12_outputByte 1 = .ok (.iload_n 1, 1) := by decide +kernel
theorem dX12_outputByte_2 : decode cX12_outputByte 2 = .ok (.iconst 0, 1) := by decide +kernel
theorem dX12_outputByte_3 : decode cX12_outputByte 3 = .ok (.aload_n 0, 1) := by decide +kernel
theorem dX12_outputByte_4 : decode cX12_outputByte 4 = .ok (.getfield 495, 3) := by decide +kernel
theorem dX12_outputByte_7 : decode cX12_outputByte 7 = .ok (.iconst 1, 1) := by decide +kernel
theorem dX12_outputByte_8 : decode cX12_outputByte 8 = .ok (.isub, 1) := by decide +kernel
theorem dX12_outputByte_9 : decode cX12_outputByte 9 = .ok (.invokestatic 124, 3) := by decide +kernel
theorem dX12_outputByte_12 : decode cX12_outputByte 12 = .ok (.ifCond .ne 7, 3) := by decide +kernel
theorem dX12_outputByte_15 : decode cX12_outputByte 15 = .ok (.iconst 1, 1) := by decide +kernel
theorem dX12_outputByte_16 : decode cX12_outputByte 16 = .ok (.goto 4, 3) := by decide +kernel
theorem dX12_outputByte_19 : decode cX12_outputByte 19 = .ok (.iconst 0, 1) := by decide +kernel
theorem dX12_outputByte_20 : decode cX12_outputByte 20 = .ok (.iconst 0, 1) := by decide +kernel
theorem dX12_outputByte_21 : decode cX12_outputByte 21 = .ok (.iconst 0, 1) := by decide +kernel
theorem dX12_outputByte_22 : decode cX12_outputByte 22 = .ok (.invokevirtual 300, 3) := by decide +kernel
theorem dX12_outputByte_25 : decode cX12_outputByte 25 = .ok (.ifCond .eq 7, 3) := by decide +kernel
theorem dX12_outputByte_28 : decode cX12_outputByte 28 = .ok (.iconst 0, 1) := by decide +kernel
theorem dX12_outputByte_29 : decode cX12_outputByte 29 = .ok (.goto 9, 3) := by decide +kernel
theorem dX12_outputByte_32 : decode cX12_outputByte 32 = .ok (.aload_n 0, 1) := by decide +kernel
theorem dX12_outputByte_33 : decode cX12_outputByte 33 = .ok (.getfield 113, 3) := by decide +kernel
theorem dX12_outputByte_36 : decode cX12_outputByte 36 = .ok (.iload_n 1, 1) := by decide +kernel
theorem dX12_outputByte_37 : decode cX12_outputByte 37 = .ok (.baload, 1) := by decide +kernel
theorem dX12_outputByte_38 : decode cX12_outputByte 38 = .ok (.ireturn, 1) := by decide +kernel
theorem dJ6_bitCount_0f7a4_0 : decode cJ6_bitCount_0f7a4 0 = .ok (.iload_n 0, 1) := by decide +kernel
theorem dJ6_bitCount_0f7a4_1 : decode cJ6_bitCount_0f7a4 1 = .ok (.iload_n 0, 1) := by decide +kernel
theorem dJ6_bitCount_0f7a4_2 : decode cJ6_bitCount_0f7a4 2 = .ok (.iconst 1, 1) := by decide +kernel
theorem dJ6_bitCount_0f7a4_3 : decode cJ6_bitCount_0f7a4 3 = .ok (.iushr, 1) := by decide +kernel
theorem dJ6_bitCount_0f7a4_4 : decode cJ6_bitCount_0f7a4 4 = .ok (.ldc_w 265, 3) := by decide +kernel
theorem dJ6_bitCount_0f7a4_7 : decode cJ6_bitCount_0f7a4 7 = .ok (.iand, 1) := by decide +kernel
theorem dJ6_bitCount_0f7a4_8 : decode cJ6_bitCount_0f7a4 8 = .ok (.isub, 1) := by decide +kernel
theorem dJ6_bitCount_0f7a4_9 : decode cJ6_bitCount_0f7a4 9 = .ok (.istore_n 0, 1) := by decide +kernel
theorem dJ6_bitCount_0f7a4_10 : decode cJ6_bitCount_0f7a4 10 = .ok (.iload_n 0, 1) := by decide +kernel
theorem dJ6_bitCount_0f7a4_11 : decode cJ6_bitCount_0f7a4 11 = .ok (.ldc_w 266, 3) := by decide +kernel
theorem dJ6_bitCount_0f7a4_14 : decode cJ6_bitCount_0f7a4 14 = .ok (.iand, 1) := by decide +kernel
theorem dJ6_bitCount_0f7a4_15 : decode cJ6_bitCount_0f7a4 15 = .ok (.iload_n 0, 1) := by decide +kernel
theorem dJ6_bitCount_0f7a4_16 : decode cJ6_bitCount_0f7a4 16 = .ok (.iconst 2, 1) := by decide +kernel
theorem dJ6_bitCount_0f7a4_17 : decode cJ6_bitCount_0f7a4 17 = .ok (.iushr, 1) := by decide +kernel
theorem dJ6_bitCount_0f7a4_18 : decode cJ6_bitCount_0f7a4 18 = .ok (.ldc_w 266, 3) := by decide +kernel
theorem dJ6_bitCount_0f7a4_21 : decode cJ6_bitCount_0f7a4 21 = .ok (.iand, 1) := by decide +kernel
theorem dJ6_bitCount_0f7a4_22 : decode cJ6_bitCount_0f7a4 22 = .ok (.iadd, 1) := by decide +kernel
theorem dJ6_bitCount_0f7a4_23 : decode cJ6_bitCount_0f7a4 23 = .ok (.istore_n 0, 1) := by decide +kernel
theorem dJ6_bitCount_0f7a4_24 : decode cJ6_bitCount_0f7a4 24 = .ok (.iload_n 0, 1) := by decide +kernel
theorem dJ6_bitCount_0f7a4_25 : decode cJ6_bitCount_0f7a4 25 = .ok (.iload_n 0, 1) := by decide +kernel
theorem dJ6_bitCount_0f7a4_26 : decode cJ6_bitCount_0f7a4 26 = .ok (.iconst 4, 1) := by decide +kernel
theorem dJ6_bitCount_0f7a4_27 : decode cJ6_bitCount_0f7a4 27 = .ok (.iushr, 1) := by decide +kernel
theorem dJ6_bitCount_0f7a4_28 : decode cJ6_bitCount_0f7a4 28 = .ok (.iadd, 1) := by decide +kernel
theorem dJ6_bitCount_0f7a4_29 : decode cJ6_bitCount_0f7a4 29 = .ok (.ldc_w 267, 3) := by decide +kernel
theorem dJ6_bitCount_0f7a4_32 : decode cJ6_bitCount_0f7a4 32 = .ok (.iand, 1) := by decide +kernel
theorem dJ6_bitCount_0f7a4_33 : decode cJ6_bitCount_0f7a4 33 = .ok (.istore_n 0, 1) := by decide +kernel
theorem dJ6_bitCount_0f7a4_34 : decode cJ6_bitCount_0f7a4 34 = .ok (.iload_n 0, 1) := by decide +kernel
theorem dJ6_bitCount_0f7a4_35 : decode cJ6_bitCount_0f7a4 35 = .ok (.iload_n 0, 1) := by decide +kernel
theorem dJ6_bitCount_0f7a4_36 : decode cJ6_bitCount_0f7a4 36 = .ok (.bipush 8, 2) := by decide +kernel
theorem dJ6_bitCount_0f7a4_38 : decode cJ6_bitCount_0f7a4 38 = .ok (.iushr, 1) := by decide +kernel
theorem dJ6_bitCount_0f7a4_39 : decode cJ6_bitCount_0f7a4 39 = .ok (.iadd, 1) := by decide +kernel
theorem dJ6_bitCount_0f7a4_40 : decode cJ6_bitCount_0f7a4 40 = .ok (.istore_n 0, 1) := by decide +kernel
theorem dJ6_bitCount_0f7a4_41 : decode cJ6_bitCount_0f7a4 41 = .ok (.iload_n 0, 1) := by decide +kernel
theorem dJ6_bitCount_0f7a4_42 : decode cJ6_bitCount_0f7a4 42 = .ok (.iload_n 0, 1) := by decide +kernel
theorem dJ6_bitCount_0f7a4_43 : decode cJ6_bitCount_0f7a4 43 = .ok (.bipush 16, 2) := by decide +kernel
theorem dJ6_bitCount_0f7a4_45 : decode cJ6_bitCount_0f7a4 45 = .ok (.iushr, 1) := by decide +kernel
theorem dJ6_bitCount_0f7a4_46 : decode cJ6_bitCount_0f7a4 46 = .ok (.iadd, 1) := by decide +kernel
theorem dJ6_bitCount_0f7a4_47 : decode cJ6_bitCount_0f7a4 47 = .ok (.istore_n 0, 1) := by decide +kernel
theorem dJ6_bitCount_0f7a4_48 : decode cJ6_bitCount_0f7a4 48 = .ok (.iload_n 0, 1) := by decide +kernel
theorem dJ6_bitCount_0f7a4_49 : decode cJ6_bitCount_0f7a4 49 = .ok (.bipush 63, 2) := by decide +kernel
theorem dJ6_bitCount_0f7a4_51 : decode cJ6_bitCount_0f7a4 51 = .ok (.iand, 1) := by decide +kernel
theorem dJ6_bitCount_0f7a4_52 : decode cJ6_bitCount_0f7a4 52 = .ok (.ireturn, 1) := by decide +kernel
theorem dJ9_max_7cf53_0 : decode cJ9_max_7cf53 0 = .ok (.iload_n 0, 1) := by decide +kernel
theorem dJ9_max_7cf53_1 : decode cJ9_max_7cf53 1 = .ok (.iload_n 1, 1) := by decide +kernel
theorem dJ9_max_7cf53_2 : decode cJ9_max_7cf53 2 = .ok (.if_icmp .lt 7, 3) := by decide +kernel
theorem dJ9_max_7cf53_5 : decode cJ9_max_7cf53 5 = .ok (.iload_n 0, 1) := by decide +kernel
theorem dJ9_max_7cf53_6 : decode cJ9_max_7cf53 6 = .ok (.goto 4, 3) := by decide +kernel
theorem dJ9_max_7cf53_9 : decode cJ9_max_7cf53 9 = .ok (.iload_n 1, 1) := by decide +kernel
theorem dJ9_max_7cf53_10 : decode cJ9_max_7cf53 10 = .ok (.ireturn, 1) := by decide +kernel
theorem dJ9_min_7cf53_0 : decode cJ9_min_7cf53 0 = .ok (.iload_n 0, 1) := by decide +kernel
theorem dJ9_min_7cf53_1 : decode cJ9_min_7cf53 1 = .ok (.iload_n 1, 1) := by decide +kernel
theorem dJ9_min_7cf53_2 : decode cJ9_min_7cf53 2 = .ok (.if_icmp .gt 7, 3) := by decide +kernel
theorem dJ9_min_7cf53_5 : decode cJ9_min_7cf53 5 = .ok (.iload_n 0, 1) := by decide +kernel
theorem dJ9_min_7cf53_6 : decode cJ9_min_7cf53 6 = .ok (.goto 4, 3) := by decide +kernel
theorem dJ9_min_7cf53_9 : decode cJ9_min_7cf53 9 = .ok (.iload_n 1, 1) := by decide +kernel
theorem dJ9_min_7cf53_10 : decode cJ9_min_7cf53 10 = .ok (.ireturn, 1) := by decide +kernel
theorem dJ0_length_8abf5_0 : decode cJ0_length_8abf5 0 = .ok (.aload_n 0, 1) := by decide +kernel
theorem dJ0_length_8abf5_1 : decode cJ0_length_8abf5 1 = .ok (.getfield 9, 3) := by decide +kernel
theorem dJ0_length_8abf5_4 : decode cJ0_length_8abf5 4 = .ok (.arraylength, 1) := by decide +kernel
theorem dJ0_length_8abf5_5 : decode cJ0_length_8abf5 5 = .ok (.aload_n 0, 1) := by decide +kernel
theorem dJ0_length_8abf5_6 : decode cJ0_length_8abf5 6 = .ok (.invokevirtual 335, 3) := by decide +kernel
theorem dJ0_length_8abf5_9 : decode cJ0_length_8abf5 9 = .ok (.ishr, 1) := by decide +kernel
theorem dJ0_length_8abf5_10 : decode cJ0_length_8abf5 10 = .ok (.ireturn, 1) := by decide +kernel
theorem dJ0_charAt_5068e_0 : decode cJ0_charAt_5068e 0 = .ok (.aload_n 0, 1) := by decide +kernel
theorem dJ0_charAt_5068e_1 : decode cJ0_charAt_5068e 1 = .ok (.invokevirtual 492, 3) := by decide +kernel
theorem dJ0_charAt_5068e_4 : decode cJ0_charAt_5068e 4 = .ok (.ifCond .eq 12, 3) := by decide +kernel
theorem dJ0_charAt_5068e_7 : decode cJ0_charAt_5068e 7 = .ok (.aload_n 0, 1) := by decide +kernel
theorem dJ0_charAt_5068e_8 : decode cJ0_charAt_5068e 8 = .ok (.getfield 9, 3) := by decide +kernel
theorem dJ0_charAt_5068e_11 : decode cJ0_charAt_5068e 11 = .ok (.iload_n 1, 1) := by decide +kernel
theorem dJ0_charAt_5068e_12 : decode cJ0_charAt_5068e 12 = .ok (.invokestatic 495, 3) := by decide +kernel
theorem dJ0_charAt_5068e_15 : decode cJ0_charAt_5068e 15 = .ok (.ireturn, 1) := by decide +kernel
theorem dJ0_charAt_5068e_16 : decode cJ0_charAt_5068e 16 = .ok (.aload_n 0, 1) := by decide +kernel
theorem dJ0_charAt_5068e_17 : decode cJ0_charAt_5068e 17 = .ok (.getfield 9, 3) := by decide +kernel
theorem dJ0_charAt_5068e_20 : decode cJ0_charAt_5068e 20 = .ok (.iload_n 1, 1) := by decide +kernel
theorem dJ0_charAt_5068e_21 : decode cJ0_charAt_5068e 21 = .ok (.invokestatic 498, 3) := by decide +kernel
theorem dJ0_charAt_5068e_24 : decode cJ0_charAt_5068e 24 = .ok (.ireturn, 1) := by decide +kernel
theorem dJ0_coder_7d493_0 : decode cJ0_coder_7d493 0 = .ok (.getstatic 38, 3) := by decide +kernel
theorem dJ0_coder_7d493_3 : decode cJ0_coder_7d493 3 = .ok (.ifCond .eq 10, 3) := by decide +kernel
theorem dJ0_coder_7d493_6 : decode cJ0_coder_7d493 6 = .ok (.aload_n 0, 1) := by decide +kernel
theorem dJ0_coder_7d493_7 : decode cJ0_coder_7d493 7 = .ok (.getfield 15, 3) := by decide +kernel
theorem dJ0_coder_7d493_10 : decode cJ0_coder_7d493 10 = .ok (.goto 4, 3) := by decide +kernel
theorem dJ0_coder_7d493_13 : decode cJ0_coder_7d493 13 = .ok (.iconst 1, 1) := by decide +kernel
theorem dJ0_coder_7d493_14 : decode cJ0_coder_7d493 14 = .ok (.ireturn, 1) := by decide +kernel
theorem dJ0_isLatin1_aae02_0 : decode cJ0_isLatin1_aae02 0 = .ok (.getstatic 38, 3) := by decide +kernel
theorem dJ0_isLatin1_aae02_3 : decode cJ0_isLatin1_aae02 3 = .ok (.ifCond .eq 14, 3) := by decide +kernel
theorem dJ0_isLatin1_aae02_6 : decode cJ0_isLatin1_aae02 6 = .ok (.aload_n 0, 1) := by decide +kernel
theorem dJ0_isLatin1_aae02_7 : decode cJ0_isLatin1_aae02 7 = .ok (.getfield 15, 3) := by decide +kernel
theorem dJ0_isLatin1_aae02_10 : decode cJ0_isLatin1_aae02 10 = .ok (.ifCond .ne 7, 3) := by decide +kernel
theorem dJ0_isLatin1_aae02_13 : decode cJ0_isLatin1_aae02 13 = .ok (.iconst 1, 1) := by decide +kernel
theorem dJ0_isLatin1_aae02_14 : decode cJ0_isLatin1_aae02 14 = .ok (.goto 4, 3) := by decide +kernel
theorem dJ0_isLatin1_aae02_17 : decode cJ0_isLatin1_aae02 17 = .ok (.iconst 0, 1) := by decide +kernel
theorem dJ0_isLatin1_aae02_18 : decode cJ0_isLatin1_aae02 18 = .ok (.ireturn, 1) := by decide +kernel
theorem dJ0_checkIndex_df160_0 : decode cJ0_checkIndex_df160 0 = .ok (.iload_n 0, 1) := by decide +kernel
theorem dJ0_checkIndex_df160_1 : decode cJ0_checkIndex_df160 1 = .ok (.iload_n 1, 1) := by decide +kernel
theorem dJ0_checkIndex_df160_2 : decode cJ0_checkIndex_df160 2 = .ok (.getstatic 1053, 3) := by decide +kernel
theorem dJ0_checkIndex_df160_5 : decode cJ0_checkIndex_df160 5 = .ok (.invokestatic 1059, 3) := by decide +kernel
theorem dJ0_checkIndex_df160_8 : decode cJ0_checkIndex_df160 8 = .ok (.pop, 1) := by decide +kernel
theorem dJ0_checkIndex_df160_9 : decode cJ0_checkIndex_df160 9 = .ok (.return_, 1) := by decide +kernel
theorem dJ1_charAt_3b067_0 : decode cJ1_charAt_3b067 0 = .ok (.iload_n 1, 1) := by decide +kernel
theorem dJ1_charAt_3b067_1 : decode cJ1_charAt_3b067 1 = .ok (.aload_n 0, 1) := by decide +kernel
theorem dJ1_charAt_3b067_2 : decode cJ1_charAt_3b067 2 = .ok (.arraylength, 1) := by decide +kernel
theorem dJ1_charAt_3b067_3 : decode cJ1_charAt_3b067 3 = .ok (.invokestatic 9, 3) := by decide +kernel
theorem dJ1_charAt_3b067_6 : decode cJ1_charAt_3b067 6 = .ok (.aload_n 0, 1) := by decide +kernel
theorem dJ1_charAt_3b067_7 : decode cJ1_charAt_3b067 7 = .ok (.iload_n 1, 1) := by decide +kernel
theorem dJ1_charAt_3b067_8 : decode cJ1_charAt_3b067 8 = .ok (.baload, 1) := by decide +kernel
theorem dJ1_charAt_3b067_9 : decode cJ1_charAt_3b067 9 = .ok (.sipush 255, 3) := by decide +kernel
theorem dJ1_charAt_3b067_12 : decode cJ1_charAt_3b067 12 = .ok (.iand, 1) := by decide +kernel
theorem dJ1_charAt_3b067_13 : decode cJ1_charAt_3b067 13 = .ok (.i2c, 1) := by decide +kernel
theorem dJ1_charAt_3b067_14 : decode cJ1_charAt_3b067 14 = .ok (.ireturn, 1) := by decide +kernel
theorem dJ2_getChar_3b067_0 : decode cJ2_getChar_3b067 0 = .ok (.getstatic 44, 3) := by decide +kernel
theorem dJ2_getChar_3b067_3 : decode cJ2_getChar_3b067 3 = .ok (.ifCond .ne 25, 3) := by decide +kernel
theorem dJ2_getChar_3b067_6 : decode cJ2_getChar_3b067 6 = .ok (.iload_n 1, 1) := by decide +kernel
theorem dJ2_getChar_3b067_7 : decode cJ2_getChar_3b067 7 = .ok (.ifCond .lt 11, 3) := by decide +kernel
theorem dJ2_getChar_3b067_10 : decode cJ2_getChar_3b067 10 = .ok (.iload_n 1, 1) := by decide +kernel
theorem dJ2_getChar_3b067_11 : decode cJ2_getChar_3b067 11 = .ok (.aload_n 0, 1) := by decide +kernel
theorem dJ2_getChar_3b067_12 : decode cJ2_getChar_3b067 12 = .ok (.invokestatic 48, 3) := by decide +kernel
theorem dJ2_getChar_3b067_15 : decode cJ2_getChar_3b067 15 = .ok (.if_icmp .lt 13, 3) := by decide +kernel
theorem dJ2_getChar_3b067_18 : decode cJ2_getChar_3b067 18 = .ok (.new 52, 3) := by decide +kernel
theorem dJ2_getChar_3b067_21 : decode cJ2_getChar_3b067 21 = .ok (.dup, 1) := by decide +kernel
theorem dJ2_getChar_3b067_22 : decode cJ2_getChar_3b067 22 = .ok (.ldc 54, 2) := by decide +kernel
theorem dJ2_getChar_3b067_24 : decode cJ2_getChar_3b067 24 = .ok (.invokespecial 56, 3) := by decide +kernel
theorem dJ2_getChar_3b067_27 : decode cJ2_getChar_3b067 27 = .ok (.athrow, 1) := by decide +kernel
theorem dJ2_getChar_3b067_28 : decode cJ2_getChar_3b067 28 = .ok (.iload_n 1, 1) := by decide +kernel
theorem dJ2_getChar_3b067_29 : decode cJ2_getChar_3b067 29 = .ok (.iconst 1, 1) := by decide +kernel
theorem dJ2_getChar_3b067_30 : decode cJ2_getChar_3b067 30 = .ok (.ishl, 1) := by decide +kernel
theorem dJ2_getChar_3b067_31 : decode cJ2_getChar_3b067 31 = .ok (.istore_n 1, 1) := by decide +kernel
theorem dJ2_getChar_3b067_32 : decode cJ2_getChar_3b067 32 = .ok (.aload_n 0, 1) := by decide +kernel
theorem dJ2_getChar_3b067_33 : decode cJ2_getChar_3b067 33 = .ok (.iload_n 1, 1) := by decide +kernel
theorem dJ2_getChar_3b067_34 : decode cJ2_getChar_3b067 34 = .ok (.iinc 1 1, 3) := by decide +kernel
theorem dJ2_getChar_3b067_37 : decode cJ2_getChar_3b067 37 = .ok (.baload, 1) := by decide +kernel
theorem dJ2_getChar_3b067_38 : decode cJ2_getChar_3b067 38 = .ok (.sipush 255, 3) := by decide +kernel
theorem dJ2_getChar_3b067_41 : decode cJ2_getChar_3b067 41 = .ok (.iand, 1) := by decide +kernel
theorem dJ2_getChar_3b067_42 : decode cJ2_getChar_3b067 42 = .ok (.getstatic 59, 3) := by decide +kernel
theorem dJ2_getChar_3b067_45 : decode cJ2_getChar_3b067 45 = .ok (.ishl, 1) := by decide +kernel
theorem dJ2_getChar_3b067_46 : decode cJ2_getChar_3b067 46 = .ok (.aload_n 0, 1) := by decide +kernel
theorem dJ2_getChar_3b067_47 : decode cJ2_getChar_3b067 47 = .ok (.iload_n 1, 1) := by decide +kernel
theorem dJ2_getChar_3b067_48 : decode cJ2_getChar_3b067 48 = .ok (.baload, 1) := by decide +kernel
theorem dJ2_getChar_3b067_49 : decode cJ2_getChar_3b067 49 = .ok (.sipush 255, 3) := by decide +kernel
theorem dJ2_getChar_3b067_52 : decode cJ2_getChar_3b067 52 = .ok (.iand, 1) := by decide +kernel
theorem dJ2_getChar_3b067_53 : decode cJ2_getChar_3b067 53 = .ok (.getstatic 63, 3) := by decide +kernel
theorem dJ2_getChar_3b067_56 : decode cJ2_getChar_3b067 56 = .ok (.ishl, 1) := by decide +kernel
theorem dJ2_getChar_3b067_57 : decode cJ2_getChar_3b067 57 = .ok (.ior, 1) := by decide +kernel
theorem dJ2_getChar_3b067_58 : decode cJ2_getChar_3b067 58 = .ok (.i2c, 1) := by decide +kernel
theorem dJ2_getChar_3b067_59 : decode cJ2_getChar_3b067 59 = .ok (.ireturn, 1) := by decide +kernel
theorem dJ2_length_9d52b_0 : decode cJ2_length_9d52b 0 = .ok (.aload_n 0, 1) := by decide +kernel
theorem dJ2_length_9d52b_1 : decode cJ2_length_9d52b 1 = .ok (.arraylength, 1) := by decide +kernel
theorem dJ2_length_9d52b_2 : decode cJ2_length_9d52b 2 = .ok (.iconst 1, 1) := by decide +kernel
theorem dJ2_length_9d52b_3 : decode cJ2_length_9d52b 3 = .ok (.ishr, 1) := by decide +kernel
theorem dJ2_length_9d52b_4 : decode cJ2_length_9d52b 4 = .ok (.ireturn, 1) := by decide +kernel
theorem dJ2_charAt_3b067_0 : decode cJ2_charAt_3b067 0 = .ok (.iload_n 1, 1) := by decide +kernel
theorem dJ2_charAt_3b067_1 : decode cJ2_charAt_3b067 1 = .ok (.aload_n 0, 1) := by decide +kernel
theorem dJ2_charAt_3b067_2 : decode cJ2_charAt_3b067 2 = .ok (.invokestatic 67, 3) := by decide +kernel
theorem dJ2_charAt_3b067_5 : decode cJ2_charAt_3b067 5 = .ok (.aload_n 0, 1) := by decide +kernel
theorem dJ2_charAt_3b067_6 : decode cJ2_charAt_3b067 6 = .ok (.iload_n 1, 1) := by decide +kernel
theorem dJ2_charAt_3b067_7 : decode cJ2_charAt_3b067 7 = .ok (.invokestatic 71, 3) := by decide +kernel
theorem dJ2_charAt_3b067_10 : decode cJ2_charAt_3b067 10 = .ok (.ireturn, 1) := by decide +kernel
theorem dJ2_checkIndex_2214a_0 : decode cJ2_checkIndex_2214a 0 = .ok (.iload_n 0, 1) := by decide +kernel
theorem dJ2_checkIndex_2214a_1 : decode cJ2_checkIndex_2214a 1 = .ok (.aload_n 1, 1) := by decide +kernel
theorem dJ2_checkIndex_2214a_2 : decode cJ2_checkIndex_2214a 2 = .ok (.invokestatic 48, 3) := by decide +kernel
theorem dJ2_checkIndex_2214a_5 : decode cJ2_checkIndex_2214a 5 = .ok (.invokestatic 414, 3) := by decide +kernel
theorem dJ2_checkIndex_2214a_8 : decode cJ2_checkIndex_2214a 8 = .ok (.return_, 1) := by decide +kernel
theorem dJ7_fill_53178_0 : decode cJ7_fill_53178 0 = .ok (.iconst 0, 1) := by decide +kernel
theorem dJ7_fill_53178_1 : decode cJ7_fill_53178 1 = .ok (.istore_n 2, 1) := by decide +kernel
theorem dJ7_fill_53178_2 : decode cJ7_fill_53178 2 = .ok (.aload_n 0, 1) := by decide +kernel
theorem dJ7_fill_53178_3 : decode cJ7_fill_53178 3 = .ok (.arraylength, 1) := by decide +kernel
theorem dJ7_fill_53178_4 : decode cJ7_fill_53178 4 = .ok (.istore_n 3, 1) := by decide +kernel
theorem dJ7_fill_53178_5 : decode cJ7_fill_53178 5 = .ok (.iload_n 2, 1) := by decide +kernel
theorem dJ7_fill_53178_6 : decode cJ7_fill_53178 6 = .ok (.iload_n 3, 1) := by decide +kernel
theorem dJ7_fill_53178_7 : decode cJ7_fill_53178 7 = .ok (.if_icmp .ge 13, 3) := by decide +kernel
theorem dJ7_fill_53178_10 : decode cJ7_fill_53178 10 = .ok (.aload_n 0, 1) := by decide +kernel
theorem dJ7_fill_53178_11 : decode cJ7_fill_53178 11 = .ok (.iload_n 2, 1) := by decide +kernel
theorem dJ7_fill_53178_12 : decode cJ7_fill_53178 12 = .ok (.iload_n 1, 1) := by decide +kernel
theorem dJ7_fill_53178_13 : decode cJ7_fill_53178 13 = .ok (.iastore, 1) := by decide +kernel
theorem dJ7_fill_53178_14 : decode cJ7_fill_53178 14 = .ok (.iinc 2 1, 3) := by decide +kernel
theorem dJ7_fill_53178_17 : decode cJ7_fill_53178 17 = .ok (.goto (-12), 3) := by decide +kernel
theorem dJ7_fill_53178_20 : decode cJ7_fill_53178 20 = .ok (.return_, 1) := by decide +kernel
theorem dJ7_copyOf_c38d5_0 : decode cJ7_copyOf_c38d5 0 = .ok (.iload_n 1, 1) := by decide +kernel
theorem dJ7_copyOf_c38d5_1 : decode cJ7_copyOf_c38d5 1 = .ok (.aload_n 0, 1) := by decide +kernel
theorem dJ7_copyOf_c38d5_2 : decode cJ7_copyOf_c38d5 2 = .ok (.arraylength, 1) := by decide +kernel
theorem dJ7_copyOf_c38d5_3 : decode cJ7_copyOf_c38d5 3 = .ok (.if_icmp .ne 11, 3) := by decide +kernel
theorem dJ7_copyOf_c38d5_6 : decode cJ7_copyOf_c38d5 6 = .ok (.aload_n 0, 1) := by decide +kernel
theorem dJ7_copyOf_c38d5_7 : decode cJ7_copyOf_c38d5 7 = .ok (.invokevirtual 319, 3) := by decide +kernel
theorem dJ7_copyOf_c38d5_10 : decode cJ7_copyOf_c38d5 10 = .ok (.checkcast 320, 3) := by decide +kernel
theorem dJ7_copyOf_c38d5_13 : decode cJ7_copyOf_c38d5 13 = .ok (.areturn, 1) := by decide +kernel
theorem dJ7_copyOf_c38d5_14 : decode cJ7_copyOf_c38d5 14 = .ok (.iload_n 1, 1) := by decide +kernel
theorem dJ7_copyOf_c38d5_15 : decode cJ7_copyOf_c38d5 15 = .ok (.newarray .long, 2) := by decide +kernel
theorem dJ7_copyOf_c38d5_17 : decode cJ7_copyOf_c38d5 17 = .ok (.astore_n 2, 1) := by decide +kernel
theorem dJ7_copyOf_c38d5_18 : decode cJ7_copyOf_c38d5 18 = .ok (.aload_n 0, 1) := by decide +kernel
theorem dJ7_copyOf_c38d5_19 : decode cJ7_copyOf_c38d5 19 = .ok (.iconst 0, 1) := by decide +kernel
theorem dJ7_copyOf_c38d5_20 : decode cJ7_copyOf_c38d5 20 = .ok (.aload_n 2, 1) := by decide +kernel
theorem dJ7_copyOf_c38d5_21 : decode cJ7_copyOf_c38d5 21 = .ok (.iconst 0, 1) := by decide +kernel
theorem dJ7_copyOf_c38d5_22 : decode cJ7_copyOf_c38d5 22 = .ok (.aload_n 0, 1) := by decide +kernel
theorem dJ7_copyOf_c38d5_23 : decode cJ7_copyOf_c38d5 23 = .ok (.arraylength, 1) := by decide +kernel
theorem dJ7_copyOf_c38d5_24 : decode cJ7_copyOf_c38d5 24 = .ok (.iload_n 1, 1) := by decide +kernel
theorem dJ7_copyOf_c38d5_25 : decode cJ7_copyOf_c38d5 25 = .ok (.invokestatic 304, 3) := by decide +kernel
theorem dJ7_copyOf_c38d5_28 : decode cJ7_copyOf_c38d5 28 = .ok (.invokestatic 150, 3) := by decide +kernel
theorem dJ7_copyOf_c38d5_31 : decode cJ7_copyOf_c38d5 31 = .ok (.aload_n 2, 1) := by decide +kernel
theorem dJ7_copyOf_c38d5_32 : decode cJ7_copyOf_c38d5 32 = .ok (.areturn, 1) := by decide +kernel
theorem dJ3_checkIndex_8e157_0 : decode cJ3_checkIndex_8e157 0 = .ok (.iload_n 0, 1) := by decide +kernel
theorem dJ3_checkIndex_8e157_1 : decode cJ3_checkIndex_8e157 1 = .ok (.ifCond .lt 8, 3) := by decide +kernel
theorem dJ3_checkIndex_8e157_4 : decode cJ3_checkIndex_8e157 4 = .ok (.iload_n 0, 1) := by decide +kernel
theorem dJ3_checkIndex_8e157_5 : decode cJ3_checkIndex_8e157 5 = .ok (.iload_n 1, 1) := by decide +kernel
theorem dJ3_checkIndex_8e157_6 : decode cJ3_checkIndex_8e157 6 = .ok (.if_icmp .lt 10, 3) := by decide +kernel
theorem dJ3_checkIndex_8e157_9 : decode cJ3_checkIndex_8e157 9 = .ok (.aload_n 2, 1) := by decide +kernel
theorem dJ3_checkIndex_8e157_10 : decode cJ3_checkIndex_8e157 10 = .ok (.iload_n 0, 1) := by decide +kernel
theorem dJ3_checkIndex_8e157_11 : decode cJ3_checkIndex_8e157 11 = .ok (.iload_n 1, 1) := by decide +kernel
theorem dJ3_checkIndex_8e157_12 : decode cJ3_checkIndex_8e157 12 = .ok (.invokestatic 95, 3) := by decide +kernel
theorem dJ3_checkIndex_8e157_15 : decode cJ3_checkIndex_8e157 15 = .ok (.athrow, 1) := by decide +kernel
theorem dJ3_checkIndex_8e157_16 : decode cJ3_checkIndex_8e157 16 = .ok (.iload_n 0, 1) := by decide +kernel
theorem dJ3_checkIndex_8e157_17 : decode cJ3_checkIndex_8e157 17 = .ok (.ireturn, 1) := by decide +kernel
theorem dL_instruction_0 : decode cL_instruction 0 = .ok (.aload_n 3, 1) := by decide +kernel
theorem dL_instruction_1 : decode cL_instruction 1 = .ok (.iconst 0, 1) := by decide +kernel
theorem dL_instruction_2 : decode cL_instruction 2 = .ok (.aload_n 0, 1) := by decide +kernel
theorem dL_instruction_3 : decode cL_instruction 3 = .ok (.iload_n 1, 1) := by decide +kernel
theorem dL_instruction_4 : decode cL_instruction 4 = .ok (.iload_n 2, 1) := by decide +kernel
theorem dL_instruction_5 : decode cL_instruction 5 = .ok (.invokevirtual 7, 3) := by decide +kernel
theorem dL_instruction_8 : decode cL_instruction 8 = .ok (.i2l, 1) := by decide +kernel
theorem dL_instruction_9 : decode cL_instruction 9 = .ok (.lastore, 1) := by decide +kernel
theorem dL_instruction_10 : decode cL_instruction 10 = .ok (.goto 7, 3) := by decide +kernel
theorem dL_instruction_13 : decode cL_instruction 13 = .ok (.astore 4, 2) := by decide +kernel
theorem dL_instruction_15 : decode cL_instruction 15 = .ok (.iconst 1, 1) := by decide +kernel
theorem dL_instruction_16 : decode cL_instruction 16 = .ok (.ireturn, 1) := by decide +kernel
theorem dL_instruction_17 : decode cL_instruction 17 = .ok (.iconst 0, 1) := by decide +kernel
theorem dL_instruction_18 : decode cL_instruction 18 = .ok (.ireturn, 1) := by decide +kernel
theorem dL_outputByte_0 : decode cL_outputByte 0 = .ok (.aload_n 2, 1) := by decide +kernel
theorem dL_outputByte_1 : decode cL_outputByte 1 = .ok (.iconst 0, 1) := by decide +kernel
theorem dL_outputByte_2 : decode cL_outputByte 2 = .ok (.aload_n 0, 1) := by decide +kernel
theorem dL_outputByte_3 : decode cL_outputByte 3 = .ok (.iload_n 1, 1) := by decide +kernel
theorem dL_outputByte_4 : decode cL_outputByte 4 = .ok (.invokevirtual 15, 3) := by decide +kernel
theorem dL_outputByte_7 : decode cL_outputByte 7 = .ok (.i2l, 1) := by decide +kernel
theorem dL_outputByte_8 : decode cL_outputByte 8 = .ok (.lastore, 1) := by decide +kernel
theorem dL_outputByte_9 : decode cL_outputByte 9 = .ok (.goto 6, 3) := by decide +kernel
theorem dL_outputByte_12 : decode cL_outputByte 12 = .ok (.astore_n 3, 1) := by decide +kernel
theorem dL_outputByte_13 : decode cL_outputByte 13 = .ok (.iconst 1, 1) := by decide +kernel
theorem dL_outputByte_14 : decode cL_outputByte 14 = .ok (.ireturn, 1) := by decide +kernel
theorem dL_outputByte_15 : decode cL_outputByte 15 = .ok (.iconst 0, 1) := by decide +kernel
theorem dL_outputByte_16 : decode cL_outputByte 16 = .ok (.ireturn, 1) := by decide +kernel
theorem dL_outcomeCount_0 : decode cL_outcomeCount 0 = .ok (.aload_n 2, 1) := by decide +kernel
theorem dL_outcomeCount_1 : decode cL_outcomeCount 1 = .ok (.iconst 0, 1) := by decide +kernel
theorem dL_outcomeCount_2 : decode cL_outcomeCount 2 = .ok (.aload_n 0, 1) := by decide +kernel
theorem dL_outcomeCount_3 : decode cL_outcomeCount 3 = .ok (.iload_n 1, 1) := by decide +kernel
theorem dL_outcomeCount_4 : decode cL_outcomeCount 4 = .ok (.invokevirtual 21, 3) := by decide +kernel
theorem dL_outcomeCount_7 : decode cL_outcomeCount 7 = .ok (.i2l, 1) := by decide +kernel
theorem dL_outcomeCount_8 : decode cL_outcomeCount 8 = .ok (.lastore, 1) := by decide +kernel
theorem dL_outcomeCount_9 : decode cL_outcomeCount 9 = .ok (.goto 6, 3) := by decide +kernel
theorem dL_outcomeCount_12 : decode cL_outcomeCount 12 = .ok (.astore_n 3, 1) := by decide +kernel
theorem dL_outcomeCount_13 : decode cL_outcomeCount 13 = .ok (.iconst 1, 1) := by decide +kernel
theorem dL_outcomeCount_14 : decode cL_outcomeCount 14 = .ok (.ireturn, 1) := by decide +kernel
theorem dL_outcomeCount_15 : decode cL_outcomeCount 15 = .ok (.iconst 0, 1) := by decide +kernel
theorem dL_outcomeCount_16 : decode cL_outcomeCount 16 = .ok (.ireturn, 1) := by decide +kernel
theorem dL_outcome_0 : decode cL_outcome 0 = .ok (.aload_n 3, 1) := by decide +kernel
theorem dL_outcome_1 : decode cL_outcome 1 = .ok (.iconst 0, 1) := by decide +kernel
theorem dL_outcome_2 : decode cL_outcome 2 = .ok (.aload_n 0, 1) := by decide +kernel
theorem dL_outcome_3 : decode cL_outcome 3 = .ok (.iload_n 1, 1) := by decide +kernel
theorem dL_outcome_4 : decode cL_outcome 4 = .ok (.iload_n 2, 1) := by decide +kernel
theorem dL_outcome_5 : decode cL_outcome 5 = .ok (.invokevirtual 26, 3) := by decide +kernel
theorem dL_outcome_8 : decode cL_outcome 8 = .ok (.i2l, 1) := by decide +kernel
theorem dL_outcome_9 : decode cL_outcome 9 = .ok (.lastore, 1) := by decide +kernel
theorem dL_outcome_10 : decode cL_outcome 10 = .ok (.goto 7, 3) := by decide +kernel
theorem dL_outcome_13 : decode cL_outcome 13 = .ok (.astore 4, 2) := by decide +kernel
theorem dL_outcome_15 : decode cL_outcome 15 = .ok (.iconst 1, 1) := by decide +kernel
theorem dL_outcome_16 : decode cL_outcome 16 = .ok (.ireturn, 1) := by decide +kernel
theorem dL_outcome_17 : decode cL_outcome 17 = .ok (.iconst 0, 1) := by decide +kernel
theorem dL_outcome_18 : decode cL_outcome 18 = .ok (.ireturn, 1) := by decide +kernel
theorem dL_hasOutcome_0 : decode cL_hasOutcome 0 = .ok (.aload_n 3, 1) := by decide +kernel
theorem dL_hasOutcome_1 : decode cL_hasOutcome 1 = .ok (.iconst 0, 1) := by decide +kernel
theorem dL_hasOutcome_2 : decode cL_hasOutcome 2 = .ok (.aload_n 0, 1) := by decide +kernel
theorem dL_hasOutcome_3 : decode cL_hasOutcome 3 = .ok (.iload_n 1, 1) := by decide +kernel
theorem dL_hasOutcome_4 : decode cL_hasOutcome 4 = .ok (.iload_n 2, 1) := by decide +kernel
theorem dL_hasOutcome_5 : decode cL_hasOutcome 5 = .ok (.invokevirtual 29, 3) := by decide +kernel
theorem dL_hasOutcome_8 : decode cL_hasOutcome 8 = .ok (.ifCond .eq 7, 3) := by decide +kernel
theorem dL_hasOutcome_11 : decode cL_hasOutcome 11 = .ok (.lconst 1, 1) := by decide +kernel
theorem dL_hasOutcome_12 : decode cL_hasOutcome 12 = .ok (.goto 4, 3) := by decide +kernel
theorem dL_hasOutcome_15 : decode cL_hasOutcome 15 = .ok (.lconst 0, 1) := by decide +kernel
theorem dL_hasOutcome_16 : decode cL_hasOutcome 16 = .ok (.lastore, 1) := by decide +kernel
theorem dL_hasOutcome_17 : decode cL_hasOutcome 17 = .ok (.goto 7, 3) := by decide +kernel
theorem dL_hasOutcome_20 : decode cL_hasOutcome 20 = .ok (.astore 4, 2) := by decide +kernel
theorem dL_hasOutcome_22 : decode cL_hasOutcome 22 = .ok (.iconst 1, 1) := by decide +kernel
theorem dL_hasOutcome_23 : decode cL_hasOutcome 23 = .ok (.ireturn, 1) := by decide +kernel
theorem dL_hasOutcome_24 : decode cL_hasOutcome 24 = .ok (.iconst 0, 1) := by decide +kernel
theorem dL_hasOutcome_25 : decode cL_hasOutcome 25 = .ok (.ireturn, 1) := by decide +kernel
theorem dL_extraOutcomes_0 : decode cL_extraOutcomes 0 = .ok (.aload_n 3, 1) := by decide +kernel
theorem dL_extraOutcomes_1 : decode cL_extraOutcomes 1 = .ok (.iconst 0, 1) := by decide +kernel
theorem dL_extraOutcomes_2 : decode cL_extraOutcomes 2 = .ok (.aload_n 0, 1) := by decide +kernel
theorem dL_extraOutcomes_3 : decode cL_extraOutcomes 3 = .ok (.iload_n 1, 1) := by decide +kernel
theorem dL_extraOutcomes_4 : decode cL_extraOutcomes 4 = .ok (.iload_n 2, 1) := by decide +kernel
theorem dL_extraOutcomes_5 : decode cL_extraOutcomes 5 = .ok (.invokevirtual 33, 3) := by decide +kernel
theorem dL_extraOutcomes_8 : decode cL_extraOutcomes 8 = .ok (.i2l, 1) := by decide +kernel
theorem dL_extraOutcomes_9 : decode cL_extraOutcomes 9 = .ok (.lastore, 1) := by decide +kernel
theorem dL_extraOutcomes_10 : decode cL_extraOutcomes 10 = .ok (.goto 7, 3) := by decide +kernel
theorem dL_extraOutcomes_13 : decode cL_extraOutcomes 13 = .ok (.astore 4, 2) := by decide +kernel
theorem dL_extraOutcomes_15 : decode cL_extraOutcomes 15 = .ok (.iconst 1, 1) := by decide +kernel
theorem dL_extraOutcomes_16 : decode cL_extraOutcomes 16 = .ok (.ireturn, 1) := by decide +kernel
theorem dL_extraOutcomes_17 : decode cL_extraOutcomes 17 = .ok (.iconst 0, 1) := by decide +kernel
theorem dL_extraOutcomes_18 : decode cL_extraOutcomes 18 = .ok (.ireturn, 1) := by decide +kernel
theorem dL_matchCount_0 : decode cL_matchCount 0 = .ok (.aload_n 2, 1) := by decide +kernel
theorem dL_matchCount_1 : decode cL_matchCount 1 = .ok (.iconst 0, 1) := by decide +kernel
theorem dL_matchCount_2 : decode cL_matchCount 2 = .ok (.aload_n 0, 1) := by decide +kernel
theorem dL_matchCount_3 : decode cL_matchCount 3 = .ok (.iload_n 1, 1) := by decide +kernel
theorem dL_matchCount_4 : decode cL_matchCount 4 = .ok (.invokevirtual 36, 3) := by decide +kernel
theorem dL_matchCount_7 : decode cL_matchCount 7 = .ok (.i2l, 1) := by decide +kernel
theorem dL_matchCount_8 : decode cL_matchCount 8 = .ok (.lastore, 1) := by decide +kernel
theorem dL_matchCount_9 : decode cL_matchCount 9 = .ok (.goto 6, 3) := by decide +kernel
theorem dL_matchCount_12 : decode cL_matchCount 12 = .ok (.astore_n 3, 1) := by decide +kernel
theorem dL_matchCount_13 : decode cL_matchCount 13 = .ok (.iconst 1, 1) := by decide +kernel
theorem dL_matchCount_14 : decode cL_matchCount 14 = .ok (.ireturn, 1) := by decide +kernel
theorem dL_matchCount_15 : decode cL_matchCount 15 = .ok (.iconst 0, 1) := by decide +kernel
theorem dL_matchCount_16 : decode cL_matchCount 16 = .ok (.ireturn, 1) := by decide +kernel
theorem dL_firstMatch_0 : decode cL_firstMatch 0 = .ok (.aload_n 2, 1) := by decide +kernel
theorem dL_firstMatch_1 : decode cL_firstMatch 1 = .ok (.iconst 0, 1) := by decide +kernel
theorem dL_firstMatch_2 : decode cL_firstMatch 2 = .ok (.aload_n 0, 1) := by decide +kernel
theorem dL_firstMatch_3 : decode cL_firstMatch 3 = .ok (.iload_n 1, 1) := by decide +kernel
theorem dL_firstMatch_4 : decode cL_firstMatch 4 = .ok (.invokevirtual 39, 3) := by decide +kernel
theorem dL_firstMatch_7 : decode cL_firstMatch 7 = .ok (.i2l, 1) := by decide +kernel
theorem dL_firstMatch_8 : decode cL_firstMatch 8 = .ok (.lastore, 1) := by decide +kernel
theorem dL_firstMatch_9 : decode cL_firstMatch 9 = .ok (.goto 6, 3) := by decide +kernel
theorem dL_firstMatch_12 : decode cL_firstMatch 12 = .ok (.astore_n 3, 1) := by decide +kernel
theorem dL_firstMatch_13 : decode cL_firstMatch 13 = .ok (.iconst 1, 1) := by decide +kernel
theorem dL_firstMatch_14 : decode cL_firstMatch 14 = .ok (.ireturn, 1) := by decide +kernel
theorem dL_firstMatch_15 : decode cL_firstMatch 15 = .ok (.iconst 0, 1) := by decide +kernel
theorem dL_firstMatch_16 : decode cL_firstMatch 16 = .ok (.ireturn, 1) := by decide +kernel
theorem dL_stateCount_0 : decode cL_stateCount 0 = .ok (.aload_n 2, 1) := by decide +kernel
theorem dL_stateCount_1 : decode cL_stateCount 1 = .ok (.iconst 0, 1) := by decide +kernel
theorem dL_stateCount_2 : decode cL_stateCount 2 = .ok (.aload_n 0, 1) := by decide +kernel
theorem dL_stateCount_3 : decode cL_stateCount 3 = .ok (.iload_n 1, 1) := by decide +kernel
theorem dL_stateCount_4 : decode cL_stateCount 4 = .ok (.invokevirtual 42, 3) := by decide +kernel
theorem dL_stateCount_7 : decode cL_stateCount 7 = .ok (.i2l, 1) := by decide +kernel
theorem dL_stateCount_8 : decode cL_stateCount 8 = .ok (.lastore, 1) := by decide +kernel
theorem dL_stateCount_9 : decode cL_stateCount 9 = .ok (.goto 6, 3) := by decide +kernel
theorem dL_stateCount_12 : decode cL_stateCount 12 = .ok (.astore_n 3, 1) := by decide +kernel
theorem dL_stateCount_13 : decode cL_stateCount 13 = .ok (.iconst 1, 1) := by decide +kernel
theorem dL_stateCount_14 : decode cL_stateCount 14 = .ok (.ireturn, 1) := by decide +kernel
theorem dL_stateCount_15 : decode cL_stateCount 15 = .ok (.iconst 0, 1) := by decide +kernel
theorem dL_stateCount_16 : decode cL_stateCount 16 = .ok (.ireturn, 1) := by decide +kernel
theorem dL_executionCount_0 : decode cL_executionCount 0 = .ok (.aload_n 2, 1) := by decide +kernel
theorem dL_executionCount_1 : decode cL_executionCount 1 = .ok (.iconst 0, 1) := by decide +kernel
theorem dL_executionCount_2 : decode cL_executionCount 2 = .ok (.aload_n 0, 1) := by decide +kernel
theorem dL_executionCount_3 : decode cL_executionCount 3 = .ok (.iload_n 1, 1) := by decide +kernel
theorem dL_executionCount_4 : decode cL_executionCount 4 = .ok (.invokevirtual 45, 3) := by decide +kernel
theorem dL_executionCount_7 : decode cL_executionCount 7 = .ok (.lastore, 1) := by decide +kernel
theorem dL_executionCount_8 : decode cL_executionCount 8 = .ok (.goto 6, 3) := by decide +kernel
theorem dL_executionCount_11 : decode cL_executionCount 11 = .ok (.astore_n 3, 1) := by decide +kernel
theorem dL_executionCount_12 : decode cL_executionCount 12 = .ok (.iconst 1, 1) := by decide +kernel
theorem dL_executionCount_13 : decode cL_executionCount 13 = .ok (.ireturn, 1) := by decide +kernel
theorem dL_executionCount_14 : decode cL_executionCount 14 = .ok (.iconst 0, 1) := by decide +kernel
theorem dL_executionCount_15 : decode cL_executionCount 15 = .ok (.ireturn, 1) := by decide +kernel
theorem dL_executionsWith_0 : decode cL_executionsWith 0 = .ok (.aload_n 3, 1) := by decide +kernel
theorem dL_executionsWith_1 : decode cL_executionsWith 1 = .ok (.iconst 0, 1) := by decide +kernel
theorem dL_executionsWith_2 : decode cL_executionsWith 2 = .ok (.aload_n 0, 1) := by decide +kernel
theorem dL_executionsWith_3 : decode cL_executionsWith 3 = .ok (.iload_n 1, 1) := by decide +kernel
theorem dL_executionsWith_4 : decode cL_executionsWith 4 = .ok (.iload_n 2, 1) := by decide +kernel
theorem dL_executionsWith_5 : decode cL_executionsWith 5 = .ok (.invokevirtual 49, 3) := by decide +kernel
theorem dL_executionsWith_8 : decode cL_executionsWith 8 = .ok (.lastore, 1) := by decide +kernel
theorem dL_executionsWith_9 : decode cL_executionsWith 9 = .ok (.goto 7, 3) := by decide +kernel
theorem dL_executionsWith_12 : decode cL_executionsWith 12 = .ok (.astore 4, 2) := by decide +kernel
theorem dL_executionsWith_14 : decode cL_executionsWith 14 = .ok (.iconst 1, 1) := by decide +kernel
theorem dL_executionsWith_15 : decode cL_executionsWith 15 = .ok (.ireturn, 1) := by decide +kernel
theorem dL_executionsWith_16 : decode cL_executionsWith 16 = .ok (.iconst 0, 1) := by decide +kernel
theorem dL_executionsWith_17 : decode cL_executionsWith 17 = .ok (.ireturn, 1) := by decide +kernel
theorem dL_readValues_0 : decode cL_readValues 0 = .ok (.aload_n 3, 1) := by decide +kernel
theorem dL_readValues_1 : decode cL_readValues 1 = .ok (.iconst 0, 1) := by decide +kernel
theorem dL_readValues_2 : decode cL_readValues 2 = .ok (.aload_n 0, 1) := by decide +kernel
theorem dL_readValues_3 : decode cL_readValues 3 = .ok (.iload_n 1, 1) := by decide +kernel
theorem dL_readValues_4 : decode cL_readValues 4 = .ok (.iload_n 2, 1) := by decide +kernel
theorem dL_readValues_5 : decode cL_readValues 5 = .ok (.invokevirtual 53, 3) := by decide +kernel
theorem dL_readValues_8 : decode cL_readValues 8 = .ok (.i2l, 1) := by decide +kernel
theorem dL_readValues_9 : decode cL_readValues 9 = .ok (.lastore, 1) := by decide +kernel
theorem dL_readValues_10 : decode cL_readValues 10 = .ok (.goto 15, 3) := by decide +kernel
theorem dL_readValues_13 : decode cL_readValues 13 = .ok (.astore 4, 2) := by decide +kernel
theorem dL_readValues_15 : decode cL_readValues 15 = .ok (.iconst 1, 1) := by decide +kernel
theorem dL_readValues_16 : decode cL_readValues 16 = .ok (.ireturn, 1) := by decide +kernel
theorem dL_readValues_17 : decode cL_readValues 17 = .ok (.astore 4, 2) := by decide +kernel
theorem dL_readValues_19 : decode cL_readValues 19 = .ok (.iconst 2, 1) := by decide +kernel
theorem dL_readValues_20 : decode cL_readValues 20 = .ok (.ireturn, 1) := by decide +kernel
theorem dL_readValues_21 : decode cL_readValues 21 = .ok (.astore 4, 2) := by decide +kernel
theorem dL_readValues_23 : decode cL_readValues 23 = .ok (.iconst 3, 1) := by decide +kernel
theorem dL_readValues_24 : decode cL_readValues 24 = .ok (.ireturn, 1) := by decide +kernel
theorem dL_readValues_25 : decode cL_readValues 25 = .ok (.iconst 0, 1) := by decide +kernel
theorem dL_readValues_26 : decode cL_readValues 26 = .ok (.ireturn, 1) := by decide +kernel
theorem dL_finalValues_0 : decode cL_finalValues 0 = .ok (.aload_n 3, 1) := by decide +kernel
theorem dL_finalValues_1 : decode cL_finalValues 1 = .ok (.iconst 0, 1) := by decide +kernel
theorem dL_finalValues_2 : decode cL_finalValues 2 = .ok (.aload_n 0, 1) := by decide +kernel
theorem dL_finalValues_3 : decode cL_finalValues 3 = .ok (.iload_n 1, 1) := by decide +kernel
theorem dL_finalValues_4 : decode cL_finalValues 4 = .ok (.iload_n 2, 1) := by decide +kernel
theorem dL_finalValues_5 : decode cL_finalValues 5 = .ok (.invokevirtual 56, 3) := by decide +kernel
theorem dL_finalValues_8 : decode cL_finalValues 8 = .ok (.i2l, 1) := by decide +kernel
theorem dL_finalValues_9 : decode cL_finalValues 9 = .ok (.lastore, 1) := by decide +kernel
theorem dL_finalValues_10 : decode cL_finalValues 10 = .ok (.goto 11, 3) := by decide +kernel
theorem dL_finalValues_13 : decode cL_finalValues 13 = .ok (.astore 4, 2) := by decide +kernel
theorem dL_finalValues_15 : decode cL_finalValues 15 = .ok (.iconst 1, 1) := by decide +kernel
theorem dL_finalValues_16 : decode cL_finalValues 16 = .ok (.ireturn, 1) := by decide +kernel
theorem dL_finalValues_17 : decode cL_finalValues 17 = .ok (.astore 4, 2) := by decide +kernel
theorem dL_finalValues_19 : decode cL_finalValues 19 = .ok (.iconst 2, 1) := by decide +kernel
theorem dL_finalValues_20 : decode cL_finalValues 20 = .ok (.ireturn, 1) := by decide +kernel
theorem dL_finalValues_21 : decode cL_finalValues 21 = .ok (.iconst 0, 1) := by decide +kernel
theorem dL_finalValues_22 : decode cL_finalValues 22 = .ok (.ireturn, 1) := by decide +kernel
theorem dL_greatestBuffer_0 : decode cL_greatestBuffer 0 = .ok (.aload_n 3, 1) := by decide +kernel
theorem dL_greatestBuffer_1 : decode cL_greatestBuffer 1 = .ok (.iconst 0, 1) := by decide +kernel
theorem dL_greatestBuffer_2 : decode cL_greatestBuffer 2 = .ok (.aload_n 0, 1) := by decide +kernel
theorem dL_greatestBuffer_3 : decode cL_greatestBuffer 3 = .ok (.iload_n 1, 1) := by decide +kernel
theorem dL_greatestBuffer_4 : decode cL_greatestBuffer 4 = .ok (.iload_n 2, 1) := by decide +kernel
theorem dL_greatestBuffer_5 : decode cL_greatestBuffer 5 = .ok (.invokevirtual 59, 3) := by decide +kernel
theorem dL_greatestBuffer_8 : decode cL_greatestBuffer 8 = .ok (.i2l, 1) := by decide +kernel
theorem dL_greatestBuffer_9 : decode cL_greatestBuffer 9 = .ok (.lastore, 1) := by decide +kernel
theorem dL_greatestBuffer_10 : decode cL_greatestBuffer 10 = .ok (.goto 11, 3) := by decide +kernel
theorem dL_greatestBuffer_13 : decode cL_greatestBuffer 13 = .ok (.astore 4, 2) := by decide +kernel
theorem dL_greatestBuffer_15 : decode cL_greatestBuffer 15 = .ok (.iconst 1, 1) := by decide +kernel
theorem dL_greatestBuffer_16 : decode cL_greatestBuffer 16 = .ok (.ireturn, 1) := by decide +kernel
theorem dL_greatestBuffer_17 : decode cL_greatestBuffer 17 = .ok (.astore 4, 2) := by decide +kernel
theorem dL_greatestBuffer_19 : decode cL_greatestBuffer 19 = .ok (.iconst 2, 1) := by decide +kernel
theorem dL_greatestBuffer_20 : decode cL_greatestBuffer 20 = .ok (.ireturn, 1) := by decide +kernel
theorem dL_greatestBuffer_21 : decode cL_greatestBuffer 21 = .ok (.iconst 0, 1) := by decide +kernel
theorem dL_greatestBuffer_22 : decode cL_greatestBuffer 22 = .ok (.ireturn, 1) := by decide +kernel
theorem dL_isRace_0 : decode cL_isRace 0 = .ok (.aload_n 3, 1) := by decide +kernel
theorem dL_isRace_1 : decode cL_isRace 1 = .ok (.iconst 0, 1) := by decide +kernel
theorem dL_isRace_2 : decode cL_isRace 2 = .ok (.aload_n 0, 1) := by decide +kernel
theorem dL_isRace_3 : decode cL_isRace 3 = .ok (.iload_n 1, 1) := by decide +kernel
theorem dL_isRace_4 : decode cL_isRace 4 = .ok (.iload_n 2, 1) := by decide +kernel
theorem dL_isRace_5 : decode cL_isRace 5 = .ok (.invokevirtual 62, 3) := by decide +kernel
theorem dL_isRace_8 : decode cL_isRace 8 = .ok (.ifCond .eq 7, 3) := by decide +kernel
theorem dL_isRace_11 : decode cL_isRace 11 = .ok (.lconst 1, 1) := by decide +kernel
theorem dL_isRace_12 : decode cL_isRace 12 = .ok (.goto 4, 3) := by decide +kernel
theorem dL_isRace_15 : decode cL_isRace 15 = .ok (.lconst 0, 1) := by decide +kernel
theorem dL_isRace_16 : decode cL_isRace 16 = .ok (.lastore, 1) := by decide +kernel
theorem dL_isRace_17 : decode cL_isRace 17 = .ok (.goto 7, 3) := by decide +kernel
theorem dL_isRace_20 : decode cL_isRace 20 = .ok (.astore 4, 2) := by decide +kernel
theorem dL_isRace_22 : decode cL_isRace 22 = .ok (.iconst 1, 1) := by decide +kernel
theorem dL_isRace_23 : decode cL_isRace 23 = .ok (.ireturn, 1) := by decide +kernel
theorem dL_isRace_24 : decode cL_isRace 24 = .ok (.iconst 0, 1) := by decide +kernel
theorem dL_isRace_25 : decode cL_isRace 25 = .ok (.ireturn, 1) := by decide +kernel
theorem dL_matchesWith_0 : decode cL_matchesWith 0 = .ok (.aload_n 3, 1) := by decide +kernel
theorem dL_matchesWith_1 : decode cL_matchesWith 1 = .ok (.iconst 0, 1) := by decide +kernel
theorem dL_matchesWith_2 : decode cL_matchesWith 2 = .ok (.aload_n 0, 1) := by decide +kernel
theorem dL_matchesWith_3 : decode cL_matchesWith 3 = .ok (.iload_n 1, 1) := by decide +kernel
theorem dL_matchesWith_4 : decode cL_matchesWith 4 = .ok (.iload_n 2, 1) := by decide +kernel
theorem dL_matchesWith_5 : decode cL_matchesWith 5 = .ok (.invokevirtual 65, 3) := by decide +kernel
theorem dL_matchesWith_8 : decode cL_matchesWith 8 = .ok (.i2l, 1) := by decide +kernel
theorem dL_matchesWith_9 : decode cL_matchesWith 9 = .ok (.lastore, 1) := by decide +kernel
theorem dL_matchesWith_10 : decode cL_matchesWith 10 = .ok (.goto 7, 3) := by decide +kernel
theorem dL_matchesWith_13 : decode cL_matchesWith 13 = .ok (.astore 4, 2) := by decide +kernel
theorem dL_matchesWith_15 : decode cL_matchesWith 15 = .ok (.iconst 1, 1) := by decide +kernel
theorem dL_matchesWith_16 : decode cL_matchesWith 16 = .ok (.ireturn, 1) := by decide +kernel
theorem dL_matchesWith_17 : decode cL_matchesWith 17 = .ok (.iconst 0, 1) := by decide +kernel
theorem dL_matchesWith_18 : decode cL_matchesWith 18 = .ok (.ireturn, 1) := by decide +kernel
theorem dL_fewestFences_0 : decode cL_fewestFences 0 = .ok (.aload_n 2, 1) := by decide +kernel
theorem dL_fewestFences_1 : decode cL_fewestFences 1 = .ok (.iconst 0, 1) := by decide +kernel
theorem dL_fewestFences_2 : decode cL_fewestFences 2 = .ok (.aload_n 0, 1) := by decide +kernel
theorem dL_fewestFences_3 : decode cL_fewestFences 3 = .ok (.iload_n 1, 1) := by decide +kernel
theorem dL_fewestFences_4 : decode cL_fewestFences 4 = .ok (.invokevirtual 68, 3) := by decide +kernel
theorem dL_fewestFences_7 : decode cL_fewestFences 7 = .ok (.i2l, 1) := by decide +kernel
theorem dL_fewestFences_8 : decode cL_fewestFences 8 = .ok (.lastore, 1) := by decide +kernel
theorem dL_fewestFences_9 : decode cL_fewestFences 9 = .ok (.goto 6, 3) := by decide +kernel
theorem dL_fewestFences_12 : decode cL_fewestFences 12 = .ok (.astore_n 3, 1) := by decide +kernel
theorem dL_fewestFences_13 : decode cL_fewestFences 13 = .ok (.iconst 1, 1) := by decide +kernel
theorem dL_fewestFences_14 : decode cL_fewestFences 14 = .ok (.ireturn, 1) := by decide +kernel
theorem dL_fewestFences_15 : decode cL_fewestFences 15 = .ok (.iconst 0, 1) := by decide +kernel
theorem dL_fewestFences_16 : decode cL_fewestFences 16 = .ok (.ireturn, 1) := by decide +kernel
theorem dL_repairingFences_0 : decode cL_repairingFences 0 = .ok (.aload_n 2, 1) := by decide +kernel
theorem dL_repairingFences_1 : decode cL_repairingFences 1 = .ok (.iconst 0, 1) := by decide +kernel
theorem dL_repairingFences_2 : decode cL_repairingFences 2 = .ok (.aload_n 0, 1) := by decide +kernel
theorem dL_repairingFences_3 : decode cL_repairingFences 3 = .ok (.iload_n 1, 1) := by decide +kernel
theorem dL_repairingFences_4 : decode cL_repairingFences 4 = .ok (.invokevirtual 71, 3) := by decide +kernel
theorem dL_repairingFences_7 : decode cL_repairingFences 7 = .ok (.i2l, 1) := by decide +kernel
theorem dL_repairingFences_8 : decode cL_repairingFences 8 = .ok (.lastore, 1) := by decide +kernel
theorem dL_repairingFences_9 : decode cL_repairingFences 9 = .ok (.goto 6, 3) := by decide +kernel
theorem dL_repairingFences_12 : decode cL_repairingFences 12 = .ok (.astore_n 3, 1) := by decide +kernel
theorem dL_repairingFences_13 : decode cL_repairingFences 13 = .ok (.iconst 1, 1) := by decide +kernel
theorem dL_repairingFences_14 : decode cL_repairingFences 14 = .ok (.ireturn, 1) := by decide +kernel
theorem dL_repairingFences_15 : decode cL_repairingFences 15 = .ok (.iconst 0, 1) := by decide +kernel
theorem dL_repairingFences_16 : decode cL_repairingFences 16 = .ok (.ireturn, 1) := by decide +kernel
theorem dL_isFenceNeeded_0 : decode cL_isFenceNeeded 0 = .ok (.aload_n 3, 1) := by decide +kernel
theorem dL_isFenceNeeded_1 : decode cL_isFenceNeeded 1 = .ok (.iconst 0, 1) := by decide +kernel
theorem dL_isFenceNeeded_2 : decode cL_isFenceNeeded 2 = .ok (.aload_n 0, 1) := by decide +kernel
theorem dL_isFenceNeeded_3 : decode cL_isFenceNeeded 3 = .ok (.iload_n 1, 1) := by decide +kernel
theorem dL_isFenceNeeded_4 : decode cL_isFenceNeeded 4 = .ok (.iload_n 2, 1) := by decide +kernel
theorem dL_isFenceNeeded_5 : decode cL_isFenceNeeded 5 = .ok (.invokevirtual 74, 3) := by decide +kernel
theorem dL_isFenceNeeded_8 : decode cL_isFenceNeeded 8 = .ok (.ifCond .eq 7, 3) := by decide +kernel
theorem dL_isFenceNeeded_11 : decode cL_isFenceNeeded 11 = .ok (.lconst 1, 1) := by decide +kernel
theorem dL_isFenceNeeded_12 : decode cL_isFenceNeeded 12 = .ok (.goto 4, 3) := by decide +kernel
theorem dL_isFenceNeeded_15 : decode cL_isFenceNeeded 15 = .ok (.lconst 0, 1) := by decide +kernel
theorem dL_isFenceNeeded_16 : decode cL_isFenceNeeded 16 = .ok (.lastore, 1) := by decide +kernel
theorem dL_isFenceNeeded_17 : decode cL_isFenceNeeded 17 = .ok (.goto 15, 3) := by decide +kernel
theorem dL_isFenceNeeded_20 : decode cL_isFenceNeeded 20 = .ok (.astore 4, 2) := by decide +kernel
theorem dL_isFenceNeeded_22 : decode cL_isFenceNeeded 22 = .ok (.iconst 1, 1) := by decide +kernel
theorem dL_isFenceNeeded_23 : decode cL_isFenceNeeded 23 = .ok (.ireturn, 1) := by decide +kernel
theorem dL_isFenceNeeded_24 : decode cL_isFenceNeeded 24 = .ok (.astore 4, 2) := by decide +kernel
theorem dL_isFenceNeeded_26 : decode cL_isFenceNeeded 26 = .ok (.iconst 2, 1) := by decide +kernel
theorem dL_isFenceNeeded_27 : decode cL_isFenceNeeded 27 = .ok (.ireturn, 1) := by decide +kernel
theorem dL_isFenceNeeded_28 : decode cL_isFenceNeeded 28 = .ok (.astore 4, 2) := by decide +kernel
theorem dL_isFenceNeeded_30 : decode cL_isFenceNeeded 30 = .ok (.iconst 3, 1) := by decide +kernel
theorem dL_isFenceNeeded_31 : decode cL_isFenceNeeded 31 = .ok (.ireturn, 1) := by decide +kernel
theorem dL_isFenceNeeded_32 : decode cL_isFenceNeeded 32 = .ok (.iconst 0, 1) := by decide +kernel
theorem dL_isFenceNeeded_33 : decode cL_isFenceNeeded 33 = .ok (.ireturn, 1) := by decide +kernel
theorem dL_insertFence_0 : decode cL_insertFence 0 = .ok (.aload_n 2, 1) := by decide +kernel
theorem dL_insertFence_1 : decode cL_insertFence 1 = .ok (.iconst 0, 1) := by decide +kernel
theorem dL_insertFence_2 : decode cL_insertFence 2 = .ok (.aload_n 0, 1) := by decide +kernel
theorem dL_insertFence_3 : decode cL_insertFence 3 = .ok (.iload_n 1, 1) := by decide +kernel
theorem dL_insertFence_4 : decode cL_insertFence 4 = .ok (.invokevirtual 77, 3) := by decide +kernel
theorem dL_insertFence_7 : decode cL_insertFence 7 = .ok (.i2l, 1) := by decide +kernel
theorem dL_insertFence_8 : decode cL_insertFence 8 = .ok (.lastore, 1) := by decide +kernel
theorem dL_insertFence_9 : decode cL_insertFence 9 = .ok (.goto 9, 3) := by decide +kernel
theorem dL_insertFence_12 : decode cL_insertFence 12 = .ok (.astore_n 3, 1) := by decide +kernel
theorem dL_insertFence_13 : decode cL_insertFence 13 = .ok (.iconst 1, 1) := by decide +kernel
theorem dL_insertFence_14 : decode cL_insertFence 14 = .ok (.ireturn, 1) := by decide +kernel
theorem dL_insertFence_15 : decode cL_insertFence 15 = .ok (.astore_n 3, 1) := by decide +kernel
theorem dL_insertFence_16 : decode cL_insertFence 16 = .ok (.iconst 2, 1) := by decide +kernel
theorem dL_insertFence_17 : decode cL_insertFence 17 = .ok (.ireturn, 1) := by decide +kernel
theorem dL_insertFence_18 : decode cL_insertFence 18 = .ok (.iconst 0, 1) := by decide +kernel
theorem dL_insertFence_19 : decode cL_insertFence 19 = .ok (.ireturn, 1) := by decide +kernel
theorem dL_removeFence_0 : decode cL_removeFence 0 = .ok (.aload_n 2, 1) := by decide +kernel
theorem dL_removeFence_1 : decode cL_removeFence 1 = .ok (.iconst 0, 1) := by decide +kernel
theorem dL_removeFence_2 : decode cL_removeFence 2 = .ok (.aload_n 0, 1) := by decide +kernel
theorem dL_removeFence_3 : decode cL_removeFence 3 = .ok (.iload_n 1, 1) := by decide +kernel
theorem dL_removeFence_4 : decode cL_removeFence 4 = .ok (.invokevirtual 82, 3) := by decide +kernel
theorem dL_removeFence_7 : decode cL_removeFence 7 = .ok (.i2l, 1) := by decide +kernel
theorem dL_removeFence_8 : decode cL_removeFence 8 = .ok (.lastore, 1) := by decide +kernel
theorem dL_removeFence_9 : decode cL_removeFence 9 = .ok (.goto 9, 3) := by decide +kernel
theorem dL_removeFence_12 : decode cL_removeFence 12 = .ok (.astore_n 3, 1) := by decide +kernel
theorem dL_removeFence_13 : decode cL_removeFence 13 = .ok (.iconst 1, 1) := by decide +kernel
theorem dL_removeFence_14 : decode cL_removeFence 14 = .ok (.ireturn, 1) := by decide +kernel
theorem dL_removeFence_15 : decode cL_removeFence 15 = .ok (.astore_n 3, 1) := by decide +kernel
theorem dL_removeFence_16 : decode cL_removeFence 16 = .ok (.iconst 2, 1) := by decide +kernel
theorem dL_removeFence_17 : decode cL_removeFence 17 = .ok (.ireturn, 1) := by decide +kernel
theorem dL_removeFence_18 : decode cL_removeFence 18 = .ok (.iconst 0, 1) := by decide +kernel
theorem dL_removeFence_19 : decode cL_removeFence 19 = .ok (.ireturn, 1) := by decide +kernel
theorem dL_explain_0 : decode cL_explain 0 = .ok (.aload_n 3, 1) := by decide +kernel
theorem dL_explain_1 : decode cL_explain 1 = .ok (.iconst 0, 1) := by decide +kernel
theorem dL_explain_2 : decode cL_explain 2 = .ok (.aload_n 0, 1) := by decide +kernel
theorem dL_explain_3 : decode cL_explain 3 = .ok (.iload_n 1, 1) := by decide +kernel
theorem dL_explain_4 : decode cL_explain 4 = .ok (.iload_n 2, 1) := by decide +kernel
theorem dL_explain_5 : decode cL_explain 5 = .ok (.invokevirtual 85, 3) := by decide +kernel
theorem dL_explain_8 : decode cL_explain 8 = .ok (.i2l, 1) := by decide +kernel
theorem dL_explain_9 : decode cL_explain 9 = .ok (.lastore, 1) := by decide +kernel
theorem dL_explain_10 : decode cL_explain 10 = .ok (.goto 7, 3) := by decide +kernel
theorem dL_explain_13 : decode cL_explain 13 = .ok (.astore 4, 2) := by decide +kernel
theorem dL_explain_15 : decode cL_explain 15 = .ok (.iconst 1, 1) := by decide +kernel
theorem dL_explain_16 : decode cL_explain 16 = .ok (.ireturn, 1) := by decide +kernel
theorem dL_explain_17 : decode cL_explain 17 = .ok (.iconst 0, 1) := by decide +kernel
theorem dL_explain_18 : decode cL_explain 18 = .ok (.ireturn, 1) := by decide +kernel
theorem dL_readsFrom_0 : decode cL_readsFrom 0 = .ok (.aload_n 2, 1) := by decide +kernel
theorem dL_readsFrom_1 : decode cL_readsFrom 1 = .ok (.iconst 0, 1) := by decide +kernel
theorem dL_readsFrom_2 : decode cL_readsFrom 2 = .ok (.aload_n 0, 1) := by decide +kernel
theorem dL_readsFrom_3 : decode cL_readsFrom 3 = .ok (.iload_n 1, 1) := by decide +kernel
theorem dL_readsFrom_4 : decode cL_readsFrom 4 = .ok (.invokevirtual 88, 3) := by decide +kernel
theorem dL_readsFrom_7 : decode cL_readsFrom 7 = .ok (.i2l, 1) := by decide +kernel
theorem dL_readsFrom_8 : decode cL_readsFrom 8 = .ok (.lastore, 1) := by decide +kernel
theorem dL_readsFrom_9 : decode cL_readsFrom 9 = .ok (.goto 9, 3) := by decide +kernel
theorem dL_readsFrom_12 : decode cL_readsFrom 12 = .ok (.astore_n 3, 1) := by decide +kernel
theorem dL_readsFrom_13 : decode cL_readsFrom 13 = .ok (.iconst 1, 1) := by decide +kernel
theorem dL_readsFrom_14 : decode cL_readsFrom 14 = .ok (.ireturn, 1) := by decide +kernel
theorem dL_readsFrom_15 : decode cL_readsFrom 15 = .ok (.astore_n 3, 1) := by decide +kernel
theorem dL_readsFrom_16 : decode cL_readsFrom 16 = .ok (.iconst 2, 1) := by decide +kernel
theorem dL_readsFrom_17 : decode cL_readsFrom 17 = .ok (.ireturn, 1) := by decide +kernel
theorem dL_readsFrom_18 : decode cL_readsFrom 18 = .ok (.iconst 0, 1) := by decide +kernel
theorem dL_readsFrom_19 : decode cL_readsFrom 19 = .ok (.ireturn, 1) := by decide +kernel
theorem dL_writtenBy_0 : decode cL_writtenBy 0 = .ok (.aload_n 3, 1) := by decide +kernel
theorem dL_writtenBy_1 : decode cL_writtenBy 1 = .ok (.iconst 0, 1) := by decide +kernel
theorem dL_writtenBy_2 : decode cL_writtenBy 2 = .ok (.aload_n 0, 1) := by decide +kernel
theorem dL_writtenBy_3 : decode cL_writtenBy 3 = .ok (.iload_n 1, 1) := by decide +kernel
theorem dL_writtenBy_4 : decode cL_writtenBy 4 = .ok (.iload_n 2, 1) := by decide +kernel
theorem dL_writtenBy_5 : decode cL_writtenBy 5 = .ok (.invokevirtual 91, 3) := by decide +kernel
theorem dL_writtenBy_8 : decode cL_writtenBy 8 = .ok (.i2l, 1) := by decide +kernel
theorem dL_writtenBy_9 : decode cL_writtenBy 9 = .ok (.lastore, 1) := by decide +kernel
theorem dL_writtenBy_10 : decode cL_writtenBy 10 = .ok (.goto 7, 3) := by decide +kernel
theorem dL_writtenBy_13 : decode cL_writtenBy 13 = .ok (.astore 4, 2) := by decide +kernel
theorem dL_writtenBy_15 : decode cL_writtenBy 15 = .ok (.iconst 1, 1) := by decide +kernel
theorem dL_writtenBy_16 : decode cL_writtenBy 16 = .ok (.ireturn, 1) := by decide +kernel
theorem dL_writtenBy_17 : decode cL_writtenBy 17 = .ok (.iconst 0, 1) := by decide +kernel
theorem dL_writtenBy_18 : decode cL_writtenBy 18 = .ok (.ireturn, 1) := by decide +kernel
theorem dL_law_0 : decode cL_law 0 = .ok (.new 8, 3) := by decide +kernel
theorem dL_law_3 : decode cL_law 3 = .ok (.dup, 1) := by decide +kernel
theorem dL_law_4 : decode cL_law 4 = .ok (.invokespecial 94, 3) := by decide +kernel
theorem dL_law_7 : decode cL_law 7 = .ok (.astore_n 1, 1) := by decide +kernel
theorem dL_law_8 : decode cL_law 8 = .ok (.new 95, 3) := by decide +kernel
theorem dL_law_11 : decode cL_law 11 = .ok (.dup, 1) := by decide +kernel
theorem dL_law_12 : decode cL_law 12 = .ok (.invokespecial 97, 3) := by decide +kernel
theorem dL_law_15 : decode cL_law 15 = .ok (.astore_n 2, 1) := by decide +kernel
theorem dL_law_16 : decode cL_law 16 = .ok (.iconst 1, 1) := by decide +kernel
theorem dL_law_17 : decode cL_law 17 = .ok (.newarray .long, 2) := by decide +kernel
theorem dL_law_19 : decode cL_law 19 = .ok (.astore_n 3, 1) := by decide +kernel
theorem dL_law_20 : decode cL_law 20 = .ok (.iconst 0, 1) := by decide +kernel
theorem dL_law_21 : decode cL_law 21 = .ok (.istore 4, 2) := by decide +kernel
theorem dL_law_23 : decode cL_law 23 = .ok (.iload 4, 2) := by decide +kernel
theorem dL_law_25 : decode cL_law 25 = .ok (.aload_n 0, 1) := by decide +kernel
theorem dL_law_26 : decode cL_law 26 = .ok (.arraylength, 1) := by decide +kernel
theorem dL_law_27 : decode cL_law 27 = .ok (.bipush 6, 2) := by decide +kernel
theorem dL_law_29 : decode cL_law 29 = .ok (.isub, 1) := by decide +kernel
theorem dL_law_30 : decode cL_law 30 = .ok (.if_icmp .gt 2010, 3) := by decide +kernel
theorem dL_law_33 : decode cL_law 33 = .ok (.aload_n 0, 1) := by decide +kernel
theorem dL_law_34 : decode cL_law 34 = .ok (.iload 4, 2) := by decide +kernel
theorem dL_law_36 : decode cL_law 36 = .ok (.iaload, 1) := by decide +kernel
theorem dL_law_37 : decode cL_law 37 = .ok (.bipush 63, 2) := by decide +kernel
theorem dL_law_39 : decode cL_law 39 = .ok (.iand, 1) := by decide +kernel
theorem dL_law_40 : decode cL_law 40 = .ok (.tableswitch 1994 0 38 #[172, 245, 270, 283, 296, 309, 322, 335, 403, 416, 429, 485, 541, 609, 684, 752, 777, 833, 889, 945, 1000, 1067, 1135, 1203, 1271, 1346, 1359, 1372, 1397, 1465, 1521, 1577, 1652, 1708, 1764, 1777, 1845, 1870, 1926], 172) := by decide +kernel
theorem dL_law_212 : decode cL_law 212 = .ok (.aload_n 1, 1) := by decide +kernel
theorem dL_law_213 : decode cL_law 213 = .ok (.aload_n 0, 1) := by decide +kernel
theorem dL_law_214 : decode cL_law 214 = .ok (.iload 4, 2) := by decide +kernel
theorem dL_law_216 : decode cL_law 216 = .ok (.iconst 1, 1) := by decide +kernel
theorem dL_law_217 : decode cL_law 217 = .ok (.iadd, 1) := by decide +kernel
theorem dL_law_218 : decode cL_law 218 = .ok (.iaload, 1) := by decide +kernel
theorem dL_law_219 : decode cL_law 219 = .ok (.aload_n 0, 1) := by decide +kernel
theorem dL_law_220 : decode cL_law 220 = .ok (.iload 4, 2) := by decide +kernel
theorem dL_law_222 : decode cL_law 222 = .ok (.iconst 2, 1) := by decide +kernel
theorem dL_law_223 : decode cL_law 223 = .ok (.iadd, 1) := by decide +kernel
theorem dL_law_224 : decode cL_law 224 = .ok (.iaload, 1) := by decide +kernel
theorem dL_law_225 : decode cL_law 225 = .ok (.aload_n 0, 1) := by decide +kernel
theorem dL_law_226 : decode cL_law 226 = .ok (.iload 4, 2) := by decide +kernel
theorem dL_law_228 : decode cL_law 228 = .ok (.iconst 3, 1) := by decide +kernel
theorem dL_law_229 : decode cL_law 229 = .ok (.iadd, 1) := by decide +kernel
theorem dL_law_230 : decode cL_law 230 = .ok (.iaload, 1) := by decide +kernel
theorem dL_law_231 : decode cL_law 231 = .ok (.aload_n 0, 1) := by decide +kernel
theorem dL_law_232 : decode cL_law 232 = .ok (.iload 4, 2) := by decide +kernel
theorem dL_law_234 : decode cL_law 234 = .ok (.iconst 4, 1) := by decide +kernel
theorem dL_law_235 : decode cL_law 235 = .ok (.iadd, 1) := by decide +kernel
theorem dL_law_236 : decode cL_law 236 = .ok (.iaload, 1) := by decide +kernel
theorem dL_law_237 : decode cL_law 237 = .ok (.aload_n 0, 1) := by decide +kernel
theorem dL_law_238 : decode cL_law 238 = .ok (.iload 4, 2) := by decide +kernel
theorem dL_law_240 : decode cL_law 240 = .ok (.iconst 5, 1) := by decide +kernel
theorem dL_law_241 : decode cL_law 241 = .ok (.iadd, 1) := by decide +kernel
theorem dL_law_242 : decode cL_law 242 = .ok (.iaload, 1) := by decide +kernel
theorem dL_law_243 : decode cL_law 243 = .ok (.invokevirtual 98, 3) := by decide +kernel
theorem dL_law_246 : decode cL_law 246 = .ok (.aload_n 2, 1) := by decide +kernel
theorem dL_law_247 : decode cL_law 247 = .ok (.aload_n 0, 1) := by decide +kernel
theorem dL_law_248 : decode cL_law 248 = .ok (.iload 4, 2) := by decide +kernel
theorem dL_law_250 : decode cL_law 250 = .ok (.iconst 1, 1) := by decide +kernel
theorem dL_law_251 : decode cL_law 251 = .ok (.iadd, 1) := by decide +kernel
theorem dL_law_252 : decode cL_law 252 = .ok (.iaload, 1) := by decide +kernel
theorem dL_law_253 : decode cL_law 253 = .ok (.aload_n 0, 1) := by decide +kernel
theorem dL_law_254 : decode cL_law 254 = .ok (.iload 4, 2) := by decide +kernel
theorem dL_law_256 : decode cL_law 256 = .ok (.iconst 2, 1) := by decide +kernel
theorem dL_law_257 : decode cL_law 257 = .ok (.iadd, 1) := by decide +kernel
theorem dL_law_258 : decode cL_law 258 = .ok (.iaload, 1) := by decide +kernel
theorem dL_law_259 : decode cL_law 259 = .ok (.aload_n 0, 1) := by decide +kernel
theorem dL_law_260 : decode cL_law 260 = .ok (.iload 4, 2) := by decide +kernel
theorem dL_law_262 : decode cL_law 262 = .ok (.iconst 3, 1) := by decide +kernel
theorem dL_law_263 : decode cL_law 263 = .ok (.iadd, 1) := by decide +kernel
theorem dL_law_264 : decode cL_law 264 = .ok (.iaload, 1) := by decide +kernel
theorem dL_law_265 : decode cL_law 265 = .ok (.aload_n 0, 1) := by decide +kernel
theorem dL_law_266 : decode cL_law 266 = .ok (.iload 4, 2) := by decide +kernel
theorem dL_law_268 : decode cL_law 268 = .ok (.iconst 4, 1) := by decide +kernel
theorem dL_law_269 : decode cL_law 269 = .ok (.iadd, 1) := by decide +kernel
theorem dL_law_270 : decode cL_law 270 = .ok (.iaload, 1) := by decide +kernel
theorem dL_law_271 : decode cL_law 271 = .ok (.aload_n 0, 1) := by decide +kernel
theorem dL_law_272 : decode cL_law 272 = .ok (.iload 4, 2) := by decide +kernel
theorem dL_law_274 : decode cL_law 274 = .ok (.iconst 5, 1) := by decide +kernel
theorem dL_law_275 : decode cL_law 275 = .ok (.iadd, 1) := by decide +kernel
theorem dL_law_276 : decode cL_law 276 = .ok (.iaload, 1) := by decide +kernel
theorem dL_law_277 : decode cL_law 277 = .ok (.invokevirtual 102, 3) := by decide +kernel
theorem dL_law_280 : decode cL_law 280 = .ok (.if_icmp .eq 1754, 3) := by decide +kernel
theorem dL_law_283 : decode cL_law 283 = .ok (.iconst 0, 1) := by decide +kernel
theorem dL_law_284 : decode cL_law 284 = .ok (.ireturn, 1) := by decide +kernel
theorem dL_law_285 : decode cL_law 285 = .ok (.aload_n 1, 1) := by decide +kernel
theorem dL_law_286 : decode cL_law 286 = .ok (.aload_n 0, 1) := by decide +kernel
theorem dL_law_287 : decode cL_law 287 = .ok (.iload 4, 2) := by decide +kernel
theorem dL_law_289 : decode cL_law 289 = .ok (.iconst 1, 1) := by decide +kernel
theorem dL_law_290 : decode cL_law 290 = .ok (.iadd, 1) := by decide +kernel
theorem dL_law_291 : decode cL_law 291 = .ok (.iaload, 1) := by decide +kernel
theorem dL_law_292 : decode cL_law 292 = .ok (.invokevirtual 103, 3) := by decide +kernel
theorem dL_law_295 : decode cL_law 295 = .ok (.aload_n 2, 1) := by decide +kernel
theorem dL_law_296 : decode cL_law 296 = .ok (.aload_n 0, 1) := by decide +kernel
theorem dL_law_297 : decode cL_law 297 = .ok (.iload 4, 2) := by decide +kernel
theorem dL_law_299 : decode cL_law 299 = .ok (.iconst 1, 1) := by decide +kernel
theorem dL_law_300 : decode cL_law 300 = .ok (.iadd, 1) := by decide +kernel
theorem dL_law_301 : decode cL_law 301 = .ok (.iaload, 1) := by decide +kernel
theorem dL_law_302 : decode cL_law 302 = .ok (.invokevirtual 107, 3) := by decide +kernel
theorem dL_law_305 : decode cL_law 305 = .ok (.if_icmp .eq 1729, 3) := by decide +kernel
theorem dL_law_308 : decode cL_law 308 = .ok (.iconst 0, 1) := by decide +kernel
theorem dL_law_309 : decode cL_law 309 = .ok (.ireturn, 1) := by decide +kernel
theorem dL_law_310 : decode cL_law 310 = .ok (.aload_n 1, 1) := by decide +kernel
theorem dL_law_311 : decode cL_law 311 = .ok (.invokevirtual 108, 3) := by decide +kernel
theorem dL_law_314 : decode cL_law 314 = .ok (.aload_n 2, 1) := by decide +kernel
theorem dL_law_315 : decode cL_law 315 = .ok (.invokevirtual 112, 3) := by decide +kernel
theorem dL_law_318 : decode cL_law 318 = .ok (.if_icmp .eq 1716, 3) := by decide +kernel
theorem dL_law_321 : decode cL_law 321 = .ok (.iconst 0, 1) := by decide +kernel
theorem dL_law_322 : decode cL_law 322 = .ok (.ireturn, 1) := by decide +kernel
theorem dL_law_323 : decode cL_law 323 = .ok (.aload_n 1, 1) := by decide +kernel
theorem dL_law_324 : decode cL_law 324 = .ok (.invokevirtual 113, 3) := by decide +kernel
theorem dL_law_327 : decode cL_law 327 = .ok (.aload_n 2, 1) := by decide +kernel
theorem dL_law_328 : decode cL_law 328 = .ok (.invokevirtual 116, 3) := by decide +kernel
theorem dL_law_331 : decode cL_law 331 = .ok (.if_icmp .eq 1703, 3) := by decide +kernel
theorem dL_law_334 : decode cL_law 334 = .ok (.iconst 0, 1) := by decide +kernel
theorem dL_law_335 : decode cL_law 335 = .ok (.ireturn, 1) := by decide +kernel
theorem dL_law_336 : decode cL_law 336 = .ok (.aload_n 1, 1) := by decide +kernel
theorem dL_law_337 : decode cL_law 337 = .ok (.invokevirtual 117, 3) := by decide +kernel
theorem dL_law_340 : decode cL_law 340 = .ok (.aload_n 2, 1) := by decide +kernel
theorem dL_law_341 : decode cL_law 341 = .ok (.invokevirtual 120, 3) := by decide +kernel
theorem dL_law_344 : decode cL_law 344 = .ok (.if_icmp .eq 1690, 3) := by decide +kernel
theorem dL_law_347 : decode cL_law 347 = .ok (.iconst 0, 1) := by decide +kernel
theorem dL_law_348 : decode cL_law 348 = .ok (.ireturn, 1) := by decide +kernel
theorem dL_law_349 : decode cL_law 349 = .ok (.aload_n 1, 1) := by decide +kernel
theorem dL_law_350 : decode cL_law 350 = .ok (.invokevirtual 121, 3) := by decide +kernel
theorem dL_law_353 : decode cL_law 353 = .ok (.aload_n 2, 1) := by decide +kernel
theorem dL_law_354 : decode cL_law 354 = .ok (.invokevirtual 124, 3) := by decide +kernel
theorem dL_law_357 : decode cL_law 357 = .ok (.if_icmp .eq 1677, 3) := by decide +kernel
theorem dL_law_360 : decode cL_law 360 = .ok (.iconst 0, 1) := by decide +kernel
theorem dL_law_361 : decode cL_law 361 = .ok (.ireturn, 1) := by decide +kernel
theorem dL_law_362 : decode cL_law 362 = .ok (.aload_n 1, 1) := by decide +kernel
theorem dL_law_363 : decode cL_law 363 = .ok (.invokevirtual 125, 3) := by decide +kernel
theorem dL_law_366 : decode cL_law 366 = .ok (.aload_n 2, 1) := by decide +kernel
theorem dL_law_367 : decode cL_law 367 = .ok (.invokevirtual 128, 3) := by decide +kernel
theorem dL_law_370 : decode cL_law 370 = .ok (.if_icmp .eq 1664, 3) := by decide +kernel
theorem dL_law_373 : decode cL_law 373 = .ok (.iconst 0, 1) := by decide +kernel
theorem dL_law_374 : decode cL_law 374 = .ok (.ireturn, 1) := by decide +kernel
theorem dL_law_375 : decode cL_law 375 = .ok (.aload_n 1, 1) := by decide +kernel
theorem dL_law_376 : decode cL_law 376 = .ok (.aload_n 0, 1) := by decide +kernel
theorem dL_law_377 : decode cL_law 377 = .ok (.iload 4, 2) := by decide +kernel
theorem dL_law_379 : decode cL_law 379 = .ok (.iconst 1, 1) := by decide +kernel
theorem dL_law_380 : decode cL_law 380 = .ok (.iadd, 1) := by decide +kernel
theorem dL_law_381 : decode cL_law 381 = .ok (.iaload, 1) := by decide +kernel
theorem dL_law_382 : decode cL_law 382 = .ok (.aload_n 0, 1) := by decide +kernel
theorem dL_law_383 : decode cL_law 383 = .ok (.iload 4, 2) := by decide +kernel
theorem dL_law_385 : decode cL_law 385 = .ok (.iconst 2, 1) := by decide +kernel
theorem dL_law_386 : decode cL_law 386 = .ok (.iadd, 1) := by decide +kernel
theorem dL_law_387 : decode cL_law 387 = .ok (.iaload, 1) := by decide +kernel
theorem dL_law_388 : decode cL_law 388 = .ok (.aload_n 3, 1) := by decide +kernel
theorem dL_law_389 : decode cL_law 389 = .ok (.invokestatic 129, 3) := by decide +kernel
theorem dL_law_392 : decode cL_law 392 = .ok (.istore 5, 2) := by decide +kernel
theorem dL_law_394 : decode cL_law 394 = .ok (.aload_n 2, 1) := by decide +kernel
theorem dL_law_395 : decode cL_law 395 = .ok (.aload_n 0, 1) := by decide +kernel
theorem dL_law_396 : decode cL_law 396 = .ok (.iload 4, 2) := by decide +kernel
theorem dL_law_398 : decode cL_law 398 = .ok (.iconst 1, 1) := by decide +kernel
theorem dL_law_399 : decode cL_law 399 = .ok (.iadd, 1) := by decide +kernel
theorem dL_law_400 : decode cL_law 400 = .ok (.iaload, 1) := by decide +kernel
theorem dL_law_401 : decode cL_law 401 = .ok (.aload_n 0, 1) := by decide +kernel
theorem dL_law_402 : decode cL_law 402 = .ok (.iload 4, 2) := by decide +kernel
theorem dL_law_404 : decode cL_law 404 = .ok (.iconst 2, 1) := by decide +kernel
theorem dL_law_405 : decode cL_law 405 = .ok (.iadd, 1) := by decide +kernel
theorem dL_law_406 : decode cL_law 406 = .ok (.iaload, 1) := by decide +kernel
theorem dL_law_407 : decode cL_law 407 = .ok (.invokevirtual 134, 3) := by decide +kernel
theorem dL_law_410 : decode cL_law 410 = .ok (.istore 6, 2) := by decide +kernel
theorem dL_law_412 : decode cL_law 412 = .ok (.aload_n 2, 1) := by decide +kernel
theorem dL_law_413 : decode cL_law 413 = .ok (.invokevirtual 135, 3) := by decide +kernel
theorem dL_law_416 : decode cL_law 416 = .ok (.iload 5, 2) := by decide +kernel
theorem dL_law_418 : decode cL_law 418 = .ok (.if_icmp .eq 5, 3) := by decide +kernel
theorem dL_law_421 : decode cL_law 421 = .ok (.iconst 0, 1) := by decide +kernel
theorem dL_law_422 : decode cL_law 422 = .ok (.ireturn, 1) := by decide +kernel
theorem dL_law_423 : decode cL_law 423 = .ok (.iload 5, 2) := by decide +kernel
theorem dL_law_425 : decode cL_law 425 = .ok (.ifCond .ne 15, 3) := by decide +kernel
theorem dL_law_428 : decode cL_law 428 = .ok (.aload_n 3, 1) := by decide +kernel
theorem dL_law_429 : decode cL_law 429 = .ok (.iconst 0, 1) := by decide +kernel
theorem dL_law_430 : decode cL_law 430 = .ok (.laload, 1) := by decide +kernel
theorem dL_law_431 : decode cL_law 431 = .ok (.iload 6, 2) := by decide +kernel
theorem dL_law_433 : decode cL_law 433 = .ok (.i2l, 1) := by decide +kernel
theorem dL_law_434 : decode cL_law 434 = .ok (.lcmp, 1) := by decide +kernel
theorem dL_law_435 : decode cL_law 435 = .ok (.ifCond .eq 5, 3) := by decide +kernel
theorem dL_law_438 : decode cL_law 438 = .ok (.iconst 0, 1) := by decide +kernel
theorem dL_law_439 : decode cL_law 439 = .ok (.ireturn, 1) := by decide +kernel
theorem dL_law_440 : decode cL_law 440 = .ok (.goto 1594, 3) := by decide +kernel
theorem dL_law_443 : decode cL_law 443 = .ok (.aload_n 1, 1) := by decide +kernel
theorem dL_law_444 : decode cL_law 444 = .ok (.invokevirtual 138, 3) := by decide +kernel
theorem dL_law_447 : decode cL_law 447 = .ok (.aload_n 2, 1) := by decide +kernel
theorem dL_law_448 : decode cL_law 448 = .ok (.invokevirtual 141, 3) := by decide +kernel
theorem dL_law_451 : decode cL_law 451 = .ok (.if_icmp .eq 1583, 3) := by decide +kernel
theorem dL_law_454 : decode cL_law 454 = .ok (.iconst 0, 1) := by decide +kernel
theorem dL_law_455 : decode cL_law 455 = .ok (.ireturn, 1) := by decide +kernel
theorem dL_law_456 : decode cL_law 456 = .ok (.aload_n 1, 1) := by decide +kernel
theorem dL_law_457 : decode cL_law 457 = .ok (.invokevirtual 142, 3) := by decide +kernel
theorem dL_law_460 : decode cL_law 460 = .ok (.aload_n 2, 1) := by decide +kernel
theorem dL_law_461 : decode cL_law 461 = .ok (.invokevirtual 145, 3) := by decide +kernel
theorem dL_law_464 : decode cL_law 464 = .ok (.if_icmp .eq 1570, 3) := by decide +kernel
theorem dL_law_467 : decode cL_law 467 = .ok (.iconst 0, 1) := by decide +kernel
theorem dL_law_468 : decode cL_law 468 = .ok (.ireturn, 1) := by decide +kernel
theorem dL_law_469 : decode cL_law 469 = .ok (.aload_n 1, 1) := by decide +kernel
theorem dL_law_470 : decode cL_law 470 = .ok (.aload_n 0, 1) := by decide +kernel
theorem dL_law_471 : decode cL_law 471 = .ok (.iload 4, 2) := by decide +kernel
theorem dL_law_473 : decode cL_law 473 = .ok (.iconst 1, 1) := by decide +kernel
theorem dL_law_474 : decode cL_law 474 = .ok (.iadd, 1) := by decide +kernel
theorem dL_law_475 : decode cL_law 475 = .ok (.iaload, 1) := by decide +kernel
theorem dL_law_476 : decode cL_law 476 = .ok (.aload_n 3, 1) := by decide +kernel
theorem dL_law_477 : decode cL_law 477 = .ok (.invokestatic 146, 3) := by decide +kernel
theorem dL_law_480 : decode cL_law 480 = .ok (.istore 5, 2) := by decide +kernel
theorem dL_law_482 : decode cL_law 482 = .ok (.aload_n 2, 1) := by decide +kernel
theorem dL_law_483 : decode cL_law 483 = .ok (.aload_n 0, 1) := by decide +kernel
theorem dL_law_484 : decode cL_law 484 = .ok (.iload 4, 2) := by decide +kernel
theorem dL_law_486 : decode cL_law 486 = .ok (.iconst 1, 1) := by decide +kernel
theorem dL_law_487 : decode cL_law 487 = .ok (.iadd, 1) := by decide +kernel
theorem dL_law_488 : decode cL_law 488 = .ok (.iaload, 1) := by decide +kernel
theorem dL_law_489 : decode cL_law 489 = .ok (.invokevirtual 149, 3) := by decide +kernel
theorem dL_law_492 : decode cL_law 492 = .ok (.istore 6, 2) := by decide +kernel
theorem dL_law_494 : decode cL_law 494 = .ok (.aload_n 2, 1) := by decide +kernel
theorem dL_law_495 : decode cL_law 495 = .ok (.invokevirtual 135, 3) := by decide +kernel
theorem dL_law_498 : decode cL_law 498 = .ok (.iload 5, 2) := by decide +kernel
theorem dL_law_500 : decode cL_law 500 = .ok (.if_icmp .eq 5, 3) := by decide +kernel
theorem dL_law_503 : decode cL_law 503 = .ok (.iconst 0, 1) := by decide +kernel
theorem dL_law_504 : decode cL_law 504 = .ok (.ireturn, 1) := by decide +kernel
theorem dL_law_505 : decode cL_law 505 = .ok (.iload 5, 2) := by decide +kernel
theorem dL_law_507 : decode cL_law 507 = .ok (.ifCond .ne 15, 3) := by decide +kernel
theorem dL_law_510 : decode cL_law 510 = .ok (.aload_n 3, 1) := by decide +kernel
theorem dL_law_511 : decode cL_law 511 = .ok (.iconst 0, 1) := by decide +kernel
theorem dL_law_512 : decode cL_law 512 = .ok (.laload, 1) := by decide +kernel
theorem dL_law_513 : decode cL_law 513 = .ok (.iload 6, 2) := by decide +kernel
theorem dL_law_515 : decode cL_law 515 = .ok (.i2l, 1) := by decide +kernel
theorem dL_law_516 : decode cL_law 516 = .ok (.lcmp, 1) := by decide +kernel
theorem dL_law_517 : decode cL_law 517 = .ok (.ifCond .eq 5, 3) := by decide +kernel
theorem dL_law_520 : decode cL_law 520 = .ok (.iconst 0, 1) := by decide +kernel
theorem dL_law_521 : decode cL_law 521 = .ok (.ireturn, 1) := by decide +kernel
theorem dL_law_522 : decode cL_law 522 = .ok (.goto 1512, 3) := by decide +kernel
theorem dL_law_525 : decode cL_law 525 = .ok (.aload_n 1, 1) := by decide +kernel
theorem dL_law_526 : decode cL_law 526 = .ok (.aload_n 0, 1) := by decide +kernel
theorem dL_law_527 : decode cL_law 527 = .ok (.iload 4, 2) := by decide +kernel
theorem dL_law_529 : decode cL_law 529 = .ok (.iconst 1, 1) := by decide +kernel
theorem dL_law_530 : decode cL_law 530 = .ok (.iadd, 1) := by decide +kernel
theorem dL_law_531 : decode cL_law 531 = .ok (.iaload, 1) := by decide +kernel
theorem dL_law_532 : decode cL_law 532 = .ok (.aload_n 3, 1) := by decide +kernel
theorem dL_law_533 : decode cL_law 533 = .ok (.invokestatic 150, 3) := by decide +kernel
theorem dL_law_536 : decode cL_law 536 = .ok (.istore 5, 2) := by decide +kernel
theorem dL_law_538 : decode cL_law 538 = .ok (.aload_n 2, 1) := by decide +kernel
theorem dL_law_539 : decode cL_law 539 = .ok (.aload_n 0, 1) := by decide +kernel
theorem dL_law_540 : decode cL_law 540 = .ok (.iload 4, 2) := by decide +kernel
theorem dL_law_542 : decode cL_law 542 = .ok (.iconst 1, 1) := by decide +kernel
theorem dL_law_543 : decode cL_law 543 = .ok (.iadd, 1) := by decide +kernel
theorem dL_law_544 : decode cL_law 544 = .ok (.iaload, 1) := by decide +kernel
theorem dL_law_545 : decode cL_law 545 = .ok (.invokevirtual 152, 3) := by decide +kernel
theorem dL_law_548 : decode cL_law 548 = .ok (.istore 6, 2) := by decide +kernel
theorem dL_law_550 : decode cL_law 550 = .ok (.aload_n 2, 1) := by decide +kernel
theorem dL_law_551 : decode cL_law 551 = .ok (.invokevirtual 135, 3) := by decide +kernel
theorem dL_law_554 : decode cL_law 554 = .ok (.iload 5, 2) := by decide +kernel
theorem dL_law_556 : decode cL_law 556 = .ok (.if_icmp .eq 5, 3) := by decide +kernel
theorem dL_law_559 : decode cL_law 559 = .ok (.iconst 0, 1) := by decide +kernel
theorem dL_law_560 : decode cL_law 560 = .ok (.ireturn, 1) := by decide +kernel
theorem dL_law_561 : decode cL_law 561 = .ok (.iload 5, 2) := by decide +kernel
theorem dL_law_563 : decode cL_law 563 = .ok (.ifCond .ne 15, 3) := by decide +kernel
theorem dL_law_566 : decode cL_law 566 = .ok (.aload_n 3, 1) := by decide +kernel
theorem dL_law_567 : decode cL_law 567 = .ok (.iconst 0, 1) := by decide +kernel
theorem dL_law_568 : decode cL_law 568 = .ok (.laload, 1) := by decide +kernel
theorem dL_law_569 : decode cL_law 569 = .ok (.iload 6, 2) := by decide +kernel
theorem dL_law_571 : decode cL_law 571 = .ok (.i2l, 1) := by decide +kernel
theorem dL_law_572 : decode cL_law 572 = .ok (.lcmp, 1) := by decide +kernel
theorem dL_law_573 : decode cL_law 573 = .ok (.ifCond .eq 5, 3) := by decide +kernel
theorem dL_law_576 : decode cL_law 576 = .ok (.iconst 0, 1) := by decide +kernel
theorem dL_law_577 : decode cL_law 577 = .ok (.ireturn, 1) := by decide +kernel
theorem dL_law_578 : decode cL_law 578 = .ok (.goto 1456, 3) := by decide +kernel
theorem dL_law_581 : decode cL_law 581 = .ok (.aload_n 1, 1) := by decide +kernel
theorem dL_law_582 : decode cL_law 582 = .ok (.aload_n 0, 1) := by decide +kernel
theorem dL_law_583 : decode cL_law 583 = .ok (.iload 4, 2) := by decide +kernel
theorem dL_law_585 : decode cL_law 585 = .ok (.iconst 1, 1) := by decide +kernel
theorem dL_law_586 : decode cL_law 586 = .ok (.iadd, 1) := by decide +kernel
theorem dL_law_587 : decode cL_law 587 = .ok (.iaload, 1) := by decide +kernel
theorem dL_law_588 : decode cL_law 588 = .ok (.aload_n 0, 1) := by decide +kernel
theorem dL_law_589 : decode cL_law 589 = .ok (.iload 4, 2) := by decide +kernel
theorem dL_law_591 : decode cL_law 591 = .ok (.iconst 2, 1) := by decide +kernel
theorem dL_law_592 : decode cL_law 592 = .ok (.iadd, 1) := by decide +kernel
theorem dL_law_593 : decode cL_law 593 = .ok (.iaload, 1) := by decide +kernel
theorem dL_law_594 : decode cL_law 594 = .ok (.aload_n 3, 1) := by decide +kernel
theorem dL_law_595 : decode cL_law 595 = .ok (.invokestatic 153, 3) := by decide +kernel
theorem dL_law_598 : decode cL_law 598 = .ok (.istore 5, 2) := by decide +kernel
theorem dL_law_600 : decode cL_law 600 = .ok (.aload_n 2, 1) := by decide +kernel
theorem dL_law_601 : decode cL_law 601 = .ok (.aload_n 0, 1) := by decide +kernel
theorem dL_law_602 : decode cL_law 602 = .ok (.iload 4, 2) := by decide +kernel
theorem dL_law_604 : decode cL_law 604 = .ok (.iconst 1, 1) := by decide +kernel
theorem dL_law_605 : decode cL_law 605 = .ok (.iadd, 1) := by decide +kernel
theorem dL_law_606 : decode cL_law 606 = .ok (.iaload, 1) := by decide +kernel
theorem dL_law_607 : decode cL_law 607 = .ok (.aload_n 0, 1) := by decide +kernel
theorem dL_law_608 : decode cL_law 608 = .ok (.iload 4, 2) := by decide +kernel
theorem dL_law_610 : decode cL_law 610 = .ok (.iconst 2, 1) := by decide +kernel
theorem dL_law_611 : decode cL_law 611 = .ok (.iadd, 1) := by decide +kernel
theorem dL_law_612 : decode cL_law 612 = .ok (.iaload, 1) := by decide +kernel
theorem dL_law_613 : decode cL_law 613 = .ok (.invokevirtual 155, 3) := by decide +kernel
theorem dL_law_616 : decode cL_law 616 = .ok (.istore 6, 2) := by decide +kernel
theorem dL_law_618 : decode cL_law 618 = .ok (.aload_n 2, 1) := by decide +kernel
theorem dL_law_619 : decode cL_law 619 = .ok (.invokevirtual 135, 3) := by decide +kernel
theorem dL_law_622 : decode cL_law 622 = .ok (.iload 5, 2) := by decide +kernel
theorem dL_law_624 : decode cL_law 624 = .ok (.if_icmp .eq 5, 3) := by decide +kernel
theorem dL_law_627 : decode cL_law 627 = .ok (.iconst 0, 1) := by decide +kernel
theorem dL_law_628 : decode cL_law 628 = .ok (.ireturn, 1) := by decide +kernel
theorem dL_law_629 : decode cL_law 629 = .ok (.iload 5, 2) := by decide +kernel
theorem dL_law_631 : decode cL_law 631 = .ok (.ifCond .ne 15, 3) := by decide +kernel
theorem dL_law_634 : decode cL_law 634 = .ok (.aload_n 3, 1) := by decide +kernel
theorem dL_law_635 : decode cL_law 635 = .ok (.iconst 0, 1) := by decide +kernel
theorem dL_law_636 : decode cL_law 636 = .ok (.laload, 1) := by decide +kernel
theorem dL_law_637 : decode cL_law 637 = .ok (.iload 6, 2) := by decide +kernel
theorem dL_law_639 : decode cL_law 639 = .ok (.i2l, 1) := by decide +kernel
theorem dL_law_640 : decode cL_law 640 = .ok (.lcmp, 1) := by decide +kernel
theorem dL_law_641 : decode cL_law 641 = .ok (.ifCond .eq 5, 3) := by decide +kernel
theorem dL_law_644 : decode cL_law 644 = .ok (.iconst 0, 1) := by decide +kernel
theorem dL_law_645 : decode cL_law 645 = .ok (.ireturn, 1) := by decide +kernel
theorem dL_law_646 : decode cL_law 646 = .ok (.goto 1388, 3) := by decide +kernel
theorem dL_law_649 : decode cL_law 649 = .ok (.aload_n 1, 1) := by decide +kernel
theorem dL_law_650 : decode cL_law 650 = .ok (.aload_n 0, 1) := by decide +kernel
theorem dL_law_651 : decode cL_law 651 = .ok (.iload 4, 2) := by decide +kernel
theorem dL_law_653 : decode cL_law 653 = .ok (.iconst 1, 1) := by decide +kernel
theorem dL_law_654 : decode cL_law 654 = .ok (.iadd, 1) := by decide +kernel
theorem dL_law_655 : decode cL_law 655 = .ok (.iaload, 1) := by decide +kernel
theorem dL_law_656 : decode cL_law 656 = .ok (.aload_n 0, 1) := by decide +kernel
theorem dL_law_657 : decode cL_law 657 = .ok (.iload 4, 2) := by decide +kernel
theorem dL_law_659 : decode cL_law 659 = .ok (.iconst 2, 1) := by decide +kernel
theorem dL_law_660 : decode cL_law 660 = .ok (.iadd, 1) := by decide +kernel
theorem dL_law_661 : decode cL_law 661 = .ok (.iaload, 1) := by decide +kernel
theorem dL_law_662 : decode cL_law 662 = .ok (.aload_n 3, 1) := by decide +kernel
theorem dL_law_663 : decode cL_law 663 = .ok (.invokestatic 156, 3) := by decide +kernel
theorem dL_law_666 : decode cL_law 666 = .ok (.istore 5, 2) := by decide +kernel
theorem dL_law_668 : decode cL_law 668 = .ok (.aload_n 2, 1) := by decide +kernel
theorem dL_law_669 : decode cL_law 669 = .ok (.aload_n 0, 1) := by decide +kernel
theorem dL_law_670 : decode cL_law 670 = .ok (.iload 4, 2) := by decide +kernel
theorem dL_law_672 : decode cL_law 672 = .ok (.iconst 1, 1) := by decide +kernel
theorem dL_law_673 : decode cL_law 673 = .ok (.iadd, 1) := by decide +kernel
theorem dL_law_674 : decode cL_law 674 = .ok (.iaload, 1) := by decide +kernel
theorem dL_law_675 : decode cL_law 675 = .ok (.aload_n 0, 1) := by decide +kernel
theorem dL_law_676 : decode cL_law 676 = .ok (.iload 4, 2) := by decide +kernel
theorem dL_law_678 : decode cL_law 678 = .ok (.iconst 2, 1) := by decide +kernel
theorem dL_law_679 : decode cL_law 679 = .ok (.iadd, 1) := by decide +kernel
theorem dL_law_680 : decode cL_law 680 = .ok (.iaload, 1) := by decide +kernel
theorem dL_law_681 : decode cL_law 681 = .ok (.invokevirtual 158, 3) := by decide +kernel
theorem dL_law_684 : decode cL_law 684 = .ok (.istore 6, 2) := by decide +kernel
theorem dL_law_686 : decode cL_law 686 = .ok (.aload_n 2, 1) := by decide +kernel
theorem dL_law_687 : decode cL_law 687 = .ok (.invokevirtual 135, 3) := by decide +kernel
theorem dL_law_690 : decode cL_law 690 = .ok (.iload 5, 2) := by decide +kernel
theorem dL_law_692 : decode cL_law 692 = .ok (.if_icmp .eq 5, 3) := by decide +kernel
theorem dL_law_695 : decode cL_law 695 = .ok (.iconst 0, 1) := by decide +kernel
theorem dL_law_696 : decode cL_law 696 = .ok (.ireturn, 1) := by decide +kernel
theorem dL_law_697 : decode cL_law 697 = .ok (.iload 5, 2) := by decide +kernel
theorem dL_law_699 : decode cL_law 699 = .ok (.ifCond .ne 22, 3) := by decide +kernel
theorem dL_law_702 : decode cL_law 702 = .ok (.aload_n 3, 1) := by decide +kernel
theorem dL_law_703 : decode cL_law 703 = .ok (.iconst 0, 1) := by decide +kernel
theorem dL_law_704 : decode cL_law 704 = .ok (.laload, 1) := by decide +kernel
theorem dL_law_705 : decode cL_law 705 = .ok (.iload 6, 2) := by decide +kernel
theorem dL_law_707 : decode cL_law 707 = .ok (.ifCond .eq 7, 3) := by decide +kernel
theorem dL_law_710 : decode cL_law 710 = .ok (.lconst 1, 1) := by decide +kernel
theorem dL_law_711 : decode cL_law 711 = .ok (.goto 4, 3) := by decide +kernel
theorem dL_law_714 : decode cL_law 714 = .ok (.lconst 0, 1) := by decide +kernel
theorem dL_law_715 : decode cL_law 715 = .ok (.lcmp, 1) := by decide +kernel
theorem dL_law_716 : decode cL_law 716 = .ok (.ifCond .eq 5, 3) := by decide +kernel
theorem dL_law_719 : decode cL_law 719 = .ok (.iconst 0, 1) := by decide +kernel
theorem dL_law_720 : decode cL_law 720 = .ok (.ireturn, 1) := by decide +kernel
theorem dL_law_721 : decode cL_law 721 = .ok (.goto 1313, 3) := by decide +kernel
theorem dL_law_724 : decode cL_law 724 = .ok (.aload_n 1, 1) := by decide +kernel
theorem dL_law_725 : decode cL_law 725 = .ok (.aload_n 0, 1) := by decide +kernel
theorem dL_law_726 : decode cL_law 726 = .ok (.iload 4, 2) := by decide +kernel
theorem dL_law_728 : decode cL_law 728 = .ok (.iconst 1, 1) := by decide +kernel
theorem dL_law_729 : decode cL_law 729 = .ok (.iadd, 1) := by decide +kernel
theorem dL_law_730 : decode cL_law 730 = .ok (.iaload, 1) := by decide +kernel
theorem dL_law_731 : decode cL_law 731 = .ok (.aload_n 0, 1) := by decide +kernel
theorem dL_law_732 : decode cL_law 732 = .ok (.iload 4, 2) := by decide +kernel
theorem dL_law_734 : decode cL_law 734 = .ok (.iconst 2, 1) := by decide +kernel
theorem dL_law_735 : decode cL_law 735 = .ok (.iadd, 1) := by decide +kernel
theorem dL_law_736 : decode cL_law 736 = .ok (.iaload, 1) := by decide +kernel
theorem dL_law_737 : decode cL_law 737 = .ok (.aload_n 3, 1) := by decide +kernel
theorem dL_law_738 : decode cL_law 738 = .ok (.invokestatic 159, 3) := by decide +kernel
theorem dL_law_741 : decode cL_law 741 = .ok (.istore 5, 2) := by decide +kernel
theorem dL_law_743 : decode cL_law 743 = .ok (.aload_n 2, 1) := by decide +kernel
theorem dL_law_744 : decode cL_law 744 = .ok (.aload_n 0, 1) := by decide +kernel
theorem dL_law_745 : decode cL_law 745 = .ok (.iload 4, 2) := by decide +kernel
theorem dL_law_747 : decode cL_law 747 = .ok (.iconst 1, 1) := by decide +kernel
theorem dL_law_748 : decode cL_law 748 = .ok (.iadd, 1) := by decide +kernel
theorem dL_law_749 : decode cL_law 749 = .ok (.iaload, 1) := by decide +kernel
theorem dL_law_750 : decode cL_law 750 = .ok (.aload_n 0, 1) := by decide +kernel
theorem dL_law_751 : decode cL_law 751 = .ok (.iload 4, 2) := by decide +kernel
theorem dL_law_753 : decode cL_law 753 = .ok (.iconst 2, 1) := by decide +kernel
theorem dL_law_754 : decode cL_law 754 = .ok (.iadd, 1) := by decide +kernel
theorem dL_law_755 : decode cL_law 755 = .ok (.iaload, 1) := by decide +kernel
theorem dL_law_756 : decode cL_law 756 = .ok (.invokevirtual 161, 3) := by decide +kernel
theorem dL_law_759 : decode cL_law 759 = .ok (.istore 6, 2) := by decide +kernel
theorem dL_law_761 : decode cL_law 761 = .ok (.aload_n 2, 1) := by decide +kernel
theorem dL_law_762 : decode cL_law 762 = .ok (.invokevirtual 135, 3) := by decide +kernel
theorem dL_law_765 : decode cL_law 765 = .ok (.iload 5, 2) := by decide +kernel
theorem dL_law_767 : decode cL_law 767 = .ok (.if_icmp .eq 5, 3) := by decide +kernel
theorem dL_law_770 : decode cL_law 770 = .ok (.iconst 0, 1) := by decide +kernel
theorem dL_law_771 : decode cL_law 771 = .ok (.ireturn, 1) := by decide +kernel
theorem dL_law_772 : decode cL_law 772 = .ok (.iload 5, 2) := by decide +kernel
theorem dL_law_774 : decode cL_law 774 = .ok (.ifCond .ne 15, 3) := by decide +kernel
theorem dL_law_777 : decode cL_law 777 = .ok (.aload_n 3, 1) := by decide +kernel
theorem dL_law_778 : decode cL_law 778 = .ok (.iconst 0, 1) := by decide +kernel
theorem dL_law_779 : decode cL_law 779 = .ok (.laload, 1) := by decide +kernel
theorem dL_law_780 : decode cL_law 780 = .ok (.iload 6, 2) := by decide +kernel
theorem dL_law_782 : decode cL_law 782 = .ok (.i2l, 1) := by decide +kernel
theorem dL_law_783 : decode cL_law 783 = .ok (.lcmp, 1) := by decide +kernel
theorem dL_law_784 : decode cL_law 784 = .ok (.ifCond .eq 5, 3) := by decide +kernel
theorem dL_law_787 : decode cL_law 787 = .ok (.iconst 0, 1) := by decide +kernel
theorem dL_law_788 : decode cL_law 788 = .ok (.ireturn, 1) := by decide +kernel
theorem dL_law_789 : decode cL_law 789 = .ok (.goto 1245, 3) := by decide +kernel
theorem dL_law_792 : decode cL_law 792 = .ok (.aload_n 1, 1) := by decide +kernel
theorem dL_law_793 : decode cL_law 793 = .ok (.aload_n 0, 1) := by decide +kernel
theorem dL_law_794 : decode cL_law 794 = .ok (.iload 4, 2) := by decide +kernel
theorem dL_law_796 : decode cL_law 796 = .ok (.iconst 1, 1) := by decide +kernel
theorem dL_law_797 : decode cL_law 797 = .ok (.iadd, 1) := by decide +kernel
theorem dL_law_798 : decode cL_law 798 = .ok (.iaload, 1) := by decide +kernel
theorem dL_law_799 : decode cL_law 799 = .ok (.invokevirtual 162, 3) := by decide +kernel
theorem dL_law_802 : decode cL_law 802 = .ok (.aload_n 2, 1) := by decide +kernel
theorem dL_law_803 : decode cL_law 803 = .ok (.aload_n 0, 1) := by decide +kernel
theorem dL_law_804 : decode cL_law 804 = .ok (.iload 4, 2) := by decide +kernel
theorem dL_law_806 : decode cL_law 806 = .ok (.iconst 1, 1) := by decide +kernel
theorem dL_law_807 : decode cL_law 807 = .ok (.iadd, 1) := by decide +kernel
theorem dL_law_808 : decode cL_law 808 = .ok (.iaload, 1) := by decide +kernel
theorem dL_law_809 : decode cL_law 809 = .ok (.invokevirtual 165, 3) := by decide +kernel
theorem dL_law_812 : decode cL_law 812 = .ok (.if_icmp .eq 1222, 3) := by decide +kernel
theorem dL_law_815 : decode cL_law 815 = .ok (.iconst 0, 1) := by decide +kernel
theorem dL_law_816 : decode cL_law 816 = .ok (.ireturn, 1) := by decide +kernel
theorem dL_law_817 : decode cL_law 817 = .ok (.aload_n 1, 1) := by decide +kernel
theorem dL_law_818 : decode cL_law 818 = .ok (.aload_n 0, 1) := by decide +kernel
theorem dL_law_819 : decode cL_law 819 = .ok (.iload 4, 2) := by decide +kernel
theorem dL_law_821 : decode cL_law 821 = .ok (.iconst 1, 1) := by decide +kernel
theorem dL_law_822 : decode cL_law 822 = .ok (.iadd, 1) := by decide +kernel
theorem dL_law_823 : decode cL_law 823 = .ok (.iaload, 1) := by decide +kernel
theorem dL_law_824 : decode cL_law 824 = .ok (.aload_n 3, 1) := by decide +kernel
theorem dL_law_825 : decode cL_law 825 = .ok (.invokestatic 166, 3) := by decide +kernel
theorem dL_law_828 : decode cL_law 828 = .ok (.istore 5, 2) := by decide +kernel
theorem dL_law_830 : decode cL_law 830 = .ok (.aload_n 2, 1) := by decide +kernel
theorem dL_law_831 : decode cL_law 831 = .ok (.aload_n 0, 1) := by decide +kernel
theorem dL_law_832 : decode cL_law 832 = .ok (.iload 4, 2) := by decide +kernel
theorem dL_law_834 : decode cL_law 834 = .ok (.iconst 1, 1) := by decide +kernel
theorem dL_law_835 : decode cL_law 835 = .ok (.iadd, 1) := by decide +kernel
theorem dL_law_836 : decode cL_law 836 = .ok (.iaload, 1) := by decide +kernel
theorem dL_law_837 : decode cL_law 837 = .ok (.invokevirtual 168, 3) := by decide +kernel
theorem dL_law_840 : decode cL_law 840 = .ok (.istore 6, 2) := by decide +kernel
theorem dL_law_842 : decode cL_law 842 = .ok (.aload_n 2, 1) := by decide +kernel
theorem dL_law_843 : decode cL_law 843 = .ok (.invokevirtual 135, 3) := by decide +kernel
theorem dL_law_846 : decode cL_law 846 = .ok (.iload 5, 2) := by decide +kernel
theorem dL_law_848 : decode cL_law 848 = .ok (.if_icmp .eq 5, 3) := by decide +kernel
theorem dL_law_851 : decode cL_law 851 = .ok (.iconst 0, 1) := by decide +kernel
theorem dL_law_852 : decode cL_law 852 = .ok (.ireturn, 1) := by decide +kernel
theorem dL_law_853 : decode cL_law 853 = .ok (.iload 5, 2) := by decide +kernel
theorem dL_law_855 : decode cL_law 855 = .ok (.ifCond .ne 15, 3) := by decide +kernel
theorem dL_law_858 : decode cL_law 858 = .ok (.aload_n 3, 1) := by decide +kernel
theorem dL_law_859 : decode cL_law 859 = .ok (.iconst 0, 1) := by decide +kernel
theorem dL_law_860 : decode cL_law 860 = .ok (.laload, 1) := by decide +kernel
theorem dL_law_861 : decode cL_law 861 = .ok (.iload 6, 2) := by decide +kernel
theorem dL_law_863 : decode cL_law 863 = .ok (.i2l, 1) := by decide +kernel
theorem dL_law_864 : decode cL_law 864 = .ok (.lcmp, 1) := by decide +kernel
theorem dL_law_865 : decode cL_law 865 = .ok (.ifCond .eq 5, 3) := by decide +kernel
theorem dL_law_868 : decode cL_law 868 = .ok (.iconst 0, 1) := by decide +kernel
theorem dL_law_869 : decode cL_law 869 = .ok (.ireturn, 1) := by decide +kernel
theorem dL_law_870 : decode cL_law 870 = .ok (.goto 1164, 3) := by decide +kernel
theorem dL_law_873 : decode cL_law 873 = .ok (.aload_n 1, 1) := by decide +kernel
theorem dL_law_874 : decode cL_law 874 = .ok (.aload_n 0, 1) := by decide +kernel
theorem dL_law_875 : decode cL_law 875 = .ok (.iload 4, 2) := by decide +kernel
theorem dL_law_877 : decode cL_law 877 = .ok (.iconst 1, 1) := by decide +kernel
theorem dL_law_878 : decode cL_law 878 = .ok (.iadd, 1) := by decide +kernel
theorem dL_law_879 : decode cL_law 879 = .ok (.iaload, 1) := by decide +kernel
theorem dL_law_880 : decode cL_law 880 = .ok (.aload_n 3, 1) := by decide +kernel
theorem dL_law_881 : decode cL_law 881 = .ok (.invokestatic 169, 3) := by decide +kernel
theorem dL_law_884 : decode cL_law 884 = .ok (.istore 5, 2) := by decide +kernel
theorem dL_law_886 : decode cL_law 886 = .ok (.aload_n 2, 1) := by decide +kernel
theorem dL_law_887 : decode cL_law 887 = .ok (.aload_n 0, 1) := by decide +kernel
theorem dL_law_888 : decode cL_law 888 = .ok (.iload 4, 2) := by decide +kernel
theorem dL_law_890 : decode cL_law 890 = .ok (.iconst 1, 1) := by decide +kernel
theorem dL_law_891 : decode cL_law 891 = .ok (.iadd, 1) := by decide +kernel
theorem dL_law_892 : decode cL_law 892 = .ok (.iaload, 1) := by decide +kernel
theorem dL_law_893 : decode cL_law 893 = .ok (.invokevirtual 171, 3) := by decide +kernel
theorem dL_law_896 : decode cL_law 896 = .ok (.istore 6, 2) := by decide +kernel
theorem dL_law_898 : decode cL_law 898 = .ok (.aload_n 2, 1) := by decide +kernel
theorem dL_law_899 : decode cL_law 899 = .ok (.invokevirtual 135, 3) := by decide +kernel
theorem dL_law_902 : decode cL_law 902 = .ok (.iload 5, 2) := by decide +kernel
theorem dL_law_904 : decode cL_law 904 = .ok (.if_icmp .eq 5, 3) := by decide +kernel
theorem dL_law_907 : decode cL_law 907 = .ok (.iconst 0, 1) := by decide +kernel
theorem dL_law_908 : decode cL_law 908 = .ok (.ireturn, 1) := by decide +kernel
theorem dL_law_909 : decode cL_law 909 = .ok (.iload 5, 2) := by decide +kernel
theorem dL_law_911 : decode cL_law 911 = .ok (.ifCond .ne 15, 3) := by decide +kernel
theorem dL_law_914 : decode cL_law 914 = .ok (.aload_n 3, 1) := by decide +kernel
theorem dL_law_915 : decode cL_law 915 = .ok (.iconst 0, 1) := by decide +kernel
theorem dL_law_916 : decode cL_law 916 = .ok (.laload, 1) := by decide +kernel
theorem dL_law_917 : decode cL_law 917 = .ok (.iload 6, 2) := by decide +kernel
theorem dL_law_919 : decode cL_law 919 = .ok (.i2l, 1) := by decide +kernel
theorem dL_law_920 : decode cL_law 920 = .ok (.lcmp, 1) := by decide +kernel
theorem dL_law_921 : decode cL_law 921 = .ok (.ifCond .eq 5, 3) := by decide +kernel
theorem dL_law_924 : decode cL_law 924 = .ok (.iconst 0, 1) := by decide +kernel
theorem dL_law_925 : decode cL_law 925 = .ok (.ireturn, 1) := by decide +kernel
theorem dL_law_926 : decode cL_law 926 = .ok (.goto 1108, 3) := by decide +kernel
theorem dL_law_929 : decode cL_law 929 = .ok (.aload_n 1, 1) := by decide +kernel
theorem dL_law_930 : decode cL_law 930 = .ok (.aload_n 0, 1) := by decide +kernel
theorem dL_law_931 : decode cL_law 931 = .ok (.iload 4, 2) := by decide +kernel
theorem dL_law_933 : decode cL_law 933 = .ok (.iconst 1, 1) := by decide +kernel
theorem dL_law_934 : decode cL_law 934 = .ok (.iadd, 1) := by decide +kernel
theorem dL_law_935 : decode cL_law 935 = .ok (.iaload, 1) := by decide +kernel
theorem dL_law_936 : decode cL_law 936 = .ok (.aload_n 3, 1) := by decide +kernel
theorem dL_law_937 : decode cL_law 937 = .ok (.invokestatic 172, 3) := by decide +kernel
theorem dL_law_940 : decode cL_law 940 = .ok (.istore 5, 2) := by decide +kernel
theorem dL_law_942 : decode cL_law 942 = .ok (.aload_n 2, 1) := by decide +kernel
theorem dL_law_943 : decode cL_law 943 = .ok (.aload_n 0, 1) := by decide +kernel
theorem dL_law_944 : decode cL_law 944 = .ok (.iload 4, 2) := by decide +kernel
theorem dL_law_946 : decode cL_law 946 = .ok (.iconst 1, 1) := by decide +kernel
theorem dL_law_947 : decode cL_law 947 = .ok (.iadd, 1) := by decide +kernel
theorem dL_law_948 : decode cL_law 948 = .ok (.iaload, 1) := by decide +kernel
theorem dL_law_949 : decode cL_law 949 = .ok (.invokevirtual 174, 3) := by decide +kernel
theorem dL_law_952 : decode cL_law 952 = .ok (.istore 6, 2) := by decide +kernel
theorem dL_law_954 : decode cL_law 954 = .ok (.aload_n 2, 1) := by decide +kernel
theorem dL_law_955 : decode cL_law 955 = .ok (.invokevirtual 135, 3) := by decide +kernel
theorem dL_law_958 : decode cL_law 958 = .ok (.iload 5, 2) := by decide +kernel
theorem dL_law_960 : decode cL_law 960 = .ok (.if_icmp .eq 5, 3) := by decide +kernel
theorem dL_law_963 : decode cL_law 963 = .ok (.iconst 0, 1) := by decide +kernel
theorem dL_law_964 : decode cL_law 964 = .ok (.ireturn, 1) := by decide +kernel
theorem dL_law_965 : decode cL_law 965 = .ok (.iload 5, 2) := by decide +kernel
theorem dL_law_967 : decode cL_law 967 = .ok (.ifCond .ne 15, 3) := by decide +kernel
theorem dL_law_970 : decode cL_law 970 = .ok (.aload_n 3, 1) := by decide +kernel
theorem dL_law_971 : decode cL_law 971 = .ok (.iconst 0, 1) := by decide +kernel
theorem dL_law_972 : decode cL_law 972 = .ok (.laload, 1) := by decide +kernel
theorem dL_law_973 : decode cL_law 973 = .ok (.iload 6, 2) := by decide +kernel
theorem dL_law_975 : decode cL_law 975 = .ok (.i2l, 1) := by decide +kernel
theorem dL_law_976 : decode cL_law 976 = .ok (.lcmp, 1) := by decide +kernel
theorem dL_law_977 : decode cL_law 977 = .ok (.ifCond .eq 5, 3) := by decide +kernel
theorem dL_law_980 : decode cL_law 980 = .ok (.iconst 0, 1) := by decide +kernel
theorem dL_law_981 : decode cL_law 981 = .ok (.ireturn, 1) := by decide +kernel
theorem dL_law_982 : decode cL_law 982 = .ok (.goto 1052, 3) := by decide +kernel
theorem dL_law_985 : decode cL_law 985 = .ok (.aload_n 1, 1) := by decide +kernel
theorem dL_law_986 : decode cL_law 986 = .ok (.aload_n 0, 1) := by decide +kernel
theorem dL_law_987 : decode cL_law 987 = .ok (.iload 4, 2) := by decide +kernel
theorem dL_law_989 : decode cL_law 989 = .ok (.iconst 1, 1) := by decide +kernel
theorem dL_law_990 : decode cL_law 990 = .ok (.iadd, 1) := by decide +kernel
theorem dL_law_991 : decode cL_law 991 = .ok (.iaload, 1) := by decide +kernel
theorem dL_law_992 : decode cL_law 992 = .ok (.aload_n 3, 1) := by decide +kernel
theorem dL_law_993 : decode cL_law 993 = .ok (.invokestatic 175, 3) := by decide +kernel
theorem dL_law_996 : decode cL_law 996 = .ok (.istore 5, 2) := by decide +kernel
theorem dL_law_998 : decode cL_law 998 = .ok (.aload_n 2, 1) := by decide +kernel
theorem dL_law_999 : decode cL_law 999 = .ok (.aload_n 0, 1) := by decide +kernel
theorem dL_law_1000 : decode cL_law 1000 = .ok (.iload 4, 2) := by decide +kernel
theorem dL_law_1002 : decode cL_law 1002 = .ok (.iconst 1, 1) := by decide +kernel
theorem dL_law_1003 : decode cL_law 1003 = .ok (.iadd, 1) := by decide +kernel
theorem dL_law_1004 : decode cL_law 1004 = .ok (.iaload, 1) := by decide +kernel
theorem dL_law_1005 : decode cL_law 1005 = .ok (.invokevirtual 177, 3) := by decide +kernel
theorem dL_law_1008 : decode cL_law 1008 = .ok (.lstore 6, 2) := by decide +kernel
theorem dL_law_1010 : decode cL_law 1010 = .ok (.aload_n 2, 1) := by decide +kernel
theorem dL_law_1011 : decode cL_law 1011 = .ok (.invokevirtual 135, 3) := by decide +kernel
theorem dL_law_1014 : decode cL_law 1014 = .ok (.iload 5, 2) := by decide +kernel
theorem dL_law_1016 : decode cL_law 1016 = .ok (.if_icmp .eq 5, 3) := by decide +kernel
theorem dL_law_1019 : decode cL_law 1019 = .ok (.iconst 0, 1) := by decide +kernel
theorem dL_law_1020 : decode cL_law 1020 = .ok (.ireturn, 1) := by decide +kernel
theorem dL_law_1021 : decode cL_law 1021 = .ok (.iload 5, 2) := by decide +kernel
theorem dL_law_1023 : decode cL_law 1023 = .ok (.ifCond .ne 14, 3) := by decide +kernel
theorem dL_law_1026 : decode cL_law 1026 = .ok (.aload_n 3, 1) := by decide +kernel
theorem dL_law_1027 : decode cL_law 1027 = .ok (.iconst 0, 1) := by decide +kernel
theorem dL_law_1028 : decode cL_law 1028 = .ok (.laload, 1) := by decide +kernel
theorem dL_law_1029 : decode cL_law 1029 = .ok (.lload 6, 2) := by decide +kernel
theorem dL_law_1031 : decode cL_law 1031 = .ok (.lcmp, 1) := by decide +kernel
theorem dL_law_1032 : decode cL_law 1032 = .ok (.ifCond .eq 5, 3) := by decide +kernel
theorem dL_law_1035 : decode cL_law 1035 = .ok (.iconst 0, 1) := by decide +kernel
theorem dL_law_1036 : decode cL_law 1036 = .ok (.ireturn, 1) := by decide +kernel
theorem dL_law_1037 : decode cL_law 1037 = .ok (.goto 997, 3) := by decide +kernel
theorem dL_law_1040 : decode cL_law 1040 = .ok (.aload_n 1, 1) := by decide +kernel
theorem dL_law_1041 : decode cL_law 1041 = .ok (.aload_n 0, 1) := by decide +kernel
theorem dL_law_1042 : decode cL_law 1042 = .ok (.iload 4, 2) := by decide +kernel
theorem dL_law_1044 : decode cL_law 1044 = .ok (.iconst 1, 1) := by decide +kernel
theorem dL_law_1045 : decode cL_law 1045 = .ok (.iadd, 1) := by decide +kernel
theorem dL_law_1046 : decode cL_law 1046 = .ok (.iaload, 1) := by decide +kernel
theorem dL_law_1047 : decode cL_law 1047 = .ok (.aload_n 0, 1) := by decide +kernel
theorem dL_law_1048 : decode cL_law 1048 = .ok (.iload 4, 2) := by decide +kernel
theorem dL_law_1050 : decode cL_law 1050 = .ok (.iconst 2, 1) := by decide +kernel
theorem dL_law_1051 : decode cL_law 1051 = .ok (.iadd, 1) := by decide +kernel
theorem dL_law_1052 : decode cL_law 1052 = .ok (.iaload, 1) := by decide +kernel
theorem dL_law_1053 : decode cL_law 1053 = .ok (.aload_n 3, 1) := by decide +kernel
theorem dL_law_1054 : decode cL_law 1054 = .ok (.invokestatic 178, 3) := by decide +kernel
theorem dL_law_1057 : decode cL_law 1057 = .ok (.istore 5, 2) := by decide +kernel
theorem dL_law_1059 : decode cL_law 1059 = .ok (.aload_n 2, 1) := by decide +kernel
theorem dL_law_1060 : decode cL_law 1060 = .ok (.aload_n 0, 1) := by decide +kernel
theorem dL_law_1061 : decode cL_law 1061 = .ok (.iload 4, 2) := by decide +kernel
theorem dL_law_1063 : decode cL_law 1063 = .ok (.iconst 1, 1) := by decide +kernel
theorem dL_law_1064 : decode cL_law 1064 = .ok (.iadd, 1) := by decide +kernel
theorem dL_law_1065 : decode cL_law 1065 = .ok (.iaload, 1) := by decide +kernel
theorem dL_law_1066 : decode cL_law 1066 = .ok (.aload_n 0, 1) := by decide +kernel
theorem dL_law_1067 : decode cL_law 1067 = .ok (.iload 4, 2) := by decide +kernel
theorem dL_law_1069 : decode cL_law 1069 = .ok (.iconst 2, 1) := by decide +kernel
theorem dL_law_1070 : decode cL_law 1070 = .ok (.iadd, 1) := by decide +kernel
theorem dL_law_1071 : decode cL_law 1071 = .ok (.iaload, 1) := by decide +kernel
theorem dL_law_1072 : decode cL_law 1072 = .ok (.invokevirtual 180, 3) := by decide +kernel
theorem dL_law_1075 : decode cL_law 1075 = .ok (.lstore 6, 2) := by decide +kernel
theorem dL_law_1077 : decode cL_law 1077 = .ok (.aload_n 2, 1) := by decide +kernel
theorem dL_law_1078 : decode cL_law 1078 = .ok (.invokevirtual 135, 3) := by decide +kernel
theorem dL_law_1081 : decode cL_law 1081 = .ok (.iload 5, 2) := by decide +kernel
theorem dL_law_1083 : decode cL_law 1083 = .ok (.if_icmp .eq 5, 3) := by decide +kernel
theorem dL_law_1086 : decode cL_law 1086 = .ok (.iconst 0, 1) := by decide +kernel
theorem dL_law_1087 : decode cL_law 1087 = .ok (.ireturn, 1) := by decide +kernel
theorem dL_law_1088 : decode cL_law 1088 = .ok (.iload 5, 2) := by decide +kernel
theorem dL_law_1090 : decode cL_law 1090 = .ok (.ifCond .ne 14, 3) := by decide +kernel
theorem dL_law_1093 : decode cL_law 1093 = .ok (.aload_n 3, 1) := by decide +kernel
theorem dL_law_1094 : decode cL_law 1094 = .ok (.iconst 0, 1) := by decide +kernel
theorem dL_law_1095 : decode cL_law 1095 = .ok (.laload, 1) := by decide +kernel
theorem dL_law_1096 : decode cL_law 1096 = .ok (.lload 6, 2) := by decide +kernel
theorem dL_law_1098 : decode cL_law 1098 = .ok (.lcmp, 1) := by decide +kernel
theorem dL_law_1099 : decode cL_law 1099 = .ok (.ifCond .eq 5, 3) := by decide +kernel
theorem dL_law_1102 : decode cL_law 1102 = .ok (.iconst 0, 1) := by decide +kernel
theorem dL_law_1103 : decode cL_law 1103 = .ok (.ireturn, 1) := by decide +kernel
theorem dL_law_1104 : decode cL_law 1104 = .ok (.goto 930, 3) := by decide +kernel
theorem dL_law_1107 : decode cL_law 1107 = .ok (.aload_n 1, 1) := by decide +kernel
theorem dL_law_1108 : decode cL_law 1108 = .ok (.aload_n 0, 1) := by decide +kernel
theorem dL_law_1109 : decode cL_law 1109 = .ok (.iload 4, 2) := by decide +kernel
theorem dL_law_1111 : decode cL_law 1111 = .ok (.iconst 1, 1) := by decide +kernel
theorem dL_law_1112 : decode cL_law 1112 = .ok (.iadd, 1) := by decide +kernel
theorem dL_law_1113 : decode cL_law 1113 = .ok (.iaload, 1) := by decide +kernel
theorem dL_law_1114 : decode cL_law 1114 = .ok (.aload_n 0, 1) := by decide +kernel
theorem dL_law_1115 : decode cL_law 1115 = .ok (.iload 4, 2) := by decide +kernel
theorem dL_law_1117 : decode cL_law 1117 = .ok (.iconst 2, 1) := by decide +kernel
theorem dL_law_1118 : decode cL_law 1118 = .ok (.iadd, 1) := by decide +kernel
theorem dL_law_1119 : decode cL_law 1119 = .ok (.iaload, 1) := by decide +kernel
theorem dL_law_1120 : decode cL_law 1120 = .ok (.aload_n 3, 1) := by decide +kernel
theorem dL_law_1121 : decode cL_law 1121 = .ok (.invokestatic 181, 3) := by decide +kernel
theorem dL_law_1124 : decode cL_law 1124 = .ok (.istore 5, 2) := by decide +kernel
theorem dL_law_1126 : decode cL_law 1126 = .ok (.aload_n 2, 1) := by decide +kernel
theorem dL_law_1127 : decode cL_law 1127 = .ok (.aload_n 0, 1) := by decide +kernel
theorem dL_law_1128 : decode cL_law 1128 = .ok (.iload 4, 2) := by decide +kernel
theorem dL_law_1130 : decode cL_law 1130 = .ok (.iconst 1, 1) := by decide +kernel
theorem dL_law_1131 : decode cL_law 1131 = .ok (.iadd, 1) := by decide +kernel
theorem dL_law_1132 : decode cL_law 1132 = .ok (.iaload, 1) := by decide +kernel
theorem dL_law_1133 : decode cL_law 1133 = .ok (.aload_n 0, 1) := by decide +kernel
theorem dL_law_1134 : decode cL_law 1134 = .ok (.iload 4, 2) := by decide +kernel
theorem dL_law_1136 : decode cL_law 1136 = .ok (.iconst 2, 1) := by decide +kernel
theorem dL_law_1137 : decode cL_law 1137 = .ok (.iadd, 1) := by decide +kernel
theorem dL_law_1138 : decode cL_law 1138 = .ok (.iaload, 1) := by decide +kernel
theorem dL_law_1139 : decode cL_law 1139 = .ok (.invokevirtual 183, 3) := by decide +kernel
theorem dL_law_1142 : decode cL_law 1142 = .ok (.istore 6, 2) := by decide +kernel
theorem dL_law_1144 : decode cL_law 1144 = .ok (.aload_n 2, 1) := by decide +kernel
theorem dL_law_1145 : decode cL_law 1145 = .ok (.invokevirtual 135, 3) := by decide +kernel
theorem dL_law_1148 : decode cL_law 1148 = .ok (.iload 5, 2) := by decide +kernel
theorem dL_law_1150 : decode cL_law 1150 = .ok (.if_icmp .eq 5, 3) := by decide +kernel
theorem dL_law_1153 : decode cL_law 1153 = .ok (.iconst 0, 1) := by decide +kernel
theorem dL_law_1154 : decode cL_law 1154 = .ok (.ireturn, 1) := by decide +kernel
theorem dL_law_1155 : decode cL_law 1155 = .ok (.iload 5, 2) := by decide +kernel
theorem dL_law_1157 : decode cL_law 1157 = .ok (.ifCond .ne 15, 3) := by decide +kernel
theorem dL_law_1160 : decode cL_law 1160 = .ok (.aload_n 3, 1) := by decide +kernel
theorem dL_law_1161 : decode cL_law 1161 = .ok (.iconst 0, 1) := by decide +kernel
theorem dL_law_1162 : decode cL_law 1162 = .ok (.laload, 1) := by decide +kernel
theorem dL_law_1163 : decode cL_law 1163 = .ok (.iload 6, 2) := by decide +kernel
theorem dL_law_1165 : decode cL_law 1165 = .ok (.i2l, 1) := by decide +kernel
theorem dL_law_1166 : decode cL_law 1166 = .ok (.lcmp, 1) := by decide +kernel
theorem dL_law_1167 : decode cL_law 1167 = .ok (.ifCond .eq 5, 3) := by decide +kernel
theorem dL_law_1170 : decode cL_law 1170 = .ok (.iconst 0, 1) := by decide +kernel
theorem dL_law_1171 : decode cL_law 1171 = .ok (.ireturn, 1) := by decide +kernel
theorem dL_law_1172 : decode cL_law 1172 = .ok (.goto 862, 3) := by decide +kernel
theorem dL_law_1175 : decode cL_law 1175 = .ok (.aload_n 1, 1) := by decide +kernel
theorem dL_law_1176 : decode cL_law 1176 = .ok (.aload_n 0, 1) := by decide +kernel
theorem dL_law_1177 : decode cL_law 1177 = .ok (.iload 4, 2) := by decide +kernel
theorem dL_law_1179 : decode cL_law 1179 = .ok (.iconst 1, 1) := by decide +kernel
theorem dL_law_1180 : decode cL_law 1180 = .ok (.iadd, 1) := by decide +kernel
theorem dL_law_1181 : decode cL_law 1181 = .ok (.iaload, 1) := by decide +kernel
theorem dL_law_1182 : decode cL_law 1182 = .ok (.aload_n 0, 1) := by decide +kernel
theorem dL_law_1183 : decode cL_law 1183 = .ok (.iload 4, 2) := by decide +kernel
theorem dL_law_1185 : decode cL_law 1185 = .ok (.iconst 2, 1) := by decide +kernel
theorem dL_law_1186 : decode cL_law 1186 = .ok (.iadd, 1) := by decide +kernel
theorem dL_law_1187 : decode cL_law 1187 = .ok (.iaload, 1) := by decide +kernel
theorem dL_law_1188 : decode cL_law 1188 = .ok (.aload_n 3, 1) := by decide +kernel
theorem dL_law_1189 : decode cL_law 1189 = .ok (.invokestatic 184, 3) := by decide +kernel
theorem dL_law_1192 : decode cL_law 1192 = .ok (.istore 5, 2) := by decide +kernel
theorem dL_law_1194 : decode cL_law 1194 = .ok (.aload_n 2, 1) := by decide +kernel
theorem dL_law_1195 : decode cL_law 1195 = .ok (.aload_n 0, 1) := by decide +kernel
theorem dL_law_1196 : decode cL_law 1196 = .ok (.iload 4, 2) := by decide +kernel
theorem dL_law_1198 : decode cL_law 1198 = .ok (.iconst 1, 1) := by decide +kernel
theorem dL_law_1199 : decode cL_law 1199 = .ok (.iadd, 1) := by decide +kernel
theorem dL_law_1200 : decode cL_law 1200 = .ok (.iaload, 1) := by decide +kernel
theorem dL_law_1201 : decode cL_law 1201 = .ok (.aload_n 0, 1) := by decide +kernel
theorem dL_law_1202 : decode cL_law 1202 = .ok (.iload 4, 2) := by decide +kernel
theorem dL_law_1204 : decode cL_law 1204 = .ok (.iconst 2, 1) := by decide +kernel
theorem dL_law_1205 : decode cL_law 1205 = .ok (.iadd, 1) := by decide +kernel
theorem dL_law_1206 : decode cL_law 1206 = .ok (.iaload, 1) := by decide +kernel
theorem dL_law_1207 : decode cL_law 1207 = .ok (.invokevirtual 186, 3) := by decide +kernel
theorem dL_law_1210 : decode cL_law 1210 = .ok (.istore 6, 2) := by decide +kernel
theorem dL_law_1212 : decode cL_law 1212 = .ok (.aload_n 2, 1) := by decide +kernel
theorem dL_law_1213 : decode cL_law 1213 = .ok (.invokevirtual 135, 3) := by decide +kernel
theorem dL_law_1216 : decode cL_law 1216 = .ok (.iload 5, 2) := by decide +kernel
theorem dL_law_1218 : decode cL_law 1218 = .ok (.if_icmp .eq 5, 3) := by decide +kernel
theorem dL_law_1221 : decode cL_law 1221 = .ok (.iconst 0, 1) := by decide +kernel
theorem dL_law_1222 : decode cL_law 1222 = .ok (.ireturn, 1) := by decide +kernel
theorem dL_law_1223 : decode cL_law 1223 = .ok (.iload 5, 2) := by decide +kernel
theorem dL_law_1225 : decode cL_law 1225 = .ok (.ifCond .ne 15, 3) := by decide +kernel
theorem dL_law_1228 : decode cL_law 1228 = .ok (.aload_n 3, 1) := by decide +kernel
theorem dL_law_1229 : decode cL_law 1229 = .ok (.iconst 0, 1) := by decide +kernel
theorem dL_law_1230 : decode cL_law 1230 = .ok (.laload, 1) := by decide +kernel
theorem dL_law_1231 : decode cL_law 1231 = .ok (.iload 6, 2) := by decide +kernel
theorem dL_law_1233 : decode cL_law 1233 = .ok (.i2l, 1) := by decide +kernel
theorem dL_law_1234 : decode cL_law 1234 = .ok (.lcmp, 1) := by decide +kernel
theorem dL_law_1235 : decode cL_law 1235 = .ok (.ifCond .eq 5, 3) := by decide +kernel
theorem dL_law_1238 : decode cL_law 1238 = .ok (.iconst 0, 1) := by decide +kernel
theorem dL_law_1239 : decode cL_law 1239 = .ok (.ireturn, 1) := by decide +kernel
theorem dL_law_1240 : decode cL_law 1240 = .ok (.goto 794, 3) := by decide +kernel
theorem dL_law_1243 : decode cL_law 1243 = .ok (.aload_n 1, 1) := by decide +kernel
theorem dL_law_1244 : decode cL_law 1244 = .ok (.aload_n 0, 1) := by decide +kernel
theorem dL_law_1245 : decode cL_law 1245 = .ok (.iload 4, 2) := by decide +kernel
theorem dL_law_1247 : decode cL_law 1247 = .ok (.iconst 1, 1) := by decide +kernel
theorem dL_law_1248 : decode cL_law 1248 = .ok (.iadd, 1) := by decide +kernel
theorem dL_law_1249 : decode cL_law 1249 = .ok (.iaload, 1) := by decide +kernel
theorem dL_law_1250 : decode cL_law 1250 = .ok (.aload_n 0, 1) := by decide +kernel
theorem dL_law_1251 : decode cL_law 1251 = .ok (.iload 4, 2) := by decide +kernel
theorem dL_law_1253 : decode cL_law 1253 = .ok (.iconst 2, 1) := by decide +kernel
theorem dL_law_1254 : decode cL_law 1254 = .ok (.iadd, 1) := by decide +kernel
theorem dL_law_1255 : decode cL_law 1255 = .ok (.iaload, 1) := by decide +kernel
theorem dL_law_1256 : decode cL_law 1256 = .ok (.aload_n 3, 1) := by decide +kernel
theorem dL_law_1257 : decode cL_law 1257 = .ok (.invokestatic 187, 3) := by decide +kernel
theorem dL_law_1260 : decode cL_law 1260 = .ok (.istore 5, 2) := by decide +kernel
theorem dL_law_1262 : decode cL_law 1262 = .ok (.aload_n 2, 1) := by decide +kernel
theorem dL_law_1263 : decode cL_law 1263 = .ok (.aload_n 0, 1) := by decide +kernel
theorem dL_law_1264 : decode cL_law 1264 = .ok (.iload 4, 2) := by decide +kernel
theorem dL_law_1266 : decode cL_law 1266 = .ok (.iconst 1, 1) := by decide +kernel
theorem dL_law_1267 : decode cL_law 1267 = .ok (.iadd, 1) := by decide +kernel
theorem dL_law_1268 : decode cL_law 1268 = .ok (.iaload, 1) := by decide +kernel
theorem dL_law_1269 : decode cL_law 1269 = .ok (.aload_n 0, 1) := by decide +kernel
theorem dL_law_1270 : decode cL_law 1270 = .ok (.iload 4, 2) := by decide +kernel
theorem dL_law_1272 : decode cL_law 1272 = .ok (.iconst 2, 1) := by decide +kernel
theorem dL_law_1273 : decode cL_law 1273 = .ok (.iadd, 1) := by decide +kernel
theorem dL_law_1274 : decode cL_law 1274 = .ok (.iaload, 1) := by decide +kernel
theorem dL_law_1275 : decode cL_law 1275 = .ok (.invokevirtual 189, 3) := by decide +kernel
theorem dL_law_1278 : decode cL_law 1278 = .ok (.istore 6, 2) := by decide +kernel
theorem dL_law_1280 : decode cL_law 1280 = .ok (.aload_n 2, 1) := by decide +kernel
theorem dL_law_1281 : decode cL_law 1281 = .ok (.invokevirtual 135, 3) := by decide +kernel
theorem dL_law_1284 : decode cL_law 1284 = .ok (.iload 5, 2) := by decide +kernel
theorem dL_law_1286 : decode cL_law 1286 = .ok (.if_icmp .eq 5, 3) := by decide +kernel
theorem dL_law_1289 : decode cL_law 1289 = .ok (.iconst 0, 1) := by decide +kernel
theorem dL_law_1290 : decode cL_law 1290 = .ok (.ireturn, 1) := by decide +kernel
theorem dL_law_1291 : decode cL_law 1291 = .ok (.iload 5, 2) := by decide +kernel
theorem dL_law_1293 : decode cL_law 1293 = .ok (.ifCond .ne 15, 3) := by decide +kernel
theorem dL_law_1296 : decode cL_law 1296 = .ok (.aload_n 3, 1) := by decide +kernel
theorem dL_law_1297 : decode cL_law 1297 = .ok (.iconst 0, 1) := by decide +kernel
theorem dL_law_1298 : decode cL_law 1298 = .ok (.laload, 1) := by decide +kernel
theorem dL_law_1299 : decode cL_law 1299 = .ok (.iload 6, 2) := by decide +kernel
theorem dL_law_1301 : decode cL_law 1301 = .ok (.i2l, 1) := by decide +kernel
theorem dL_law_1302 : decode cL_law 1302 = .ok (.lcmp, 1) := by decide +kernel
theorem dL_law_1303 : decode cL_law 1303 = .ok (.ifCond .eq 5, 3) := by decide +kernel
theorem dL_law_1306 : decode cL_law 1306 = .ok (.iconst 0, 1) := by decide +kernel
theorem dL_law_1307 : decode cL_law 1307 = .ok (.ireturn, 1) := by decide +kernel
theorem dL_law_1308 : decode cL_law 1308 = .ok (.goto 726, 3) := by decide +kernel
theorem dL_law_1311 : decode cL_law 1311 = .ok (.aload_n 1, 1) := by decide +kernel
theorem dL_law_1312 : decode cL_law 1312 = .ok (.aload_n 0, 1) := by decide +kernel
theorem dL_law_1313 : decode cL_law 1313 = .ok (.iload 4, 2) := by decide +kernel
theorem dL_law_1315 : decode cL_law 1315 = .ok (.iconst 1, 1) := by decide +kernel
theorem dL_law_1316 : decode cL_law 1316 = .ok (.iadd, 1) := by decide +kernel
theorem dL_law_1317 : decode cL_law 1317 = .ok (.iaload, 1) := by decide +kernel
theorem dL_law_1318 : decode cL_law 1318 = .ok (.aload_n 0, 1) := by decide +kernel
theorem dL_law_1319 : decode cL_law 1319 = .ok (.iload 4, 2) := by decide +kernel
theorem dL_law_1321 : decode cL_law 1321 = .ok (.iconst 2, 1) := by decide +kernel
theorem dL_law_1322 : decode cL_law 1322 = .ok (.iadd, 1) := by decide +kernel
theorem dL_law_1323 : decode cL_law 1323 = .ok (.iaload, 1) := by decide +kernel
theorem dL_law_1324 : decode cL_law 1324 = .ok (.aload_n 3, 1) := by decide +kernel
theorem dL_law_1325 : decode cL_law 1325 = .ok (.invokestatic 190, 3) := by decide +kernel
theorem dL_law_1328 : decode cL_law 1328 = .ok (.istore 5, 2) := by decide +kernel
theorem dL_law_1330 : decode cL_law 1330 = .ok (.aload_n 2, 1) := by decide +kernel
theorem dL_law_1331 : decode cL_law 1331 = .ok (.aload_n 0, 1) := by decide +kernel
theorem dL_law_1332 : decode cL_law 1332 = .ok (.iload 4, 2) := by decide +kernel
theorem dL_law_1334 : decode cL_law 1334 = .ok (.iconst 1, 1) := by decide +kernel
theorem dL_law_1335 : decode cL_law 1335 = .ok (.iadd, 1) := by decide +kernel
theorem dL_law_1336 : decode cL_law 1336 = .ok (.iaload, 1) := by decide +kernel
theorem dL_law_1337 : decode cL_law 1337 = .ok (.aload_n 0, 1) := by decide +kernel
theorem dL_law_1338 : decode cL_law 1338 = .ok (.iload 4, 2) := by decide +kernel
theorem dL_law_1340 : decode cL_law 1340 = .ok (.iconst 2, 1) := by decide +kernel
theorem dL_law_1341 : decode cL_law 1341 = .ok (.iadd, 1) := by decide +kernel
theorem dL_law_1342 : decode cL_law 1342 = .ok (.iaload, 1) := by decide +kernel
theorem dL_law_1343 : decode cL_law 1343 = .ok (.invokevirtual 192, 3) := by decide +kernel
theorem dL_law_1346 : decode cL_law 1346 = .ok (.istore 6, 2) := by decide +kernel
theorem dL_law_1348 : decode cL_law 1348 = .ok (.aload_n 2, 1) := by decide +kernel
theorem dL_law_1349 : decode cL_law 1349 = .ok (.invokevirtual 135, 3) := by decide +kernel
theorem dL_law_1352 : decode cL_law 1352 = .ok (.iload 5, 2) := by decide +kernel
theorem dL_law_1354 : decode cL_law 1354 = .ok (.if_icmp .eq 5, 3) := by decide +kernel
theorem dL_law_1357 : decode cL_law 1357 = .ok (.iconst 0, 1) := by decide +kernel
theorem dL_law_1358 : decode cL_law 1358 = .ok (.ireturn, 1) := by decide +kernel
theorem dL_law_1359 : decode cL_law 1359 = .ok (.iload 5, 2) := by decide +kernel
theorem dL_law_1361 : decode cL_law 1361 = .ok (.ifCond .ne 22, 3) := by decide +kernel
theorem dL_law_1364 : decode cL_law 1364 = .ok (.aload_n 3, 1) := by decide +kernel
theorem dL_law_1365 : decode cL_law 1365 = .ok (.iconst 0, 1) := by decide +kernel
theorem dL_law_1366 : decode cL_law 1366 = .ok (.laload, 1) := by decide +kernel
theorem dL_law_1367 : decode cL_law 1367 = .ok (.iload 6, 2) := by decide +kernel
theorem dL_law_1369 : decode cL_law 1369 = .ok (.ifCond .eq 7, 3) := by decide +kernel
theorem dL_law_1372 : decode cL_law 1372 = .ok (.lconst 1, 1) := by decide +kernel
theorem dL_law_1373 : decode cL_law 1373 = .ok (.goto 4, 3) := by decide +kernel
theorem dL_law_1376 : decode cL_law 1376 = .ok (.lconst 0, 1) := by decide +kernel
theorem dL_law_1377 : decode cL_law 1377 = .ok (.lcmp, 1) := by decide +kernel
theorem dL_law_1378 : decode cL_law 1378 = .ok (.ifCond .eq 5, 3) := by decide +kernel
theorem dL_law_1381 : decode cL_law 1381 = .ok (.iconst 0, 1) := by decide +kernel
theorem dL_law_1382 : decode cL_law 1382 = .ok (.ireturn, 1) := by decide +kernel
theorem dL_law_1383 : decode cL_law 1383 = .ok (.goto 651, 3) := by decide +kernel
theorem dL_law_1386 : decode cL_law 1386 = .ok (.aload_n 1, 1) := by decide +kernel
theorem dL_law_1387 : decode cL_law 1387 = .ok (.invokevirtual 193, 3) := by decide +kernel
theorem dL_law_1390 : decode cL_law 1390 = .ok (.aload_n 2, 1) := by decide +kernel
theorem dL_law_1391 : decode cL_law 1391 = .ok (.invokevirtual 196, 3) := by decide +kernel
theorem dL_law_1394 : decode cL_law 1394 = .ok (.if_icmp .eq 640, 3) := by decide +kernel
theorem dL_law_1397 : decode cL_law 1397 = .ok (.iconst 0, 1) := by decide +kernel
theorem dL_law_1398 : decode cL_law 1398 = .ok (.ireturn, 1) := by decide +kernel
theorem dL_law_1399 : decode cL_law 1399 = .ok (.aload_n 1, 1) := by decide +kernel
theorem dL_law_1400 : decode cL_law 1400 = .ok (.invokevirtual 197, 3) := by decide +kernel
theorem dL_law_1403 : decode cL_law 1403 = .ok (.aload_n 2, 1) := by decide +kernel
theorem dL_law_1404 : decode cL_law 1404 = .ok (.invokevirtual 200, 3) := by decide +kernel
theorem dL_law_1407 : decode cL_law 1407 = .ok (.if_icmp .eq 627, 3) := by decide +kernel
theorem dL_law_1410 : decode cL_law 1410 = .ok (.iconst 0, 1) := by decide +kernel
theorem dL_law_1411 : decode cL_law 1411 = .ok (.ireturn, 1) := by decide +kernel
theorem dL_law_1412 : decode cL_law 1412 = .ok (.aload_n 1, 1) := by decide +kernel
theorem dL_law_1413 : decode cL_law 1413 = .ok (.aload_n 0, 1) := by decide +kernel
theorem dL_law_1414 : decode cL_law 1414 = .ok (.iload 4, 2) := by decide +kernel
theorem dL_law_1416 : decode cL_law 1416 = .ok (.iconst 1, 1) := by decide +kernel
theorem dL_law_1417 : decode cL_law 1417 = .ok (.iadd, 1) := by decide +kernel
theorem dL_law_1418 : decode cL_law 1418 = .ok (.iaload, 1) := by decide +kernel
theorem dL_law_1419 : decode cL_law 1419 = .ok (.invokevirtual 201, 3) := by decide +kernel
theorem dL_law_1422 : decode cL_law 1422 = .ok (.aload_n 2, 1) := by decide +kernel
theorem dL_law_1423 : decode cL_law 1423 = .ok (.aload_n 0, 1) := by decide +kernel
theorem dL_law_1424 : decode cL_law 1424 = .ok (.iload 4, 2) := by decide +kernel
theorem dL_law_1426 : decode cL_law 1426 = .ok (.iconst 1, 1) := by decide +kernel
theorem dL_law_1427 : decode cL_law 1427 = .ok (.iadd, 1) := by decide +kernel
theorem dL_law_1428 : decode cL_law 1428 = .ok (.iaload, 1) := by decide +kernel
theorem dL_law_1429 : decode cL_law 1429 = .ok (.invokevirtual 204, 3) := by decide +kernel
theorem dL_law_1432 : decode cL_law 1432 = .ok (.if_icmp .eq 602, 3) := by decide +kernel
theorem dL_law_1435 : decode cL_law 1435 = .ok (.iconst 0, 1) := by decide +kernel
theorem dL_law_1436 : decode cL_law 1436 = .ok (.ireturn, 1) := by decide +kernel
theorem dL_law_1437 : decode cL_law 1437 = .ok (.aload_n 1, 1) := by decide +kernel
theorem dL_law_1438 : decode cL_law 1438 = .ok (.aload_n 0, 1) := by decide +kernel
theorem dL_law_1439 : decode cL_law 1439 = .ok (.iload 4, 2) := by decide +kernel
theorem dL_law_1441 : decode cL_law 1441 = .ok (.iconst 1, 1) := by decide +kernel
theorem dL_law_1442 : decode cL_law 1442 = .ok (.iadd, 1) := by decide +kernel
theorem dL_law_1443 : decode cL_law 1443 = .ok (.iaload, 1) := by decide +kernel
theorem dL_law_1444 : decode cL_law 1444 = .ok (.aload_n 0, 1) := by decide +kernel
theorem dL_law_1445 : decode cL_law 1445 = .ok (.iload 4, 2) := by decide +kernel
theorem dL_law_1447 : decode cL_law 1447 = .ok (.iconst 2, 1) := by decide +kernel
theorem dL_law_1448 : decode cL_law 1448 = .ok (.iadd, 1) := by decide +kernel
theorem dL_law_1449 : decode cL_law 1449 = .ok (.iaload, 1) := by decide +kernel
theorem dL_law_1450 : decode cL_law 1450 = .ok (.aload_n 3, 1) := by decide +kernel
theorem dL_law_1451 : decode cL_law 1451 = .ok (.invokestatic 205, 3) := by decide +kernel
theorem dL_law_1454 : decode cL_law 1454 = .ok (.istore 5, 2) := by decide +kernel
theorem dL_law_1456 : decode cL_law 1456 = .ok (.aload_n 2, 1) := by decide +kernel
theorem dL_law_1457 : decode cL_law 1457 = .ok (.aload_n 0, 1) := by decide +kernel
theorem dL_law_1458 : decode cL_law 1458 = .ok (.iload 4, 2) := by decide +kernel
theorem dL_law_1460 : decode cL_law 1460 = .ok (.iconst 1, 1) := by decide +kernel
theorem dL_law_1461 : decode cL_law 1461 = .ok (.iadd, 1) := by decide +kernel
theorem dL_law_1462 : decode cL_law 1462 = .ok (.iaload, 1) := by decide +kernel
theorem dL_law_1463 : decode cL_law 1463 = .ok (.aload_n 0, 1) := by decide +kernel
theorem dL_law_1464 : decode cL_law 1464 = .ok (.iload 4, 2) := by decide +kernel
theorem dL_law_1466 : decode cL_law 1466 = .ok (.iconst 2, 1) := by decide +kernel
theorem dL_law_1467 : decode cL_law 1467 = .ok (.iadd, 1) := by decide +kernel
theorem dL_law_1468 : decode cL_law 1468 = .ok (.iaload, 1) := by decide +kernel
theorem dL_law_1469 : decode cL_law 1469 = .ok (.invokevirtual 207, 3) := by decide +kernel
theorem dL_law_1472 : decode cL_law 1472 = .ok (.istore 6, 2) := by decide +kernel
theorem dL_law_1474 : decode cL_law 1474 = .ok (.aload_n 2, 1) := by decide +kernel
theorem dL_law_1475 : decode cL_law 1475 = .ok (.invokevirtual 135, 3) := by decide +kernel
theorem dL_law_1478 : decode cL_law 1478 = .ok (.iload 5, 2) := by decide +kernel
theorem dL_law_1480 : decode cL_law 1480 = .ok (.if_icmp .eq 5, 3) := by decide +kernel
theorem dL_law_1483 : decode cL_law 1483 = .ok (.iconst 0, 1) := by decide +kernel
theorem dL_law_1484 : decode cL_law 1484 = .ok (.ireturn, 1) := by decide +kernel
theorem dL_law_1485 : decode cL_law 1485 = .ok (.iload 5, 2) := by decide +kernel
theorem dL_law_1487 : decode cL_law 1487 = .ok (.ifCond .ne 15, 3) := by decide +kernel
theorem dL_law_1490 : decode cL_law 1490 = .ok (.aload_n 3, 1) := by decide +kernel
theorem dL_law_1491 : decode cL_law 1491 = .ok (.iconst 0, 1) := by decide +kernel
theorem dL_law_1492 : decode cL_law 1492 = .ok (.laload, 1) := by decide +kernel
theorem dL_law_1493 : decode cL_law 1493 = .ok (.iload 6, 2) := by decide +kernel
theorem dL_law_1495 : decode cL_law 1495 = .ok (.i2l, 1) := by decide +kernel
theorem dL_law_1496 : decode cL_law 1496 = .ok (.lcmp, 1) := by decide +kernel
theorem dL_law_1497 : decode cL_law 1497 = .ok (.ifCond .eq 5, 3) := by decide +kernel
theorem dL_law_1500 : decode cL_law 1500 = .ok (.iconst 0, 1) := by decide +kernel
theorem dL_law_1501 : decode cL_law 1501 = .ok (.ireturn, 1) := by decide +kernel
theorem dL_law_1502 : decode cL_law 1502 = .ok (.goto 532, 3) := by decide +kernel
theorem dL_law_1505 : decode cL_law 1505 = .ok (.aload_n 1, 1) := by decide +kernel
theorem dL_law_1506 : decode cL_law 1506 = .ok (.aload_n 0, 1) := by decide +kernel
theorem dL_law_1507 : decode cL_law 1507 = .ok (.iload 4, 2) := by decide +kernel
theorem dL_law_1509 : decode cL_law 1509 = .ok (.iconst 1, 1) := by decide +kernel
theorem dL_law_1510 : decode cL_law 1510 = .ok (.iadd, 1) := by decide +kernel
theorem dL_law_1511 : decode cL_law 1511 = .ok (.iaload, 1) := by decide +kernel
theorem dL_law_1512 : decode cL_law 1512 = .ok (.aload_n 3, 1) := by decide +kernel
theorem dL_law_1513 : decode cL_law 1513 = .ok (.invokestatic 208, 3) := by decide +kernel
theorem dL_law_1516 : decode cL_law 1516 = .ok (.istore 5, 2) := by decide +kernel
theorem dL_law_1518 : decode cL_law 1518 = .ok (.aload_n 2, 1) := by decide +kernel
theorem dL_law_1519 : decode cL_law 1519 = .ok (.aload_n 0, 1) := by decide +kernel
theorem dL_law_1520 : decode cL_law 1520 = .ok (.iload 4, 2) := by decide +kernel
theorem dL_law_1522 : decode cL_law 1522 = .ok (.iconst 1, 1) := by decide +kernel
theorem dL_law_1523 : decode cL_law 1523 = .ok (.iadd, 1) := by decide +kernel
theorem dL_law_1524 : decode cL_law 1524 = .ok (.iaload, 1) := by decide +kernel
theorem dL_law_1525 : decode cL_law 1525 = .ok (.invokevirtual 210, 3) := by decide +kernel
theorem dL_law_1528 : decode cL_law 1528 = .ok (.istore 6, 2) := by decide +kernel
theorem dL_law_1530 : decode cL_law 1530 = .ok (.aload_n 2, 1) := by decide +kernel
theorem dL_law_1531 : decode cL_law 1531 = .ok (.invokevirtual 135, 3) := by decide +kernel
theorem dL_law_1534 : decode cL_law 1534 = .ok (.iload 5, 2) := by decide +kernel
theorem dL_law_1536 : decode cL_law 1536 = .ok (.if_icmp .eq 5, 3) := by decide +kernel
theorem dL_law_1539 : decode cL_law 1539 = .ok (.iconst 0, 1) := by decide +kernel
theorem dL_law_1540 : decode cL_law 1540 = .ok (.ireturn, 1) := by decide +kernel
theorem dL_law_1541 : decode cL_law 1541 = .ok (.iload 5, 2) := by decide +kernel
theorem dL_law_1543 : decode cL_law 1543 = .ok (.ifCond .ne 15, 3) := by decide +kernel
theorem dL_law_1546 : decode cL_law 1546 = .ok (.aload_n 3, 1) := by decide +kernel
theorem dL_law_1547 : decode cL_law 1547 = .ok (.iconst 0, 1) := by decide +kernel
theorem dL_law_1548 : decode cL_law 1548 = .ok (.laload, 1) := by decide +kernel
theorem dL_law_1549 : decode cL_law 1549 = .ok (.iload 6, 2) := by decide +kernel
theorem dL_law_1551 : decode cL_law 1551 = .ok (.i2l, 1) := by decide +kernel
theorem dL_law_1552 : decode cL_law 1552 = .ok (.lcmp, 1) := by decide +kernel
theorem dL_law_1553 : decode cL_law 1553 = .ok (.ifCond .eq 5, 3) := by decide +kernel
theorem dL_law_1556 : decode cL_law 1556 = .ok (.iconst 0, 1) := by decide +kernel
theorem dL_law_1557 : decode cL_law 1557 = .ok (.ireturn, 1) := by decide +kernel
theorem dL_law_1558 : decode cL_law 1558 = .ok (.goto 476, 3) := by decide +kernel
theorem dL_law_1561 : decode cL_law 1561 = .ok (.aload_n 1, 1) := by decide +kernel
theorem dL_law_1562 : decode cL_law 1562 = .ok (.aload_n 0, 1) := by decide +kernel
theorem dL_law_1563 : decode cL_law 1563 = .ok (.iload 4, 2) := by decide +kernel
theorem dL_law_1565 : decode cL_law 1565 = .ok (.iconst 1, 1) := by decide +kernel
theorem dL_law_1566 : decode cL_law 1566 = .ok (.iadd, 1) := by decide +kernel
theorem dL_law_1567 : decode cL_law 1567 = .ok (.iaload, 1) := by decide +kernel
theorem dL_law_1568 : decode cL_law 1568 = .ok (.aload_n 3, 1) := by decide +kernel
theorem dL_law_1569 : decode cL_law 1569 = .ok (.invokestatic 211, 3) := by decide +kernel
theorem dL_law_1572 : decode cL_law 1572 = .ok (.istore 5, 2) := by decide +kernel
theorem dL_law_1574 : decode cL_law 1574 = .ok (.aload_n 2, 1) := by decide +kernel
theorem dL_law_1575 : decode cL_law 1575 = .ok (.aload_n 0, 1) := by decide +kernel
theorem dL_law_1576 : decode cL_law 1576 = .ok (.iload 4, 2) := by decide +kernel
theorem dL_law_1578 : decode cL_law 1578 = .ok (.iconst 1, 1) := by decide +kernel
theorem dL_law_1579 : decode cL_law 1579 = .ok (.iadd, 1) := by decide +kernel
theorem dL_law_1580 : decode cL_law 1580 = .ok (.iaload, 1) := by decide +kernel
theorem dL_law_1581 : decode cL_law 1581 = .ok (.invokevirtual 213, 3) := by decide +kernel
theorem dL_law_1584 : decode cL_law 1584 = .ok (.istore 6, 2) := by decide +kernel
theorem dL_law_1586 : decode cL_law 1586 = .ok (.aload_n 2, 1) := by decide +kernel
theorem dL_law_1587 : decode cL_law 1587 = .ok (.invokevirtual 135, 3) := by decide +kernel
theorem dL_law_1590 : decode cL_law 1590 = .ok (.iload 5, 2) := by decide +kernel
theorem dL_law_1592 : decode cL_law 1592 = .ok (.if_icmp .eq 5, 3) := by decide +kernel
