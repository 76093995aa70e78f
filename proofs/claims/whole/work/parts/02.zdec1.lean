/-! what the bytes of the methods decode to -/
theorem dX6_take_267 : decode cX6_take 267 = .ok (.bipush 97, 2) := by decide +kernel
theorem dX6_take_269 : decode cX6_take 269 = .ok (.isub, 1) := by decide +kernel
theorem dX6_take_270 : decode cX6_take 270 = .ok (.iconst 1, 1) := by decide +kernel
theorem dX6_take_271 : decode cX6_take 271 = .ok (.iadd, 1) := by decide +kernel
theorem dX6_take_272 : decode cX6_take 272 = .ok (.iconst 5, 1) := by decide +kernel
theorem dX6_take_273 : decode cX6_take 273 = .ok (.iload 7, 2) := by decide +kernel
theorem dX6_take_275 : decode cX6_take 275 = .ok (.imul, 1) := by decide +kernel
theorem dX6_take_276 : decode cX6_take 276 = .ok (.ishl, 1) := by decide +kernel
theorem dX6_take_277 : decode cX6_take 277 = .ok (.goto 4, 3) := by decide +kernel
theorem dX6_take_280 : decode cX6_take 280 = .ok (.iconst 0, 1) := by decide +kernel
theorem dX6_take_281 : decode cX6_take 281 = .ok (.ior, 1) := by decide +kernel
theorem dX6_take_282 : decode cX6_take 282 = .ok (.putfield 32, 3) := by decide +kernel
theorem dX6_take_285 : decode cX6_take 285 = .ok (.iinc 2 1, 3) := by decide +kernel
theorem dX6_take_288 : decode cX6_take 288 = .ok (.goto (-77), 3) := by decide +kernel
theorem dX6_take_291 : decode cX6_take 291 = .ok (.iload 5, 2) := by decide +kernel
theorem dX6_take_293 : decode cX6_take 293 = .ok (.ifCond .eq 44, 3) := by decide +kernel
theorem dX6_take_296 : decode cX6_take 296 = .ok (.aload_n 0, 1) := by decide +kernel
theorem dX6_take_297 : decode cX6_take 297 = .ok (.iconst 2, 1) := by decide +kernel
theorem dX6_take_298 : decode cX6_take 298 = .ok (.putfield 23, 3) := by decide +kernel
theorem dX6_take_301 : decode cX6_take 301 = .ok (.iload_n 2, 1) := by decide +kernel
theorem dX6_take_302 : decode cX6_take 302 = .ok (.aload_n 0, 1) := by decide +kernel
theorem dX6_take_303 : decode cX6_take 303 = .ok (.getfield 19, 3) := by decide +kernel
theorem dX6_take_306 : decode cX6_take 306 = .ok (.if_icmp .ge 39, 3) := by decide +kernel
theorem dX6_take_309 : decode cX6_take 309 = .ok (.aload_n 0, 1) := by decide +kernel
theorem dX6_take_310 : decode cX6_take 310 = .ok (.getfield 15, 3) := by decide +kernel
theorem dX6_take_313 : decode cX6_take 313 = .ok (.iload_n 2, 1) := by decide +kernel
theorem dX6_take_314 : decode cX6_take 314 = .ok (.baload, 1) := by decide +kernel
theorem dX6_take_315 : decode cX6_take 315 = .ok (.bipush 48, 2) := by decide +kernel
theorem dX6_take_317 : decode cX6_take 317 = .ok (.if_icmp .lt 28, 3) := by decide +kernel
theorem dX6_take_320 : decode cX6_take 320 = .ok (.aload_n 0, 1) := by decide +kernel
theorem dX6_take_321 : decode cX6_take 321 = .ok (.getfield 15, 3) := by decide +kernel
theorem dX6_take_324 : decode cX6_take 324 = .ok (.iload_n 2, 1) := by decide +kernel
theorem dX6_take_325 : decode cX6_take 325 = .ok (.baload, 1) := by decide +kernel
theorem dX6_take_326 : decode cX6_take 326 = .ok (.bipush 57, 2) := by decide +kernel
theorem dX6_take_328 : decode cX6_take 328 = .ok (.if_icmp .gt 17, 3) := by decide +kernel
theorem dX6_take_331 : decode cX6_take 331 = .ok (.iinc 2 1, 3) := by decide +kernel
theorem dX6_take_334 : decode cX6_take 334 = .ok (.goto (-33), 3) := by decide +kernel
theorem dX6_take_337 : decode cX6_take 337 = .ok (.aload_n 0, 1) := by decide +kernel
theorem dX6_take_338 : decode cX6_take 338 = .ok (.iconst 3, 1) := by decide +kernel
theorem dX6_take_339 : decode cX6_take 339 = .ok (.putfield 23, 3) := by decide +kernel
theorem dX6_take_342 : decode cX6_take 342 = .ok (.iinc 2 1, 3) := by decide +kernel
theorem dX6_take_345 : decode cX6_take 345 = .ok (.aload_n 0, 1) := by decide +kernel
theorem dX6_take_346 : decode cX6_take 346 = .ok (.iload_n 2, 1) := by decide +kernel
theorem dX6_take_347 : decode cX6_take 347 = .ok (.putfield 29, 3) := by decide +kernel
theorem dX6_take_350 : decode cX6_take 350 = .ok (.return_, 1) := by decide +kernel
theorem dX6_isSign_0 : decode cX6_isSign 0 = .ok (.aload_n 0, 1) := by decide +kernel
theorem dX6_isSign_1 : decode cX6_isSign 1 = .ok (.getfield 23, 3) := by decide +kernel
theorem dX6_isSign_4 : decode cX6_isSign 4 = .ok (.iconst 3, 1) := by decide +kernel
theorem dX6_isSign_5 : decode cX6_isSign 5 = .ok (.if_icmp .ne 38, 3) := by decide +kernel
theorem dX6_isSign_8 : decode cX6_isSign 8 = .ok (.aload_n 0, 1) := by decide +kernel
theorem dX6_isSign_9 : decode cX6_isSign 9 = .ok (.getfield 26, 3) := by decide +kernel
theorem dX6_isSign_12 : decode cX6_isSign 12 = .ok (.ifCond .lt 31, 3) := by decide +kernel
theorem dX6_isSign_15 : decode cX6_isSign 15 = .ok (.aload_n 0, 1) := by decide +kernel
theorem dX6_isSign_16 : decode cX6_isSign 16 = .ok (.getfield 26, 3) := by decide +kernel
theorem dX6_isSign_19 : decode cX6_isSign 19 = .ok (.aload_n 0, 1) := by decide +kernel
theorem dX6_isSign_20 : decode cX6_isSign 20 = .ok (.getfield 19, 3) := by decide +kernel
theorem dX6_isSign_23 : decode cX6_isSign 23 = .ok (.if_icmp .ge 20, 3) := by decide +kernel
theorem dX6_isSign_26 : decode cX6_isSign 26 = .ok (.aload_n 0, 1) := by decide +kernel
theorem dX6_isSign_27 : decode cX6_isSign 27 = .ok (.getfield 15, 3) := by decide +kernel
theorem dX6_isSign_30 : decode cX6_isSign 30 = .ok (.aload_n 0, 1) := by decide +kernel
theorem dX6_isSign_31 : decode cX6_isSign 31 = .ok (.getfield 26, 3) := by decide +kernel
theorem dX6_isSign_34 : decode cX6_isSign 34 = .ok (.baload, 1) := by decide +kernel
theorem dX6_isSign_35 : decode cX6_isSign 35 = .ok (.iload_n 1, 1) := by decide +kernel
theorem dX6_isSign_36 : decode cX6_isSign 36 = .ok (.if_icmp .ne 7, 3) := by decide +kernel
theorem dX6_isSign_39 : decode cX6_isSign 39 = .ok (.iconst 1, 1) := by decide +kernel
theorem dX6_isSign_40 : decode cX6_isSign 40 = .ok (.goto 4, 3) := by decide +kernel
theorem dX6_isSign_43 : decode cX6_isSign 43 = .ok (.iconst 0, 1) := by decide +kernel
theorem dX6_isSign_44 : decode cX6_isSign 44 = .ok (.ireturn, 1) := by decide +kernel
theorem dX6_isWord_0 : decode cX6_isWord 0 = .ok (.aload_n 0, 1) := by decide +kernel
theorem dX6_isWord_1 : decode cX6_isWord 1 = .ok (.getfield 23, 3) := by decide +kernel
theorem dX6_isWord_4 : decode cX6_isWord 4 = .ok (.iconst 1, 1) := by decide +kernel
theorem dX6_isWord_5 : decode cX6_isWord 5 = .ok (.if_icmp .ne 44, 3) := by decide +kernel
theorem dX6_isWord_8 : decode cX6_isWord 8 = .ok (.aload_n 0, 1) := by decide +kernel
theorem dX6_isWord_9 : decode cX6_isWord 9 = .ok (.getfield 29, 3) := by decide +kernel
theorem dX6_isWord_12 : decode cX6_isWord 12 = .ok (.aload_n 0, 1) := by decide +kernel
theorem dX6_isWord_13 : decode cX6_isWord 13 = .ok (.getfield 26, 3) := by decide +kernel
theorem dX6_isWord_16 : decode cX6_isWord 16 = .ok (.isub, 1) := by decide +kernel
theorem dX6_isWord_17 : decode cX6_isWord 17 = .ok (.bipush 6, 2) := by decide +kernel
theorem dX6_isWord_19 : decode cX6_isWord 19 = .ok (.if_icmp .gt 30, 3) := by decide +kernel
theorem dX6_isWord_22 : decode cX6_isWord 22 = .ok (.iload_n 1, 1) := by decide +kernel
theorem dX6_isWord_23 : decode cX6_isWord 23 = .ok (.ifCond .lt 26, 3) := by decide +kernel
theorem dX6_isWord_26 : decode cX6_isWord 26 = .ok (.iload_n 1, 1) := by decide +kernel
theorem dX6_isWord_27 : decode cX6_isWord 27 = .ok (.bipush 34, 2) := by decide +kernel
theorem dX6_isWord_29 : decode cX6_isWord 29 = .ok (.if_icmp .ge 20, 3) := by decide +kernel
theorem dX6_isWord_32 : decode cX6_isWord 32 = .ok (.aload_n 0, 1) := by decide +kernel
theorem dX6_isWord_33 : decode cX6_isWord 33 = .ok (.getfield 9, 3) := by decide +kernel
theorem dX6_isWord_36 : decode cX6_isWord 36 = .ok (.iload_n 1, 1) := by decide +kernel
theorem dX6_isWord_37 : decode cX6_isWord 37 = .ok (.iaload, 1) := by decide +kernel
theorem dX6_isWord_38 : decode cX6_isWord 38 = .ok (.aload_n 0, 1) := by decide +kernel
theorem dX6_isWord_39 : decode cX6_isWord 39 = .ok (.getfield 32, 3) := by decide +kernel
theorem dX6_isWord_42 : decode cX6_isWord 42 = .ok (.if_icmp .ne 7, 3) := by decide +kernel
theorem dX6_isWord_45 : decode cX6_isWord 45 = .ok (.iconst 1, 1) := by decide +kernel
theorem dX6_isWord_46 : decode cX6_isWord 46 = .ok (.goto 4, 3) := by decide +kernel
theorem dX6_isWord_49 : decode cX6_isWord 49 = .ok (.iconst 0, 1) := by decide +kernel
theorem dX6_isWord_50 : decode cX6_isWord 50 = .ok (.ireturn, 1) := by decide +kernel
theorem dX6_knownWord_0 : decode cX6_knownWord 0 = .ok (.aload_n 0, 1) := by decide +kernel
theorem dX6_knownWord_1 : decode cX6_knownWord 1 = .ok (.getfield 23, 3) := by decide +kernel
theorem dX6_knownWord_4 : decode cX6_knownWord 4 = .ok (.iconst 1, 1) := by decide +kernel
theorem dX6_knownWord_5 : decode cX6_knownWord 5 = .ok (.if_icmp .ne 46, 3) := by decide +kernel
theorem dX6_knownWord_8 : decode cX6_knownWord 8 = .ok (.aload_n 0, 1) := by decide +kernel
theorem dX6_knownWord_9 : decode cX6_knownWord 9 = .ok (.getfield 29, 3) := by decide +kernel
theorem dX6_knownWord_12 : decode cX6_knownWord 12 = .ok (.aload_n 0, 1) := by decide +kernel
theorem dX6_knownWord_13 : decode cX6_knownWord 13 = .ok (.getfield 26, 3) := by decide +kernel
theorem dX6_knownWord_16 : decode cX6_knownWord 16 = .ok (.isub, 1) := by decide +kernel
theorem dX6_knownWord_17 : decode cX6_knownWord 17 = .ok (.bipush 6, 2) := by decide +kernel
theorem dX6_knownWord_19 : decode cX6_knownWord 19 = .ok (.if_icmp .gt 32, 3) := by decide +kernel
theorem dX6_knownWord_22 : decode cX6_knownWord 22 = .ok (.iconst 0, 1) := by decide +kernel
theorem dX6_knownWord_23 : decode cX6_knownWord 23 = .ok (.istore_n 1, 1) := by decide +kernel
theorem dX6_knownWord_24 : decode cX6_knownWord 24 = .ok (.iload_n 1, 1) := by decide +kernel
theorem dX6_knownWord_25 : decode cX6_knownWord 25 = .ok (.bipush 34, 2) := by decide +kernel
theorem dX6_knownWord_27 : decode cX6_knownWord 27 = .ok (.if_icmp .ge 24, 3) := by decide +kernel
theorem dX6_knownWord_30 : decode cX6_knownWord 30 = .ok (.aload_n 0, 1) := by decide +kernel
theorem dX6_knownWord_31 : decode cX6_knownWord 31 = .ok (.getfield 9, 3) := by decide +kernel
theorem dX6_knownWord_34 : decode cX6_knownWord 34 = .ok (.iload_n 1, 1) := by decide +kernel
theorem dX6_knownWord_35 : decode cX6_knownWord 35 = .ok (.iaload, 1) := by decide +kernel
theorem dX6_knownWord_36 : decode cX6_knownWord 36 = .ok (.aload_n 0, 1) := by decide +kernel
theorem dX6_knownWord_37 : decode cX6_knownWord 37 = .ok (.getfield 32, 3) := by decide +kernel
theorem dX6_knownWord_40 : decode cX6_knownWord 40 = .ok (.if_icmp .ne 5, 3) := by decide +kernel
theorem dX6_knownWord_43 : decode cX6_knownWord 43 = .ok (.iload_n 1, 1) := by decide +kernel
theorem dX6_knownWord_44 : decode cX6_knownWord 44 = .ok (.ireturn, 1) := by decide +kernel
theorem dX6_knownWord_45 : decode cX6_knownWord 45 = .ok (.iinc 1 1, 3) := by decide +kernel
theorem dX6_knownWord_48 : decode cX6_knownWord 48 = .ok (.goto (-24), 3) := by decide +kernel
theorem dX6_knownWord_51 : decode cX6_knownWord 51 = .ok (.iconst (-1), 1) := by decide +kernel
theorem dX6_knownWord_52 : decode cX6_knownWord 52 = .ok (.ireturn, 1) := by decide +kernel
theorem dX6_needSign_0 : decode cX6_needSign 0 = .ok (.aload_n 0, 1) := by decide +kernel
theorem dX6_needSign_1 : decode cX6_needSign 1 = .ok (.iload_n 1, 1) := by decide +kernel
theorem dX6_needSign_2 : decode cX6_needSign 2 = .ok (.invokevirtual 68, 3) := by decide +kernel
theorem dX6_needSign_5 : decode cX6_needSign 5 = .ok (.ifCond .eq 10, 3) := by decide +kernel
theorem dX6_needSign_8 : decode cX6_needSign 8 = .ok (.aload_n 0, 1) := by decide +kernel
theorem dX6_needSign_9 : decode cX6_needSign 9 = .ok (.invokevirtual 65, 3) := by decide +kernel
theorem dX6_needSign_12 : decode cX6_needSign 12 = .ok (.goto 12, 3) := by decide +kernel
theorem dX6_needSign_15 : decode cX6_needSign 15 = .ok (.aload_n 0, 1) := by decide +kernel
theorem dX6_needSign_16 : decode cX6_needSign 16 = .ok (.iconst 1, 1) := by decide +kernel
theorem dX6_needSign_17 : decode cX6_needSign 17 = .ok (.aload_n 0, 1) := by decide +kernel
theorem dX6_needSign_18 : decode cX6_needSign 18 = .ok (.getfield 26, 3) := by decide +kernel
theorem dX6_needSign_21 : decode cX6_needSign 21 = .ok (.invokevirtual 72, 3) := by decide +kernel
theorem dX6_needSign_24 : decode cX6_needSign 24 = .ok (.return_, 1) := by decide +kernel
theorem dX6_needWord_0 : decode cX6_needWord 0 = .ok (.aload_n 0, 1) := by decide +kernel
theorem dX6_needWord_1 : decode cX6_needWord 1 = .ok (.iload_n 1, 1) := by decide +kernel
theorem dX6_needWord_2 : decode cX6_needWord 2 = .ok (.invokevirtual 76, 3) := by decide +kernel
theorem dX6_needWord_5 : decode cX6_needWord 5 = .ok (.ifCond .eq 10, 3) := by decide +kernel
theorem dX6_needWord_8 : decode cX6_needWord 8 = .ok (.aload_n 0, 1) := by decide +kernel
theorem dX6_needWord_9 : decode cX6_needWord 9 = .ok (.invokevirtual 65, 3) := by decide +kernel
theorem dX6_needWord_12 : decode cX6_needWord 12 = .ok (.goto 12, 3) := by decide +kernel
theorem dX6_needWord_15 : decode cX6_needWord 15 = .ok (.aload_n 0, 1) := by decide +kernel
theorem dX6_needWord_16 : decode cX6_needWord 16 = .ok (.iconst 1, 1) := by decide +kernel
theorem dX6_needWord_17 : decode cX6_needWord 17 = .ok (.aload_n 0, 1) := by decide +kernel
theorem dX6_needWord_18 : decode cX6_needWord 18 = .ok (.getfield 26, 3) := by decide +kernel
theorem dX6_needWord_21 : decode cX6_needWord 21 = .ok (.invokevirtual 72, 3) := by decide +kernel
theorem dX6_needWord_24 : decode cX6_needWord 24 = .ok (.return_, 1) := by decide +kernel
theorem dX6_needNumber_0 : decode cX6_needNumber 0 = .ok (.aload_n 0, 1) := by decide +kernel
theorem dX6_needNumber_1 : decode cX6_needNumber 1 = .ok (.getfield 23, 3) := by decide +kernel
theorem dX6_needNumber_4 : decode cX6_needNumber 4 = .ok (.iconst 2, 1) := by decide +kernel
theorem dX6_needNumber_5 : decode cX6_needNumber 5 = .ok (.if_icmp .eq 14, 3) := by decide +kernel
theorem dX6_needNumber_8 : decode cX6_needNumber 8 = .ok (.aload_n 0, 1) := by decide +kernel
theorem dX6_needNumber_9 : decode cX6_needNumber 9 = .ok (.iconst 1, 1) := by decide +kernel
theorem dX6_needNumber_10 : decode cX6_needNumber 10 = .ok (.aload_n 0, 1) := by decide +kernel
theorem dX6_needNumber_11 : decode cX6_needNumber 11 = .ok (.getfield 26, 3) := by decide +kernel
theorem dX6_needNumber_14 : decode cX6_needNumber 14 = .ok (.invokevirtual 72, 3) := by decide +kernel
theorem dX6_needNumber_17 : decode cX6_needNumber 17 = .ok (.iconst 0, 1) := by decide +kernel
theorem dX6_needNumber_18 : decode cX6_needNumber 18 = .ok (.ireturn, 1) := by decide +kernel
theorem dX6_needNumber_19 : decode cX6_needNumber 19 = .ok (.iconst 0, 1) := by decide +kernel
theorem dX6_needNumber_20 : decode cX6_needNumber 20 = .ok (.istore_n 3, 1) := by decide +kernel
theorem dX6_needNumber_21 : decode cX6_needNumber 21 = .ok (.aload_n 0, 1) := by decide +kernel
theorem dX6_needNumber_22 : decode cX6_needNumber 22 = .ok (.getfield 26, 3) := by decide +kernel
theorem dX6_needNumber_25 : decode cX6_needNumber 25 = .ok (.istore 4, 2) := by decide +kernel
theorem dX6_needNumber_27 : decode cX6_needNumber 27 = .ok (.iload 4, 2) := by decide +kernel
theorem dX6_needNumber_29 : decode cX6_needNumber 29 = .ok (.aload_n 0, 1) := by decide +kernel
theorem dX6_needNumber_30 : decode cX6_needNumber 30 = .ok (.getfield 29, 3) := by decide +kernel
theorem dX6_needNumber_33 : decode cX6_needNumber 33 = .ok (.if_icmp .ge 45, 3) := by decide +kernel
theorem dX6_needNumber_36 : decode cX6_needNumber 36 = .ok (.iload 4, 2) := by decide +kernel
theorem dX6_needNumber_38 : decode cX6_needNumber 38 = .ok (.aload_n 0, 1) := by decide +kernel
theorem dX6_needNumber_39 : decode cX6_needNumber 39 = .ok (.getfield 19, 3) := by decide +kernel
theorem dX6_needNumber_42 : decode cX6_needNumber 42 = .ok (.if_icmp .ge 36, 3) := by decide +kernel
theorem dX6_needNumber_45 : decode cX6_needNumber 45 = .ok (.iload 4, 2) := by decide +kernel
theorem dX6_needNumber_47 : decode cX6_needNumber 47 = .ok (.aload_n 0, 1) := by decide +kernel
theorem dX6_needNumber_48 : decode cX6_needNumber 48 = .ok (.getfield 26, 3) := by decide +kernel
theorem dX6_needNumber_51 : decode cX6_needNumber 51 = .ok (.iconst 4, 1) := by decide +kernel
theorem dX6_needNumber_52 : decode cX6_needNumber 52 = .ok (.iadd, 1) := by decide +kernel
theorem dX6_needNumber_53 : decode cX6_needNumber 53 = .ok (.if_icmp .ge 25, 3) := by decide +kernel
theorem dX6_needNumber_56 : decode cX6_needNumber 56 = .ok (.bipush 10, 2) := by decide +kernel
theorem dX6_needNumber_58 : decode cX6_needNumber 58 = .ok (.iload_n 3, 1) := by decide +kernel
theorem dX6_needNumber_59 : decode cX6_needNumber 59 = .ok (.imul, 1) := by decide +kernel
theorem dX6_needNumber_60 : decode cX6_needNumber 60 = .ok (.aload_n 0, 1) := by decide +kernel
theorem dX6_needNumber_61 : decode cX6_needNumber 61 = .ok (.getfield 15, 3) := by decide +kernel
theorem dX6_needNumber_64 : decode cX6_needNumber 64 = .ok (.iload 4, 2) := by decide +kernel
theorem dX6_needNumber_66 : decode cX6_needNumber 66 = .ok (.baload, 1) := by decide +kernel
theorem dX6_needNumber_67 : decode cX6_needNumber 67 = .ok (.iadd, 1) := by decide +kernel
theorem dX6_needNumber_68 : decode cX6_needNumber 68 = .ok (.bipush 48, 2) := by decide +kernel
theorem dX6_needNumber_70 : decode cX6_needNumber 70 = .ok (.isub, 1) := by decide +kernel
theorem dX6_needNumber_71 : decode cX6_needNumber 71 = .ok (.istore_n 3, 1) := by decide +kernel
theorem dX6_needNumber_72 : decode cX6_needNumber 72 = .ok (.iinc 4 1, 3) := by decide +kernel
theorem dX6_needNumber_75 : decode cX6_needNumber 75 = .ok (.goto (-48), 3) := by decide +kernel
theorem dX6_needNumber_78 : decode cX6_needNumber 78 = .ok (.aload_n 0, 1) := by decide +kernel
theorem dX6_needNumber_79 : decode cX6_needNumber 79 = .ok (.getfield 29, 3) := by decide +kernel
theorem dX6_needNumber_82 : decode cX6_needNumber 82 = .ok (.aload_n 0, 1) := by decide +kernel
theorem dX6_needNumber_83 : decode cX6_needNumber 83 = .ok (.getfield 26, 3) := by decide +kernel
theorem dX6_needNumber_86 : decode cX6_needNumber 86 = .ok (.isub, 1) := by decide +kernel
theorem dX6_needNumber_87 : decode cX6_needNumber 87 = .ok (.iconst 4, 1) := by decide +kernel
theorem dX6_needNumber_88 : decode cX6_needNumber 88 = .ok (.if_icmp .le 17, 3) := by decide +kernel
theorem dX6_needNumber_91 : decode cX6_needNumber 91 = .ok (.aload_n 0, 1) := by decide +kernel
theorem dX6_needNumber_92 : decode cX6_needNumber 92 = .ok (.iconst 1, 1) := by decide +kernel
theorem dX6_needNumber_93 : decode cX6_needNumber 93 = .ok (.aload_n 0, 1) := by decide +kernel
theorem dX6_needNumber_94 : decode cX6_needNumber 94 = .ok (.getfield 26, 3) := by decide +kernel
theorem dX6_needNumber_97 : decode cX6_needNumber 97 = .ok (.iconst 4, 1) := by decide +kernel
theorem dX6_needNumber_98 : decode cX6_needNumber 98 = .ok (.iadd, 1) := by decide +kernel
theorem dX6_needNumber_99 : decode cX6_needNumber 99 = .ok (.invokevirtual 72, 3) := by decide +kernel
theorem dX6_needNumber_102 : decode cX6_needNumber 102 = .ok (.goto 29, 3) := by decide +kernel
theorem dX6_needNumber_105 : decode cX6_needNumber 105 = .ok (.iload_n 3, 1) := by decide +kernel
theorem dX6_needNumber_106 : decode cX6_needNumber 106 = .ok (.iload_n 1, 1) := by decide +kernel
theorem dX6_needNumber_107 : decode cX6_needNumber 107 = .ok (.if_icmp .lt 8, 3) := by decide +kernel
theorem dX6_needNumber_110 : decode cX6_needNumber 110 = .ok (.iload_n 3, 1) := by decide +kernel
theorem dX6_needNumber_111 : decode cX6_needNumber 111 = .ok (.iload_n 2, 1) := by decide +kernel
theorem dX6_needNumber_112 : decode cX6_needNumber 112 = .ok (.if_icmp .le 15, 3) := by decide +kernel
theorem dX6_needNumber_115 : decode cX6_needNumber 115 = .ok (.aload_n 0, 1) := by decide +kernel
theorem dX6_needNumber_116 : decode cX6_needNumber 116 = .ok (.iconst 2, 1) := by decide +kernel
theorem dX6_needNumber_117 : decode cX6_needNumber 117 = .ok (.aload_n 0, 1) := by decide +kernel
theorem dX6_needNumber_118 : decode cX6_needNumber 118 = .ok (.getfield 26, 3) := by decide +kernel
theorem dX6_needNumber_121 : decode cX6_needNumber 121 = .ok (.invokevirtual 72, 3) := by decide +kernel
theorem dX6_needNumber_124 : decode cX6_needNumber 124 = .ok (.goto 7, 3) := by decide +kernel
theorem dX6_needNumber_127 : decode cX6_needNumber 127 = .ok (.aload_n 0, 1) := by decide +kernel
theorem dX6_needNumber_128 : decode cX6_needNumber 128 = .ok (.invokevirtual 65, 3) := by decide +kernel
theorem dX6_needNumber_131 : decode cX6_needNumber 131 = .ok (.iload_n 3, 1) := by decide +kernel
theorem dX6_needNumber_132 : decode cX6_needNumber 132 = .ok (.ireturn, 1) := by decide +kernel
theorem dX6_standsName_0 : decode cX6_standsName 0 = .ok (.aload_n 0, 1) := by decide +kernel
theorem dX6_standsName_1 : decode cX6_standsName 1 = .ok (.invokevirtual 80, 3) := by decide +kernel
theorem dX6_standsName_4 : decode cX6_standsName 4 = .ok (.istore_n 1, 1) := by decide +kernel
theorem dX6_standsName_5 : decode cX6_standsName 5 = .ok (.aload_n 0, 1) := by decide +kernel
theorem dX6_standsName_6 : decode cX6_standsName 6 = .ok (.getfield 23, 3) := by decide +kernel
theorem dX6_standsName_9 : decode cX6_standsName 9 = .ok (.iconst 1, 1) := by decide +kernel
theorem dX6_standsName_10 : decode cX6_standsName 10 = .ok (.if_icmp .ne 13, 3) := by decide +kernel
theorem dX6_standsName_13 : decode cX6_standsName 13 = .ok (.iload_n 1, 1) := by decide +kernel
theorem dX6_standsName_14 : decode cX6_standsName 14 = .ok (.ifCond .lt 21, 3) := by decide +kernel
theorem dX6_standsName_17 : decode cX6_standsName 17 = .ok (.iload_n 1, 1) := by decide +kernel
theorem dX6_standsName_18 : decode cX6_standsName 18 = .ok (.bipush 28, 2) := by decide +kernel
theorem dX6_standsName_20 : decode cX6_standsName 20 = .ok (.if_icmp .ge 15, 3) := by decide +kernel
theorem dX6_standsName_23 : decode cX6_standsName 23 = .ok (.aload_n 0, 1) := by decide +kernel
theorem dX6_standsName_24 : decode cX6_standsName 24 = .ok (.iconst 1, 1) := by decide +kernel
theorem dX6_standsName_25 : decode cX6_standsName 25 = .ok (.aload_n 0, 1) := by decide +kernel
theorem dX6_standsName_26 : decode cX6_standsName 26 = .ok (.getfield 26, 3) := by decide +kernel
theorem dX6_standsName_29 : decode cX6_standsName 29 = .ok (.invokevirtual 72, 3) := by decide +kernel
theorem dX6_standsName_32 : decode cX6_standsName 32 = .ok (.goto 29, 3) := by decide +kernel
theorem dX6_standsName_35 : decode cX6_standsName 35 = .ok (.aload_n 0, 1) := by decide +kernel
theorem dX6_standsName_36 : decode cX6_standsName 36 = .ok (.getfield 29, 3) := by decide +kernel
theorem dX6_standsName_39 : decode cX6_standsName 39 = .ok (.aload_n 0, 1) := by decide +kernel
theorem dX6_standsName_40 : decode cX6_standsName 40 = .ok (.getfield 26, 3) := by decide +kernel
theorem dX6_standsName_43 : decode cX6_standsName 43 = .ok (.isub, 1) := by decide +kernel
theorem dX6_standsName_44 : decode cX6_standsName 44 = .ok (.bipush 6, 2) := by decide +kernel
theorem dX6_standsName_46 : decode cX6_standsName 46 = .ok (.if_icmp .le 15, 3) := by decide +kernel
theorem dX6_standsName_49 : decode cX6_standsName 49 = .ok (.aload_n 0, 1) := by decide +kernel
theorem dX6_standsName_50 : decode cX6_standsName 50 = .ok (.iconst 1, 1) := by decide +kernel
theorem dX6_standsName_51 : decode cX6_standsName 51 = .ok (.aload_n 0, 1) := by decide +kernel
theorem dX6_standsName_52 : decode cX6_standsName 52 = .ok (.getfield 26, 3) := by decide +kernel
theorem dX6_standsName_55 : decode cX6_standsName 55 = .ok (.bipush 6, 2) := by decide +kernel
theorem dX6_standsName_57 : decode cX6_standsName 57 = .ok (.iadd, 1) := by decide +kernel
theorem dX6_standsName_58 : decode cX6_standsName 58 = .ok (.invokevirtual 72, 3) := by decide +kernel
theorem dX6_standsName_61 : decode cX6_standsName 61 = .ok (.aload_n 0, 1) := by decide +kernel
theorem dX6_standsName_62 : decode cX6_standsName 62 = .ok (.getfield 23, 3) := by decide +kernel
theorem dX6_standsName_65 : decode cX6_standsName 65 = .ok (.iconst 1, 1) := by decide +kernel
theorem dX6_standsName_66 : decode cX6_standsName 66 = .ok (.if_icmp .ne 7, 3) := by decide +kernel
theorem dX6_standsName_69 : decode cX6_standsName 69 = .ok (.iconst 1, 1) := by decide +kernel
theorem dX6_standsName_70 : decode cX6_standsName 70 = .ok (.goto 4, 3) := by decide +kernel
theorem dX6_standsName_73 : decode cX6_standsName 73 = .ok (.iconst 0, 1) := by decide +kernel
theorem dX6_standsName_74 : decode cX6_standsName 74 = .ok (.ireturn, 1) := by decide +kernel
theorem dX7_init_0 : decode cX7_init 0 = .ok (.aload_n 0, 1) := by decide +kernel
theorem dX7_init_1 : decode cX7_init 1 = .ok (.invokespecial 3, 3) := by decide +kernel
theorem dX7_init_4 : decode cX7_init 4 = .ok (.aload_n 0, 1) := by decide +kernel
theorem dX7_init_5 : decode cX7_init 5 = .ok (.sipush 1600, 3) := by decide +kernel
theorem dX7_init_8 : decode cX7_init 8 = .ok (.newarray .byte, 2) := by decide +kernel
theorem dX7_init_10 : decode cX7_init 10 = .ok (.putfield 9, 3) := by decide +kernel
theorem dX7_init_13 : decode cX7_init 13 = .ok (.aload_n 0, 1) := by decide +kernel
theorem dX7_init_14 : decode cX7_init 14 = .ok (.iconst 0, 1) := by decide +kernel
theorem dX7_init_15 : decode cX7_init 15 = .ok (.putfield 13, 3) := by decide +kernel
theorem dX7_init_18 : decode cX7_init 18 = .ok (.aload_n 0, 1) := by decide +kernel
theorem dX7_init_19 : decode cX7_init 19 = .ok (.new 17, 3) := by decide +kernel
theorem dX7_init_22 : decode cX7_init 22 = .ok (.dup, 1) := by decide +kernel
theorem dX7_init_23 : decode cX7_init 23 = .ok (.invokespecial 19, 3) := by decide +kernel
theorem dX7_init_26 : decode cX7_init 26 = .ok (.putfield 20, 3) := by decide +kernel
theorem dX7_init_29 : decode cX7_init 29 = .ok (.aload_n 0, 1) := by decide +kernel
theorem dX7_init_30 : decode cX7_init 30 = .ok (.new 24, 3) := by decide +kernel
theorem dX7_init_33 : decode cX7_init 33 = .ok (.dup, 1) := by decide +kernel
theorem dX7_init_34 : decode cX7_init 34 = .ok (.invokespecial 26, 3) := by decide +kernel
theorem dX7_init_37 : decode cX7_init 37 = .ok (.putfield 27, 3) := by decide +kernel
theorem dX7_init_40 : decode cX7_init 40 = .ok (.aload_n 0, 1) := by decide +kernel
theorem dX7_init_41 : decode cX7_init 41 = .ok (.new 24, 3) := by decide +kernel
theorem dX7_init_44 : decode cX7_init 44 = .ok (.dup, 1) := by decide +kernel
theorem dX7_init_45 : decode cX7_init 45 = .ok (.invokespecial 26, 3) := by decide +kernel
theorem dX7_init_48 : decode cX7_init 48 = .ok (.putfield 31, 3) := by decide +kernel
theorem dX7_init_51 : decode cX7_init 51 = .ok (.aload_n 0, 1) := by decide +kernel
theorem dX7_init_52 : decode cX7_init 52 = .ok (.iconst 0, 1) := by decide +kernel
theorem dX7_init_53 : decode cX7_init 53 = .ok (.putfield 34, 3) := by decide +kernel
theorem dX7_init_56 : decode cX7_init 56 = .ok (.aload_n 0, 1) := by decide +kernel
theorem dX7_init_57 : decode cX7_init 57 = .ok (.iconst 0, 1) := by decide +kernel
theorem dX7_init_58 : decode cX7_init 58 = .ok (.putfield 38, 3) := by decide +kernel
theorem dX7_init_61 : decode cX7_init 61 = .ok (.aload_n 0, 1) := by decide +kernel
theorem dX7_init_62 : decode cX7_init 62 = .ok (.iconst (-1), 1) := by decide +kernel
theorem dX7_init_63 : decode cX7_init 63 = .ok (.putfield 41, 3) := by decide +kernel
theorem dX7_init_66 : decode cX7_init 66 = .ok (.aload_n 0, 1) := by decide +kernel
theorem dX7_init_67 : decode cX7_init 67 = .ok (.new 44, 3) := by decide +kernel
theorem dX7_init_70 : decode cX7_init 70 = .ok (.dup, 1) := by decide +kernel
theorem dX7_init_71 : decode cX7_init 71 = .ok (.invokespecial 46, 3) := by decide +kernel
theorem dX7_init_74 : decode cX7_init 74 = .ok (.putfield 47, 3) := by decide +kernel
theorem dX7_init_77 : decode cX7_init 77 = .ok (.aload_n 0, 1) := by decide +kernel
theorem dX7_init_78 : decode cX7_init 78 = .ok (.new 51, 3) := by decide +kernel
theorem dX7_init_81 : decode cX7_init 81 = .ok (.dup, 1) := by decide +kernel
theorem dX7_init_82 : decode cX7_init 82 = .ok (.invokespecial 53, 3) := by decide +kernel
theorem dX7_init_85 : decode cX7_init 85 = .ok (.putfield 54, 3) := by decide +kernel
theorem dX7_init_88 : decode cX7_init 88 = .ok (.aload_n 0, 1) := by decide +kernel
theorem dX7_init_89 : decode cX7_init 89 = .ok (.new 51, 3) := by decide +kernel
theorem dX7_init_92 : decode cX7_init 92 = .ok (.dup, 1) := by decide +kernel
theorem dX7_init_93 : decode cX7_init 93 = .ok (.invokespecial 53, 3) := by decide +kernel
theorem dX7_init_96 : decode cX7_init 96 = .ok (.putfield 58, 3) := by decide +kernel
theorem dX7_init_99 : decode cX7_init 99 = .ok (.aload_n 0, 1) := by decide +kernel
theorem dX7_init_100 : decode cX7_init 100 = .ok (.new 61, 3) := by decide +kernel
theorem dX7_init_103 : decode cX7_init 103 = .ok (.dup, 1) := by decide +kernel
theorem dX7_init_104 : decode cX7_init 104 = .ok (.invokespecial 63, 3) := by decide +kernel
theorem dX7_init_107 : decode cX7_init 107 = .ok (.putfield 64, 3) := by decide +kernel
theorem dX7_init_110 : decode cX7_init 110 = .ok (.aload_n 0, 1) := by decide +kernel
theorem dX7_init_111 : decode cX7_init 111 = .ok (.bipush 16, 2) := by decide +kernel
theorem dX7_init_113 : decode cX7_init 113 = .ok (.iconst 3, 1) := by decide +kernel
theorem dX7_init_114 : decode cX7_init 114 = .ok (.multianewarray 68 2, 4) := by decide +kernel
theorem dX7_init_118 : decode cX7_init 118 = .ok (.putfield 70, 3) := by decide +kernel
theorem dX7_init_121 : decode cX7_init 121 = .ok (.aload_n 0, 1) := by decide +kernel
theorem dX7_init_122 : decode cX7_init 122 = .ok (.iconst 0, 1) := by decide +kernel
theorem dX7_init_123 : decode cX7_init 123 = .ok (.putfield 73, 3) := by decide +kernel
theorem dX7_init_126 : decode cX7_init 126 = .ok (.aload_n 0, 1) := by decide +kernel
theorem dX7_init_127 : decode cX7_init 127 = .ok (.bipush 100, 2) := by decide +kernel
theorem dX7_init_129 : decode cX7_init 129 = .ok (.newarray .int, 2) := by decide +kernel
theorem dX7_init_131 : decode cX7_init 131 = .ok (.putfield 76, 3) := by decide +kernel
theorem dX7_init_134 : decode cX7_init 134 = .ok (.aload_n 0, 1) := by decide +kernel
theorem dX7_init_135 : decode cX7_init 135 = .ok (.bipush 69, 2) := by decide +kernel
theorem dX7_init_137 : decode cX7_init 137 = .ok (.newarray .int, 2) := by decide +kernel
theorem dX7_init_139 : decode cX7_init 139 = .ok (.putfield 80, 3) := by decide +kernel
theorem dX7_init_142 : decode cX7_init 142 = .ok (.aload_n 0, 1) := by decide +kernel
theorem dX7_init_143 : decode cX7_init 143 = .ok (.iconst 0, 1) := by decide +kernel
theorem dX7_init_144 : decode cX7_init 144 = .ok (.putfield 83, 3) := by decide +kernel
theorem dX7_init_147 : decode cX7_init 147 = .ok (.aload_n 0, 1) := by decide +kernel
theorem dX7_init_148 : decode cX7_init 148 = .ok (.bipush 6, 2) := by decide +kernel
theorem dX7_init_150 : decode cX7_init 150 = .ok (.newarray .int, 2) := by decide +kernel
theorem dX7_init_152 : decode cX7_init 152 = .ok (.putfield 86, 3) := by decide +kernel
theorem dX7_init_155 : decode cX7_init 155 = .ok (.aload_n 0, 1) := by decide +kernel
theorem dX7_init_156 : decode cX7_init 156 = .ok (.iconst 1, 1) := by decide +kernel
theorem dX7_init_157 : decode cX7_init 157 = .ok (.putfield 89, 3) := by decide +kernel
theorem dX7_init_160 : decode cX7_init 160 = .ok (.return_, 1) := by decide +kernel
theorem dX7_feed_0 : decode cX7_feed 0 = .ok (.aload_n 0, 1) := by decide +kernel
theorem dX7_feed_1 : decode cX7_feed 1 = .ok (.getfield 13, 3) := by decide +kernel
theorem dX7_feed_4 : decode cX7_feed 4 = .ok (.bipush 20, 2) := by decide +kernel
theorem dX7_feed_6 : decode cX7_feed 6 = .ok (.iadd, 1) := by decide +kernel
theorem dX7_feed_7 : decode cX7_feed 7 = .ok (.sipush 1600, 3) := by decide +kernel
theorem dX7_feed_10 : decode cX7_feed 10 = .ok (.if_icmp .le 10, 3) := by decide +kernel
theorem dX7_feed_13 : decode cX7_feed 13 = .ok (.aload_n 0, 1) := by decide +kernel
theorem dX7_feed_14 : decode cX7_feed 14 = .ok (.iconst 0, 1) := by decide +kernel
theorem dX7_feed_15 : decode cX7_feed 15 = .ok (.invokevirtual 92, 3) := by decide +kernel
theorem dX7_feed_18 : decode cX7_feed 18 = .ok (.iconst (-1), 1) := by decide +kernel
theorem dX7_feed_19 : decode cX7_feed 19 = .ok (.ireturn, 1) := by decide +kernel
theorem dX7_feed_20 : decode cX7_feed 20 = .ok (.aload_n 0, 1) := by decide +kernel
theorem dX7_feed_21 : decode cX7_feed 21 = .ok (.iload_n 1, 1) := by decide +kernel
theorem dX7_feed_22 : decode cX7_feed 22 = .ok (.invokevirtual 96, 3) := by decide +kernel
theorem dX7_feed_25 : decode cX7_feed 25 = .ok (.aload_n 0, 1) := by decide +kernel
theorem dX7_feed_26 : decode cX7_feed 26 = .ok (.iload_n 2, 1) := by decide +kernel
theorem dX7_feed_27 : decode cX7_feed 27 = .ok (.invokevirtual 96, 3) := by decide +kernel
theorem dX7_feed_30 : decode cX7_feed 30 = .ok (.aload_n 0, 1) := by decide +kernel
theorem dX7_feed_31 : decode cX7_feed 31 = .ok (.iload_n 3, 1) := by decide +kernel
theorem dX7_feed_32 : decode cX7_feed 32 = .ok (.invokevirtual 96, 3) := by decide +kernel
theorem dX7_feed_35 : decode cX7_feed 35 = .ok (.aload_n 0, 1) := by decide +kernel
theorem dX7_feed_36 : decode cX7_feed 36 = .ok (.iload 4, 2) := by decide +kernel
theorem dX7_feed_38 : decode cX7_feed 38 = .ok (.invokevirtual 96, 3) := by decide +kernel
theorem dX7_feed_41 : decode cX7_feed 41 = .ok (.aload_n 0, 1) := by decide +kernel
theorem dX7_feed_42 : decode cX7_feed 42 = .ok (.iload 5, 2) := by decide +kernel
theorem dX7_feed_44 : decode cX7_feed 44 = .ok (.invokevirtual 96, 3) := by decide +kernel
theorem dX7_feed_47 : decode cX7_feed 47 = .ok (.aload_n 0, 1) := by decide +kernel
theorem dX7_feed_48 : decode cX7_feed 48 = .ok (.getfield 13, 3) := by decide +kernel
theorem dX7_feed_51 : decode cX7_feed 51 = .ok (.ireturn, 1) := by decide +kernel
theorem dX7_end_0 : decode cX7_end 0 = .ok (.iload_n 1, 1) := by decide +kernel
theorem dX7_end_1 : decode cX7_end 1 = .ok (.ifCond .lt 11, 3) := by decide +kernel
theorem dX7_end_4 : decode cX7_end 4 = .ok (.iload_n 1, 1) := by decide +kernel
theorem dX7_end_5 : decode cX7_end 5 = .ok (.aload_n 0, 1) := by decide +kernel
theorem dX7_end_6 : decode cX7_end 6 = .ok (.getfield 13, 3) := by decide +kernel
theorem dX7_end_9 : decode cX7_end 9 = .ok (.if_icmp .le 10, 3) := by decide +kernel
theorem dX7_end_12 : decode cX7_end 12 = .ok (.aload_n 0, 1) := by decide +kernel
theorem dX7_end_13 : decode cX7_end 13 = .ok (.iconst 0, 1) := by decide +kernel
theorem dX7_end_14 : decode cX7_end 14 = .ok (.invokevirtual 92, 3) := by decide +kernel
theorem dX7_end_17 : decode cX7_end 17 = .ok (.iconst 0, 1) := by decide +kernel
theorem dX7_end_18 : decode cX7_end 18 = .ok (.ireturn, 1) := by decide +kernel
theorem dX7_end_19 : decode cX7_end 19 = .ok (.aload_n 0, 1) := by decide +kernel
theorem dX7_end_20 : decode cX7_end 20 = .ok (.iload_n 1, 1) := by decide +kernel
theorem dX7_end_21 : decode cX7_end 21 = .ok (.putfield 13, 3) := by decide +kernel
theorem dX7_end_24 : decode cX7_end 24 = .ok (.iconst 1, 1) := by decide +kernel
theorem dX7_end_25 : decode cX7_end 25 = .ok (.ireturn, 1) := by decide +kernel
theorem dX7_putOnTape_0 : decode cX7_putOnTape 0 = .ok (.bipush 24, 2) := by decide +kernel
theorem dX7_putOnTape_2 : decode cX7_putOnTape 2 = .ok (.istore_n 2, 1) := by decide +kernel
theorem dX7_putOnTape_3 : decode cX7_putOnTape 3 = .ok (.iload_n 2, 1) := by decide +kernel
theorem dX7_putOnTape_4 : decode cX7_putOnTape 4 = .ok (.ifCond .lt 44, 3) := by decide +kernel
theorem dX7_putOnTape_7 : decode cX7_putOnTape 7 = .ok (.aload_n 0, 1) := by decide +kernel
theorem dX7_putOnTape_8 : decode cX7_putOnTape 8 = .ok (.getfield 13, 3) := by decide +kernel
theorem dX7_putOnTape_11 : decode cX7_putOnTape 11 = .ok (.aload_n 0, 1) := by decide +kernel
theorem dX7_putOnTape_12 : decode cX7_putOnTape 12 = .ok (.getfield 9, 3) := by decide +kernel
theorem dX7_putOnTape_15 : decode cX7_putOnTape 15 = .ok (.arraylength, 1) := by decide +kernel
theorem dX7_putOnTape_16 : decode cX7_putOnTape 16 = .ok (.if_icmp .ge 26, 3) := by decide +kernel
theorem dX7_putOnTape_19 : decode cX7_putOnTape 19 = .ok (.aload_n 0, 1) := by decide +kernel
theorem dX7_putOnTape_20 : decode cX7_putOnTape 20 = .ok (.getfield 9, 3) := by decide +kernel
theorem dX7_putOnTape_23 : decode cX7_putOnTape 23 = .ok (.aload_n 0, 1) := by decide +kernel
theorem dX7_putOnTape_24 : decode cX7_putOnTape 24 = .ok (.getfield 13, 3) := by decide +kernel
theorem dX7_putOnTape_27 : decode cX7_putOnTape 27 = .ok (.iload_n 1, 1) := by decide +kernel
theorem dX7_putOnTape_28 : decode cX7_putOnTape 28 = .ok (.iload_n 2, 1) := by decide +kernel
theorem dX7_putOnTape_29 : decode cX7_putOnTape 29 = .ok (.ishr, 1) := by decide +kernel
theorem dX7_putOnTape_30 : decode cX7_putOnTape 30 = .ok (.i2b, 1) := by decide +kernel
theorem dX7_putOnTape_31 : decode cX7_putOnTape 31 = .ok (.bastore, 1) := by decide +kernel
theorem dX7_putOnTape_32 : decode cX7_putOnTape 32 = .ok (.aload_n 0, 1) := by decide +kernel
theorem dX7_putOnTape_33 : decode cX7_putOnTape 33 = .ok (.dup, 1) := by decide +kernel
theorem dX7_putOnTape_34 : decode cX7_putOnTape 34 = .ok (.getfield 13, 3) := by decide +kernel
theorem dX7_putOnTape_37 : decode cX7_putOnTape 37 = .ok (.iconst 1, 1) := by decide +kernel
theorem dX7_putOnTape_38 : decode cX7_putOnTape 38 = .ok (.iadd, 1) := by decide +kernel
theorem dX7_putOnTape_39 : decode cX7_putOnTape 39 = .ok (.putfield 13, 3) := by decide +kernel
theorem dX7_putOnTape_42 : decode cX7_putOnTape 42 = .ok (.iinc 2 (-8), 3) := by decide +kernel
theorem dX7_putOnTape_45 : decode cX7_putOnTape 45 = .ok (.goto (-42), 3) := by decide +kernel
theorem dX7_putOnTape_48 : decode cX7_putOnTape 48 = .ok (.return_, 1) := by decide +kernel
theorem dX7_takeTape_0 : decode cX7_takeTape 0 = .ok (.aload_n 0, 1) := by decide +kernel
theorem dX7_takeTape_1 : decode cX7_takeTape 1 = .ok (.getfield 13, 3) := by decide +kernel
theorem dX7_takeTape_4 : decode cX7_takeTape 4 = .ok (.istore_n 1, 1) := by decide +kernel
theorem dX7_takeTape_5 : decode cX7_takeTape 5 = .ok (.aload_n 0, 1) := by decide +kernel
theorem dX7_takeTape_6 : decode cX7_takeTape 6 = .ok (.iconst 0, 1) := by decide +kernel
theorem dX7_takeTape_7 : decode cX7_takeTape 7 = .ok (.putfield 13, 3) := by decide +kernel
theorem dX7_takeTape_10 : decode cX7_takeTape 10 = .ok (.iload_n 1, 1) := by decide +kernel
theorem dX7_takeTape_11 : decode cX7_takeTape 11 = .ok (.ireturn, 1) := by decide +kernel
theorem dX7_tapeByte_0 : decode cX7_tapeByte 0 = .ok (.iload_n 1, 1) := by decide +kernel
theorem dX7_tapeByte_1 : decode cX7_tapeByte 1 = .ok (.ifCond .lt 25, 3) := by decide +kernel
theorem dX7_tapeByte_4 : decode cX7_tapeByte 4 = .ok (.iload_n 1, 1) := by decide +kernel
theorem dX7_tapeByte_5 : decode cX7_tapeByte 5 = .ok (.aload_n 0, 1) := by decide +kernel
theorem dX7_tapeByte_6 : decode cX7_tapeByte 6 = .ok (.getfield 9, 3) := by decide +kernel
theorem dX7_tapeByte_9 : decode cX7_tapeByte 9 = .ok (.arraylength, 1) := by decide +kernel
theorem dX7_tapeByte_10 : decode cX7_tapeByte 10 = .ok (.if_icmp .ge 16, 3) := by decide +kernel
theorem dX7_tapeByte_13 : decode cX7_tapeByte 13 = .ok (.aload_n 0, 1) := by decide +kernel
theorem dX7_tapeByte_14 : decode cX7_tapeByte 14 = .ok (.getfield 9, 3) := by decide +kernel
theorem dX7_tapeByte_17 : decode cX7_tapeByte 17 = .ok (.iload_n 1, 1) := by decide +kernel
theorem dX7_tapeByte_18 : decode cX7_tapeByte 18 = .ok (.baload, 1) := by decide +kernel
theorem dX7_tapeByte_19 : decode cX7_tapeByte 19 = .ok (.sipush 255, 3) := by decide +kernel
theorem dX7_tapeByte_22 : decode cX7_tapeByte 22 = .ok (.iand, 1) := by decide +kernel
theorem dX7_tapeByte_23 : decode cX7_tapeByte 23 = .ok (.goto 4, 3) := by decide +kernel
theorem dX7_tapeByte_26 : decode cX7_tapeByte 26 = .ok (.iconst 0, 1) := by decide +kernel
theorem dX7_tapeByte_27 : decode cX7_tapeByte 27 = .ok (.ireturn, 1) := by decide +kernel
theorem dX7_tapePair_0 : decode cX7_tapePair 0 = .ok (.aload_n 0, 1) := by decide +kernel
theorem dX7_tapePair_1 : decode cX7_tapePair 1 = .ok (.iload_n 1, 1) := by decide +kernel
theorem dX7_tapePair_2 : decode cX7_tapePair 2 = .ok (.invokevirtual 99, 3) := by decide +kernel
theorem dX7_tapePair_5 : decode cX7_tapePair 5 = .ok (.sipush 256, 3) := by decide +kernel
theorem dX7_tapePair_8 : decode cX7_tapePair 8 = .ok (.imul, 1) := by decide +kernel
theorem dX7_tapePair_9 : decode cX7_tapePair 9 = .ok (.aload_n 0, 1) := by decide +kernel
theorem dX7_tapePair_10 : decode cX7_tapePair 10 = .ok (.iload_n 1, 1) := by decide +kernel
theorem dX7_tapePair_11 : decode cX7_tapePair 11 = .ok (.iconst 1, 1) := by decide +kernel
theorem dX7_tapePair_12 : decode cX7_tapePair 12 = .ok (.iadd, 1) := by decide +kernel
theorem dX7_tapePair_13 : decode cX7_tapePair 13 = .ok (.invokevirtual 99, 3) := by decide +kernel
theorem dX7_tapePair_16 : decode cX7_tapePair 16 = .ok (.iadd, 1) := by decide +kernel
theorem dX7_tapePair_17 : decode cX7_tapePair 17 = .ok (.ireturn, 1) := by decide +kernel
theorem dX7_refuse_0 : decode cX7_refuse 0 = .ok (.iload_n 1, 1) := by decide +kernel
theorem dX7_refuse_1 : decode cX7_refuse 1 = .ok (.ifCond .lt 22, 3) := by decide +kernel
theorem dX7_refuse_4 : decode cX7_refuse 4 = .ok (.iload_n 1, 1) := by decide +kernel
theorem dX7_refuse_5 : decode cX7_refuse 5 = .ok (.aload_n 0, 1) := by decide +kernel
theorem dX7_refuse_6 : decode cX7_refuse 6 = .ok (.getfield 86, 3) := by decide +kernel
theorem dX7_refuse_9 : decode cX7_refuse 9 = .ok (.arraylength, 1) := by decide +kernel
theorem dX7_refuse_10 : decode cX7_refuse 10 = .ok (.if_icmp .ge 13, 3) := by decide +kernel
theorem dX7_refuse_13 : decode cX7_refuse 13 = .ok (.aload_n 0, 1) := by decide +kernel
theorem dX7_refuse_14 : decode cX7_refuse 14 = .ok (.getfield 86, 3) := by decide +kernel
theorem dX7_refuse_17 : decode cX7_refuse 17 = .ok (.iload_n 1, 1) := by decide +kernel
theorem dX7_refuse_18 : decode cX7_refuse 18 = .ok (.dup2, 1) := by decide +kernel
theorem dX7_refuse_19 : decode cX7_refuse 19 = .ok (.iaload, 1) := by decide +kernel
theorem dX7_refuse_20 : decode cX7_refuse 20 = .ok (.iconst 1, 1) := by decide +kernel
theorem dX7_refuse_21 : decode cX7_refuse 21 = .ok (.iadd, 1) := by decide +kernel
theorem dX7_refuse_22 : decode cX7_refuse 22 = .ok (.iastore, 1) := by decide +kernel
theorem dX7_refuse_23 : decode cX7_refuse 23 = .ok (.return_, 1) := by decide +kernel
theorem dX7_station_0 : decode cX7_station 0 = .ok (.aload_n 0, 1) := by decide +kernel
theorem dX7_station_1 : decode cX7_station 1 = .ok (.getfield 20, 3) := by decide +kernel
theorem dX7_station_4 : decode cX7_station 4 = .ok (.aload_n 0, 1) := by decide +kernel
theorem dX7_station_5 : decode cX7_station 5 = .ok (.getfield 9, 3) := by decide +kernel
theorem dX7_station_8 : decode cX7_station 8 = .ok (.aload_n 0, 1) := by decide +kernel
theorem dX7_station_9 : decode cX7_station 9 = .ok (.invokevirtual 103, 3) := by decide +kernel
theorem dX7_station_12 : decode cX7_station 12 = .ok (.aload_n 0, 1) := by decide +kernel
theorem dX7_station_13 : decode cX7_station 13 = .ok (.getfield 31, 3) := by decide +kernel
theorem dX7_station_16 : decode cX7_station 16 = .ok (.invokevirtual 107, 3) := by decide +kernel
theorem dX7_station_19 : decode cX7_station 19 = .ok (.aload_n 0, 1) := by decide +kernel
theorem dX7_station_20 : decode cX7_station 20 = .ok (.invokevirtual 111, 3) := by decide +kernel
theorem dX7_station_23 : decode cX7_station 23 = .ok (.aload_n 0, 1) := by decide +kernel
theorem dX7_station_24 : decode cX7_station 24 = .ok (.getfield 38, 3) := by decide +kernel
theorem dX7_station_27 : decode cX7_station 27 = .ok (.ifCond .eq 10, 3) := by decide +kernel
theorem dX7_station_30 : decode cX7_station 30 = .ok (.aload_n 0, 1) := by decide +kernel
theorem dX7_station_31 : decode cX7_station 31 = .ok (.iconst 1, 1) := by decide +kernel
theorem dX7_station_32 : decode cX7_station 32 = .ok (.invokevirtual 92, 3) := by decide +kernel
theorem dX7_station_35 : decode cX7_station 35 = .ok (.iconst (-1), 1) := by decide +kernel
theorem dX7_station_36 : decode cX7_station 36 = .ok (.ireturn, 1) := by decide +kernel
theorem dX7_station_37 : decode cX7_station 37 = .ok (.aload_n 0, 1) := by decide +kernel
theorem dX7_station_38 : decode cX7_station 38 = .ok (.getfield 27, 3) := by decide +kernel
theorem dX7_station_41 : decode cX7_station 41 = .ok (.astore_n 1, 1) := by decide +kernel
theorem dX7_station_42 : decode cX7_station 42 = .ok (.aload_n 0, 1) := by decide +kernel
theorem dX7_station_43 : decode cX7_station 43 = .ok (.aload_n 0, 1) := by decide +kernel
theorem dX7_station_44 : decode cX7_station 44 = .ok (.getfield 31, 3) := by decide +kernel
theorem dX7_station_47 : decode cX7_station 47 = .ok (.putfield 27, 3) := by decide +kernel
theorem dX7_station_50 : decode cX7_station 50 = .ok (.aload_n 0, 1) := by decide +kernel
theorem dX7_station_51 : decode cX7_station 51 = .ok (.aload_n 1, 1) := by decide +kernel
theorem dX7_station_52 : decode cX7_station 52 = .ok (.putfield 31, 3) := by decide +kernel
theorem dX7_station_55 : decode cX7_station 55 = .ok (.aload_n 0, 1) := by decide +kernel
theorem dX7_station_56 : decode cX7_station 56 = .ok (.iconst 1, 1) := by decide +kernel
theorem dX7_station_57 : decode cX7_station 57 = .ok (.putfield 34, 3) := by decide +kernel
theorem dX7_station_60 : decode cX7_station 60 = .ok (.aload_n 0, 1) := by decide +kernel
theorem dX7_station_61 : decode cX7_station 61 = .ok (.getfield 54, 3) := by decide +kernel
theorem dX7_station_64 : decode cX7_station 64 = .ok (.aload_n 0, 1) := by decide +kernel
theorem dX7_station_65 : decode cX7_station 65 = .ok (.getfield 27, 3) := by decide +kernel
theorem dX7_station_68 : decode cX7_station 68 = .ok (.invokevirtual 114, 3) := by decide +kernel
theorem dX7_station_71 : decode cX7_station 71 = .ok (.aload_n 0, 1) := by decide +kernel
theorem dX7_station_72 : decode cX7_station 72 = .ok (.getfield 64, 3) := by decide +kernel
theorem dX7_station_75 : decode cX7_station 75 = .ok (.invokevirtual 118, 3) := by decide +kernel
theorem dX7_station_78 : decode cX7_station 78 = .ok (.aload_n 0, 1) := by decide +kernel
theorem dX7_station_79 : decode cX7_station 79 = .ok (.iconst 0, 1) := by decide +kernel
theorem dX7_station_80 : decode cX7_station 80 = .ok (.putfield 73, 3) := by decide +kernel
theorem dX7_station_83 : decode cX7_station 83 = .ok (.aload_n 0, 1) := by decide +kernel
theorem dX7_station_84 : decode cX7_station 84 = .ok (.getfield 27, 3) := by decide +kernel
theorem dX7_station_87 : decode cX7_station 87 = .ok (.getfield 121, 3) := by decide +kernel
theorem dX7_station_90 : decode cX7_station 90 = .ok (.ireturn, 1) := by decide +kernel
theorem dX7_fault_0 : decode cX7_fault 0 = .ok (.iload_n 1, 1) := by decide +kernel
theorem dX7_fault_1 : decode cX7_fault 1 = .ok (.ifCond .ne 8, 3) := by decide +kernel
theorem dX7_fault_4 : decode cX7_fault 4 = .ok (.aload_n 0, 1) := by decide +kernel
theorem dX7_fault_5 : decode cX7_fault 5 = .ok (.getfield 38, 3) := by decide +kernel
theorem dX7_fault_8 : decode cX7_fault 8 = .ok (.ireturn, 1) := by decide +kernel
theorem dX7_fault_9 : decode cX7_fault 9 = .ok (.iload_n 1, 1) := by decide +kernel
theorem dX7_fault_10 : decode cX7_fault 10 = .ok (.iconst 1, 1) := by decide +kernel
theorem dX7_fault_11 : decode cX7_fault 11 = .ok (.if_icmp .ne 10, 3) := by decide +kernel
theorem dX7_fault_14 : decode cX7_fault 14 = .ok (.aload_n 0, 1) := by decide +kernel
theorem dX7_fault_15 : decode cX7_fault 15 = .ok (.getfield 41, 3) := by decide +kernel
theorem dX7_fault_18 : decode cX7_fault 18 = .ok (.goto 4, 3) := by decide +kernel
theorem dX7_fault_21 : decode cX7_fault 21 = .ok (.iconst (-1), 1) := by decide +kernel
theorem dX7_fault_22 : decode cX7_fault 22 = .ok (.ireturn, 1) := by decide +kernel
theorem dX7_keepFault_0 : decode cX7_keepFault 0 = .ok (.aload_n 0, 1) := by decide +kernel
theorem dX7_keepFault_1 : decode cX7_keepFault 1 = .ok (.aload_n 0, 1) := by decide +kernel
theorem dX7_keepFault_2 : decode cX7_keepFault 2 = .ok (.getfield 20, 3) := by decide +kernel
theorem dX7_keepFault_5 : decode cX7_keepFault 5 = .ok (.getfield 124, 3) := by decide +kernel
theorem dX7_keepFault_8 : decode cX7_keepFault 8 = .ok (.getfield 128, 3) := by decide +kernel
theorem dX7_keepFault_11 : decode cX7_keepFault 11 = .ok (.putfield 38, 3) := by decide +kernel
theorem dX7_keepFault_14 : decode cX7_keepFault 14 = .ok (.aload_n 0, 1) := by decide +kernel
theorem dX7_keepFault_15 : decode cX7_keepFault 15 = .ok (.aload_n 0, 1) := by decide +kernel
theorem dX7_keepFault_16 : decode cX7_keepFault 16 = .ok (.getfield 20, 3) := by decide +kernel
theorem dX7_keepFault_19 : decode cX7_keepFault 19 = .ok (.getfield 124, 3) := by decide +kernel
theorem dX7_keepFault_22 : decode cX7_keepFault 22 = .ok (.getfield 131, 3) := by decide +kernel
theorem dX7_keepFault_25 : decode cX7_keepFault 25 = .ok (.putfield 41, 3) := by decide +kernel
theorem dX7_keepFault_28 : decode cX7_keepFault 28 = .ok (.return_, 1) := by decide +kernel
theorem dX7_has_0 : decode cX7_has 0 = .ok (.iload_n 1, 1) := by decide +kernel
theorem dX7_has_1 : decode cX7_has 1 = .ok (.tableswitch 169 0 11 #[63, 71, 79, 87, 95, 103, 111, 124, 129, 148, 156, 161], 63) := by decide +kernel
theorem dX7_has_64 : decode cX7_has 64 = .ok (.aload_n 0, 1) := by decide +kernel
theorem dX7_has_65 : decode cX7_has 65 = .ok (.getfield 27, 3) := by decide +kernel
theorem dX7_has_68 : decode cX7_has 68 = .ok (.getfield 132, 3) := by decide +kernel
theorem dX7_has_71 : decode cX7_has 71 = .ok (.ireturn, 1) := by decide +kernel
theorem dX7_has_72 : decode cX7_has 72 = .ok (.aload_n 0, 1) := by decide +kernel
theorem dX7_has_73 : decode cX7_has 73 = .ok (.getfield 27, 3) := by decide +kernel
theorem dX7_has_76 : decode cX7_has 76 = .ok (.getfield 135, 3) := by decide +kernel
theorem dX7_has_79 : decode cX7_has 79 = .ok (.ireturn, 1) := by decide +kernel
theorem dX7_has_80 : decode cX7_has 80 = .ok (.aload_n 0, 1) := by decide +kernel
theorem dX7_has_81 : decode cX7_has 81 = .ok (.getfield 27, 3) := by decide +kernel
theorem dX7_has_84 : decode cX7_has 84 = .ok (.getfield 138, 3) := by decide +kernel
theorem dX7_has_87 : decode cX7_has 87 = .ok (.ireturn, 1) := by decide +kernel
theorem dX7_has_88 : decode cX7_has 88 = .ok (.aload_n 0, 1) := by decide +kernel
theorem dX7_has_89 : decode cX7_has 89 = .ok (.getfield 27, 3) := by decide +kernel
theorem dX7_has_92 : decode cX7_has 92 = .ok (.getfield 141, 3) := by decide +kernel
theorem dX7_has_95 : decode cX7_has 95 = .ok (.ireturn, 1) := by decide +kernel
theorem dX7_has_96 : decode cX7_has 96 = .ok (.aload_n 0, 1) := by decide +kernel
theorem dX7_has_97 : decode cX7_has 97 = .ok (.getfield 54, 3) := by decide +kernel
theorem dX7_has_100 : decode cX7_has 100 = .ok (.getfield 144, 3) := by decide +kernel
theorem dX7_has_103 : decode cX7_has 103 = .ok (.ireturn, 1) := by decide +kernel
theorem dX7_has_104 : decode cX7_has 104 = .ok (.aload_n 0, 1) := by decide +kernel
theorem dX7_has_105 : decode cX7_has 105 = .ok (.getfield 54, 3) := by decide +kernel
theorem dX7_has_108 : decode cX7_has 108 = .ok (.getfield 147, 3) := by decide +kernel
theorem dX7_has_111 : decode cX7_has 111 = .ok (.ireturn, 1) := by decide +kernel
theorem dX7_has_112 : decode cX7_has 112 = .ok (.aload_n 0, 1) := by decide +kernel
theorem dX7_has_113 : decode cX7_has 113 = .ok (.getfield 27, 3) := by decide +kernel
theorem dX7_has_116 : decode cX7_has 116 = .ok (.getfield 138, 3) := by decide +kernel
theorem dX7_has_119 : decode cX7_has 119 = .ok (.aload_n 0, 1) := by decide +kernel
theorem dX7_has_120 : decode cX7_has 120 = .ok (.invokevirtual 150, 3) := by decide +kernel
theorem dX7_has_123 : decode cX7_has 123 = .ok (.isub, 1) := by decide +kernel
theorem dX7_has_124 : decode cX7_has 124 = .ok (.ireturn, 1) := by decide +kernel
theorem dX7_has_125 : decode cX7_has 125 = .ok (.aload_n 0, 1) := by decide +kernel
theorem dX7_has_126 : decode cX7_has 126 = .ok (.invokevirtual 153, 3) := by decide +kernel
theorem dX7_has_129 : decode cX7_has 129 = .ok (.ireturn, 1) := by decide +kernel
theorem dX7_has_130 : decode cX7_has 130 = .ok (.aload_n 0, 1) := by decide +kernel
theorem dX7_has_131 : decode cX7_has 131 = .ok (.getfield 47, 3) := by decide +kernel
theorem dX7_has_134 : decode cX7_has 134 = .ok (.aload_n 0, 1) := by decide +kernel
theorem dX7_has_135 : decode cX7_has 135 = .ok (.getfield 27, 3) := by decide +kernel
theorem dX7_has_138 : decode cX7_has 138 = .ok (.aload_n 0, 1) := by decide +kernel
theorem dX7_has_139 : decode cX7_has 139 = .ok (.getfield 54, 3) := by decide +kernel
theorem dX7_has_142 : decode cX7_has 142 = .ok (.invokevirtual 156, 3) := by decide +kernel
theorem dX7_has_145 : decode cX7_has 145 = .ok (.invokestatic 160, 3) := by decide +kernel
theorem dX7_has_148 : decode cX7_has 148 = .ok (.ireturn, 1) := by decide +kernel
theorem dX7_has_149 : decode cX7_has 149 = .ok (.aload_n 0, 1) := by decide +kernel
theorem dX7_has_150 : decode cX7_has 150 = .ok (.getfield 54, 3) := by decide +kernel
theorem dX7_has_153 : decode cX7_has 153 = .ok (.getfield 165, 3) := by decide +kernel
theorem dX7_has_156 : decode cX7_has 156 = .ok (.ireturn, 1) := by decide +kernel
theorem dX7_has_157 : decode cX7_has 157 = .ok (.aload_n 0, 1) := by decide +kernel
theorem dX7_has_158 : decode cX7_has 158 = .ok (.getfield 73, 3) := by decide +kernel
theorem dX7_has_161 : decode cX7_has 161 = .ok (.ireturn, 1) := by decide +kernel
theorem dX7_has_162 : decode cX7_has 162 = .ok (.aload_n 0, 1) := by decide +kernel
theorem dX7_has_163 : decode cX7_has 163 = .ok (.getfield 64, 3) := by decide +kernel
theorem dX7_has_166 : decode cX7_has 166 = .ok (.getfield 168, 3) := by decide +kernel
theorem dX7_has_169 : decode cX7_has 169 = .ok (.ireturn, 1) := by decide +kernel
theorem dX7_has_170 : decode cX7_has 170 = .ok (.iconst (-1), 1) := by decide +kernel
theorem dX7_has_171 : decode cX7_has 171 = .ok (.ireturn, 1) := by decide +kernel
theorem dX7_isAsker_0 : decode cX7_isAsker 0 = .ok (.iload_n 1, 1) := by decide +kernel
theorem dX7_isAsker_1 : decode cX7_isAsker 1 = .ok (.ifCond .lt 18, 3) := by decide +kernel
theorem dX7_isAsker_4 : decode cX7_isAsker 4 = .ok (.iload_n 1, 1) := by decide +kernel
theorem dX7_isAsker_5 : decode cX7_isAsker 5 = .ok (.aload_n 0, 1) := by decide +kernel
theorem dX7_isAsker_6 : decode cX7_isAsker 6 = .ok (.getfield 27, 3) := by decide +kernel
theorem dX7_isAsker_9 : decode cX7_isAsker 9 = .ok (.getfield 138, 3) := by decide +kernel
theorem dX7_isAsker_12 : decode cX7_isAsker 12 = .ok (.if_icmp .ge 7, 3) := by decide +kernel
theorem dX7_isAsker_15 : decode cX7_isAsker 15 = .ok (.iconst 1, 1) := by decide +kernel
theorem dX7_isAsker_16 : decode cX7_isAsker 16 = .ok (.goto 4, 3) := by decide +kernel
theorem dX7_isAsker_19 : decode cX7_isAsker 19 = .ok (.iconst 0, 1) := by decide +kernel
theorem dX7_isAsker_20 : decode cX7_isAsker 20 = .ok (.ireturn, 1) := by decide +kernel
theorem dX7_isSong_0 : decode cX7_isSong 0 = .ok (.iload_n 1, 1) := by decide +kernel
theorem dX7_isSong_1 : decode cX7_isSong 1 = .ok (.ifCond .lt 18, 3) := by decide +kernel
theorem dX7_isSong_4 : decode cX7_isSong 4 = .ok (.iload_n 1, 1) := by decide +kernel
theorem dX7_isSong_5 : decode cX7_isSong 5 = .ok (.aload_n 0, 1) := by decide +kernel
theorem dX7_isSong_6 : decode cX7_isSong 6 = .ok (.getfield 27, 3) := by decide +kernel
theorem dX7_isSong_9 : decode cX7_isSong 9 = .ok (.getfield 135, 3) := by decide +kernel
theorem dX7_isSong_12 : decode cX7_isSong 12 = .ok (.if_icmp .ge 7, 3) := by decide +kernel
theorem dX7_isSong_15 : decode cX7_isSong 15 = .ok (.iconst 1, 1) := by decide +kernel
theorem dX7_isSong_16 : decode cX7_isSong 16 = .ok (.goto 4, 3) := by decide +kernel
theorem dX7_isSong_19 : decode cX7_isSong 19 = .ok (.iconst 0, 1) := by decide +kernel
theorem dX7_isSong_20 : decode cX7_isSong 20 = .ok (.ireturn, 1) := by decide +kernel
theorem dX7_isEar_0 : decode cX7_isEar 0 = .ok (.iload_n 1, 1) := by decide +kernel
theorem dX7_isEar_1 : decode cX7_isEar 1 = .ok (.ifCond .lt 18, 3) := by decide +kernel
theorem dX7_isEar_4 : decode cX7_isEar 4 = .ok (.iload_n 1, 1) := by decide +kernel
theorem dX7_isEar_5 : decode cX7_isEar 5 = .ok (.aload_n 0, 1) := by decide +kernel
theorem dX7_isEar_6 : decode cX7_isEar 6 = .ok (.getfield 27, 3) := by decide +kernel
theorem dX7_isEar_9 : decode cX7_isEar 9 = .ok (.getfield 141, 3) := by decide +kernel
theorem dX7_isEar_12 : decode cX7_isEar 12 = .ok (.if_icmp .ge 7, 3) := by decide +kernel
theorem dX7_isEar_15 : decode cX7_isEar 15 = .ok (.iconst 1, 1) := by decide +kernel
theorem dX7_isEar_16 : decode cX7_isEar 16 = .ok (.goto 4, 3) := by decide +kernel
theorem dX7_isEar_19 : decode cX7_isEar 19 = .ok (.iconst 0, 1) := by decide +kernel
theorem dX7_isEar_20 : decode cX7_isEar 20 = .ok (.ireturn, 1) := by decide +kernel
theorem dX7_countLiving_0 : decode cX7_countLiving 0 = .ok (.iconst 0, 1) := by decide +kernel
theorem dX7_countLiving_1 : decode cX7_countLiving 1 = .ok (.istore_n 1, 1) := by decide +kernel
theorem dX7_countLiving_2 : decode cX7_countLiving 2 = .ok (.iconst 0, 1) := by decide +kernel
theorem dX7_countLiving_3 : decode cX7_countLiving 3 = .ok (.istore_n 2, 1) := by decide +kernel
theorem dX7_countLiving_4 : decode cX7_countLiving 4 = .ok (.iload_n 2, 1) := by decide +kernel
theorem dX7_countLiving_5 : decode cX7_countLiving 5 = .ok (.aload_n 0, 1) := by decide +kernel
theorem dX7_countLiving_6 : decode cX7_countLiving 6 = .ok (.getfield 27, 3) := by decide +kernel
theorem dX7_countLiving_9 : decode cX7_countLiving 9 = .ok (.getfield 138, 3) := by decide +kernel
theorem dX7_countLiving_12 : decode cX7_countLiving 12 = .ok (.if_icmp .ge 23, 3) := by decide +kernel
theorem dX7_countLiving_15 : decode cX7_countLiving 15 = .ok (.aload_n 0, 1) := by decide +kernel
theorem dX7_countLiving_16 : decode cX7_countLiving 16 = .ok (.getfield 54, 3) := by decide +kernel
theorem dX7_countLiving_19 : decode cX7_countLiving 19 = .ok (.iload_n 2, 1) := by decide +kernel
theorem dX7_countLiving_20 : decode cX7_countLiving 20 = .ok (.invokevirtual 171, 3) := by decide +kernel
theorem dX7_countLiving_23 : decode cX7_countLiving 23 = .ok (.ifCond .ne 6, 3) := by decide +kernel
theorem dX7_countLiving_26 : decode cX7_countLiving 26 = .ok (.iinc 1 1, 3) := by decide +kernel
theorem dX7_countLiving_29 : decode cX7_countLiving 29 = .ok (.iinc 2 1, 3) := by decide +kernel
theorem dX7_countLiving_32 : decode cX7_countLiving 32 = .ok (.goto (-28), 3) := by decide +kernel
theorem dX7_countLiving_35 : decode cX7_countLiving 35 = .ok (.iload_n 1, 1) := by decide +kernel
theorem dX7_countLiving_36 : decode cX7_countLiving 36 = .ok (.ireturn, 1) := by decide +kernel
theorem dX7_countForgotten_0 : decode cX7_countForgotten 0 = .ok (.iconst 0, 1) := by decide +kernel
theorem dX7_countForgotten_1 : decode cX7_countForgotten 1 = .ok (.istore_n 1, 1) := by decide +kernel
theorem dX7_countForgotten_2 : decode cX7_countForgotten 2 = .ok (.iconst 0, 1) := by decide +kernel
theorem dX7_countForgotten_3 : decode cX7_countForgotten 3 = .ok (.istore_n 2, 1) := by decide +kernel
theorem dX7_countForgotten_4 : decode cX7_countForgotten 4 = .ok (.iload_n 2, 1) := by decide +kernel
theorem dX7_countForgotten_5 : decode cX7_countForgotten 5 = .ok (.aload_n 0, 1) := by decide +kernel
theorem dX7_countForgotten_6 : decode cX7_countForgotten 6 = .ok (.getfield 27, 3) := by decide +kernel
theorem dX7_countForgotten_9 : decode cX7_countForgotten 9 = .ok (.getfield 138, 3) := by decide +kernel
theorem dX7_countForgotten_12 : decode cX7_countForgotten 12 = .ok (.if_icmp .ge 24, 3) := by decide +kernel
theorem dX7_countForgotten_15 : decode cX7_countForgotten 15 = .ok (.aload_n 0, 1) := by decide +kernel
theorem dX7_countForgotten_16 : decode cX7_countForgotten 16 = .ok (.getfield 54, 3) := by decide +kernel
theorem dX7_countForgotten_19 : decode cX7_countForgotten 19 = .ok (.getfield 175, 3) := by decide +kernel
theorem dX7_countForgotten_22 : decode cX7_countForgotten 22 = .ok (.iload_n 2, 1) := by decide +kernel
theorem dX7_countForgotten_23 : decode cX7_countForgotten 23 = .ok (.iaload, 1) := by decide +kernel
theorem dX7_countForgotten_24 : decode cX7_countForgotten 24 = .ok (.ifCond .ne 6, 3) := by decide +kernel
theorem dX7_countForgotten_27 : decode cX7_countForgotten 27 = .ok (.iinc 1 1, 3) := by decide +kernel
theorem dX7_countForgotten_30 : decode cX7_countForgotten 30 = .ok (.iinc 2 1, 3) := by decide +kernel
theorem dX7_countForgotten_33 : decode cX7_countForgotten 33 = .ok (.goto (-29), 3) := by decide +kernel
theorem dX7_countForgotten_36 : decode cX7_countForgotten 36 = .ok (.iload_n 1, 1) := by decide +kernel
theorem dX7_countForgotten_37 : decode cX7_countForgotten 37 = .ok (.ireturn, 1) := by decide +kernel
theorem dX7_letter_0 : decode cX7_letter 0 = .ok (.iload_n 3, 1) := by decide +kernel
theorem dX7_letter_1 : decode cX7_letter 1 = .ok (.ifCond .lt 9, 3) := by decide +kernel
theorem dX7_letter_4 : decode cX7_letter 4 = .ok (.iload_n 3, 1) := by decide +kernel
theorem dX7_letter_5 : decode cX7_letter 5 = .ok (.bipush 6, 2) := by decide +kernel
theorem dX7_letter_7 : decode cX7_letter 7 = .ok (.if_icmp .lt 5, 3) := by decide +kernel
theorem dX7_letter_10 : decode cX7_letter 10 = .ok (.iconst (-1), 1) := by decide +kernel
theorem dX7_letter_11 : decode cX7_letter 11 = .ok (.ireturn, 1) := by decide +kernel
theorem dX7_letter_12 : decode cX7_letter 12 = .ok (.iload_n 1, 1) := by decide +kernel
theorem dX7_letter_13 : decode cX7_letter 13 = .ok (.ifCond .ne 25, 3) := by decide +kernel
theorem dX7_letter_16 : decode cX7_letter 16 = .ok (.aload_n 0, 1) := by decide +kernel
theorem dX7_letter_17 : decode cX7_letter 17 = .ok (.iload_n 2, 1) := by decide +kernel
theorem dX7_letter_18 : decode cX7_letter 18 = .ok (.invokevirtual 178, 3) := by decide +kernel
theorem dX7_letter_21 : decode cX7_letter 21 = .ok (.ifCond .eq 17, 3) := by decide +kernel
theorem dX7_letter_24 : decode cX7_letter 24 = .ok (.aload_n 0, 1) := by decide +kernel
theorem dX7_letter_25 : decode cX7_letter 25 = .ok (.getfield 27, 3) := by decide +kernel
theorem dX7_letter_28 : decode cX7_letter 28 = .ok (.getfield 181, 3) := by decide +kernel
theorem dX7_letter_31 : decode cX7_letter 31 = .ok (.iload_n 2, 1) := by decide +kernel
theorem dX7_letter_32 : decode cX7_letter 32 = .ok (.iaload, 1) := by decide +kernel
theorem dX7_letter_33 : decode cX7_letter 33 = .ok (.iload_n 3, 1) := by decide +kernel
theorem dX7_letter_34 : decode cX7_letter 34 = .ok (.invokestatic 184, 3) := by decide +kernel
theorem dX7_letter_37 : decode cX7_letter 37 = .ok (.ireturn, 1) := by decide +kernel
theorem dX7_letter_38 : decode cX7_letter 38 = .ok (.iload_n 1, 1) := by decide +kernel
theorem dX7_letter_39 : decode cX7_letter 39 = .ok (.iconst 1, 1) := by decide +kernel
theorem dX7_letter_40 : decode cX7_letter 40 = .ok (.if_icmp .ne 25, 3) := by decide +kernel
theorem dX7_letter_43 : decode cX7_letter 43 = .ok (.aload_n 0, 1) := by decide +kernel
theorem dX7_letter_44 : decode cX7_letter 44 = .ok (.iload_n 2, 1) := by decide +kernel
theorem dX7_letter_45 : decode cX7_letter 45 = .ok (.invokevirtual 188, 3) := by decide +kernel
theorem dX7_letter_48 : decode cX7_letter 48 = .ok (.ifCond .eq 17, 3) := by decide +kernel
theorem dX7_letter_51 : decode cX7_letter 51 = .ok (.aload_n 0, 1) := by decide +kernel
theorem dX7_letter_52 : decode cX7_letter 52 = .ok (.getfield 27, 3) := by decide +kernel
theorem dX7_letter_55 : decode cX7_letter 55 = .ok (.getfield 191, 3) := by decide +kernel
theorem dX7_letter_58 : decode cX7_letter 58 = .ok (.iload_n 2, 1) := by decide +kernel
theorem dX7_letter_59 : decode cX7_letter 59 = .ok (.iaload, 1) := by decide +kernel
theorem dX7_letter_60 : decode cX7_letter 60 = .ok (.iload_n 3, 1) := by decide +kernel
theorem dX7_letter_61 : decode cX7_letter 61 = .ok (.invokestatic 184, 3) := by decide +kernel
theorem dX7_letter_64 : decode cX7_letter 64 = .ok (.ireturn, 1) := by decide +kernel
theorem dX7_letter_65 : decode cX7_letter 65 = .ok (.iload_n 1, 1) := by decide +kernel
theorem dX7_letter_66 : decode cX7_letter 66 = .ok (.iconst 2, 1) := by decide +kernel
theorem dX7_letter_67 : decode cX7_letter 67 = .ok (.if_icmp .ne 25, 3) := by decide +kernel
theorem dX7_letter_70 : decode cX7_letter 70 = .ok (.aload_n 0, 1) := by decide +kernel
theorem dX7_letter_71 : decode cX7_letter 71 = .ok (.iload_n 2, 1) := by decide +kernel
theorem dX7_letter_72 : decode cX7_letter 72 = .ok (.invokevirtual 194, 3) := by decide +kernel
theorem dX7_letter_75 : decode cX7_letter 75 = .ok (.ifCond .eq 17, 3) := by decide +kernel
theorem dX7_letter_78 : decode cX7_letter 78 = .ok (.aload_n 0, 1) := by decide +kernel
theorem dX7_letter_79 : decode cX7_letter 79 = .ok (.getfield 27, 3) := by decide +kernel
theorem dX7_letter_82 : decode cX7_letter 82 = .ok (.getfield 197, 3) := by decide +kernel
theorem dX7_letter_85 : decode cX7_letter 85 = .ok (.iload_n 2, 1) := by decide +kernel
theorem dX7_letter_86 : decode cX7_letter 86 = .ok (.iaload, 1) := by decide +kernel
theorem dX7_letter_87 : decode cX7_letter 87 = .ok (.iload_n 3, 1) := by decide +kernel
theorem dX7_letter_88 : decode cX7_letter 88 = .ok (.invokestatic 184, 3) := by decide +kernel
theorem dX7_letter_91 : decode cX7_letter 91 = .ok (.ireturn, 1) := by decide +kernel
theorem dX7_letter_92 : decode cX7_letter 92 = .ok (.iconst (-1), 1) := by decide +kernel
theorem dX7_letter_93 : decode cX7_letter 93 = .ok (.ireturn, 1) := by decide +kernel
theorem dX7_letterOf_0 : decode cX7_letterOf 0 = .ok (.iload_n 0, 1) := by decide +kernel
theorem dX7_letterOf_1 : decode cX7_letterOf 1 = .ok (.iconst 5, 1) := by decide +kernel
theorem dX7_letterOf_2 : decode cX7_letterOf 2 = .ok (.iload_n 1, 1) := by decide +kernel
theorem dX7_letterOf_3 : decode cX7_letterOf 3 = .ok (.imul, 1) := by decide +kernel
theorem dX7_letterOf_4 : decode cX7_letterOf 4 = .ok (.ishr, 1) := by decide +kernel
theorem dX7_letterOf_5 : decode cX7_letterOf 5 = .ok (.bipush 31, 2) := by decide +kernel
theorem dX7_letterOf_7 : decode cX7_letterOf 7 = .ok (.iand, 1) := by decide +kernel
theorem dX7_letterOf_8 : decode cX7_letterOf 8 = .ok (.ireturn, 1) := by decide +kernel
theorem dX7_song_0 : decode cX7_song 0 = .ok (.aload_n 0, 1) := by decide +kernel
theorem dX7_song_1 : decode cX7_song 1 = .ok (.iload_n 1, 1) := by decide +kernel
theorem dX7_song_2 : decode cX7_song 2 = .ok (.invokevirtual 178, 3) := by decide +kernel
theorem dX7_song_5 : decode cX7_song 5 = .ok (.ifCond .ne 5, 3) := by decide +kernel
theorem dX7_song_8 : decode cX7_song 8 = .ok (.iconst (-1), 1) := by decide +kernel
theorem dX7_song_9 : decode cX7_song 9 = .ok (.ireturn, 1) := by decide +kernel
theorem dX7_song_10 : decode cX7_song 10 = .ok (.iload_n 2, 1) := by decide +kernel
theorem dX7_song_11 : decode cX7_song 11 = .ok (.ifCond .ne 13, 3) := by decide +kernel
theorem dX7_song_14 : decode cX7_song 14 = .ok (.aload_n 0, 1) := by decide +kernel
theorem dX7_song_15 : decode cX7_song 15 = .ok (.getfield 27, 3) := by decide +kernel
theorem dX7_song_18 : decode cX7_song 18 = .ok (.getfield 200, 3) := by decide +kernel
theorem dX7_song_21 : decode cX7_song 21 = .ok (.iload_n 1, 1) := by decide +kernel
theorem dX7_song_22 : decode cX7_song 22 = .ok (.iaload, 1) := by decide +kernel
theorem dX7_song_23 : decode cX7_song 23 = .ok (.ireturn, 1) := by decide +kernel
theorem dX7_song_24 : decode cX7_song 24 = .ok (.iload_n 2, 1) := by decide +kernel
theorem dX7_song_25 : decode cX7_song 25 = .ok (.iconst 1, 1) := by decide +kernel
theorem dX7_song_26 : decode cX7_song 26 = .ok (.if_icmp .ne 15, 3) := by decide +kernel
theorem dX7_song_29 : decode cX7_song 29 = .ok (.aload_n 0, 1) := by decide +kernel
theorem dX7_song_30 : decode cX7_song 30 = .ok (.getfield 27, 3) := by decide +kernel
theorem dX7_song_33 : decode cX7_song 33 = .ok (.getfield 203, 3) := by decide +kernel
theorem dX7_song_36 : decode cX7_song 36 = .ok (.iload_n 1, 1) := by decide +kernel
theorem dX7_song_37 : decode cX7_song 37 = .ok (.iaload, 1) := by decide +kernel
theorem dX7_song_38 : decode cX7_song 38 = .ok (.goto 4, 3) := by decide +kernel
theorem dX7_song_41 : decode cX7_song 41 = .ok (.iconst (-1), 1) := by decide +kernel
theorem dX7_song_42 : decode cX7_song 42 = .ok (.ireturn, 1) := by decide +kernel
theorem dX7_asker_0 : decode cX7_asker 0 = .ok (.aload_n 0, 1) := by decide +kernel
theorem dX7_asker_1 : decode cX7_asker 1 = .ok (.iload_n 1, 1) := by decide +kernel
theorem dX7_asker_2 : decode cX7_asker 2 = .ok (.invokevirtual 188, 3) := by decide +kernel
theorem dX7_asker_5 : decode cX7_asker 5 = .ok (.ifCond .ne 5, 3) := by decide +kernel
theorem dX7_asker_8 : decode cX7_asker 8 = .ok (.iconst (-1), 1) := by decide +kernel
theorem dX7_asker_9 : decode cX7_asker 9 = .ok (.ireturn, 1) := by decide +kernel
theorem dX7_asker_10 : decode cX7_asker 10 = .ok (.iload_n 2, 1) := by decide +kernel
theorem dX7_asker_11 : decode cX7_asker 11 = .ok (.tableswitch 111 0 5 #[37, 47, 57, 67, 77, 86], 37) := by decide +kernel
theorem dX7_asker_48 : decode cX7_asker 48 = .ok (.aload_n 0, 1) := by decide +kernel
theorem dX7_asker_49 : decode cX7_asker 49 = .ok (.getfield 54, 3) := by decide +kernel
theorem dX7_asker_52 : decode cX7_asker 52 = .ok (.getfield 206, 3) := by decide +kernel
theorem dX7_asker_55 : decode cX7_asker 55 = .ok (.iload_n 1, 1) := by decide +kernel
theorem dX7_asker_56 : decode cX7_asker 56 = .ok (.iaload, 1) := by decide +kernel
theorem dX7_asker_57 : decode cX7_asker 57 = .ok (.ireturn, 1) := by decide +kernel
theorem dX7_asker_58 : decode cX7_asker 58 = .ok (.aload_n 0, 1) := by decide +kernel
theorem dX7_asker_59 : decode cX7_asker 59 = .ok (.getfield 54, 3) := by decide +kernel
theorem dX7_asker_62 : decode cX7_asker 62 = .ok (.getfield 209, 3) := by decide +kernel
theorem dX7_asker_65 : decode cX7_asker 65 = .ok (.iload_n 1, 1) := by decide +kernel
theorem dX7_asker_66 : decode cX7_asker 66 = .ok (.iaload, 1) := by decide +kernel
theorem dX7_asker_67 : decode cX7_asker 67 = .ok (.ireturn, 1) := by decide +kernel
theorem dX7_asker_68 : decode cX7_asker 68 = .ok (.aload_n 0, 1) := by decide +kernel
theorem dX7_asker_69 : decode cX7_asker 69 = .ok (.getfield 54, 3) := by decide +kernel
theorem dX7_asker_72 : decode cX7_asker 72 = .ok (.getfield 175, 3) := by decide +kernel
theorem dX7_asker_75 : decode cX7_asker 75 = .ok (.iload_n 1, 1) := by decide +kernel
theorem dX7_asker_76 : decode cX7_asker 76 = .ok (.iaload, 1) := by decide +kernel
theorem dX7_asker_77 : decode cX7_asker 77 = .ok (.ireturn, 1) := by decide +kernel
theorem dX7_asker_78 : decode cX7_asker 78 = .ok (.aload_n 0, 1) := by decide +kernel
theorem dX7_asker_79 : decode cX7_asker 79 = .ok (.getfield 54, 3) := by decide +kernel
theorem dX7_asker_82 : decode cX7_asker 82 = .ok (.getfield 212, 3) := by decide +kernel
theorem dX7_asker_85 : decode cX7_asker 85 = .ok (.iload_n 1, 1) := by decide +kernel
theorem dX7_asker_86 : decode cX7_asker 86 = .ok (.iaload, 1) := by decide +kernel
theorem dX7_asker_87 : decode cX7_asker 87 = .ok (.ireturn, 1) := by decide +kernel
theorem dX7_asker_88 : decode cX7_asker 88 = .ok (.aload_n 0, 1) := by decide +kernel
theorem dX7_asker_89 : decode cX7_asker 89 = .ok (.getfield 54, 3) := by decide +kernel
theorem dX7_asker_92 : decode cX7_asker 92 = .ok (.iload_n 1, 1) := by decide +kernel
theorem dX7_asker_93 : decode cX7_asker 93 = .ok (.invokevirtual 215, 3) := by decide +kernel
theorem dX7_asker_96 : decode cX7_asker 96 = .ok (.ireturn, 1) := by decide +kernel
theorem dX7_asker_97 : decode cX7_asker 97 = .ok (.aload_n 0, 1) := by decide +kernel
theorem dX7_asker_98 : decode cX7_asker 98 = .ok (.getfield 47, 3) := by decide +kernel
theorem dX7_asker_101 : decode cX7_asker 101 = .ok (.aload_n 0, 1) := by decide +kernel
theorem dX7_asker_102 : decode cX7_asker 102 = .ok (.getfield 27, 3) := by decide +kernel
theorem dX7_asker_105 : decode cX7_asker 105 = .ok (.aload_n 0, 1) := by decide +kernel
theorem dX7_asker_106 : decode cX7_asker 106 = .ok (.getfield 54, 3) := by decide +kernel
theorem dX7_asker_109 : decode cX7_asker 109 = .ok (.iload_n 1, 1) := by decide +kernel
theorem dX7_asker_110 : decode cX7_asker 110 = .ok (.invokevirtual 218, 3) := by decide +kernel
theorem dX7_asker_113 : decode cX7_asker 113 = .ok (.ifCond .eq 7, 3) := by decide +kernel
theorem dX7_asker_116 : decode cX7_asker 116 = .ok (.iconst 1, 1) := by decide +kernel
theorem dX7_asker_117 : decode cX7_asker 117 = .ok (.goto 4, 3) := by decide +kernel
theorem dX7_asker_120 : decode cX7_asker 120 = .ok (.iconst 0, 1) := by decide +kernel
theorem dX7_asker_121 : decode cX7_asker 121 = .ok (.ireturn, 1) := by decide +kernel
theorem dX7_asker_122 : decode cX7_asker 122 = .ok (.iconst (-1), 1) := by decide +kernel
theorem dX7_asker_123 : decode cX7_asker 123 = .ok (.ireturn, 1) := by decide +kernel
theorem dX7_worth_0 : decode cX7_worth 0 = .ok (.aload_n 0, 1) := by decide +kernel
theorem dX7_worth_1 : decode cX7_worth 1 = .ok (.iload_n 1, 1) := by decide +kernel
theorem dX7_worth_2 : decode cX7_worth 2 = .ok (.invokevirtual 188, 3) := by decide +kernel
theorem dX7_worth_5 : decode cX7_worth 5 = .ok (.ifCond .eq 23, 3) := by decide +kernel
theorem dX7_worth_8 : decode cX7_worth 8 = .ok (.aload_n 0, 1) := by decide +kernel
theorem dX7_worth_9 : decode cX7_worth 9 = .ok (.getfield 47, 3) := by decide +kernel
theorem dX7_worth_12 : decode cX7_worth 12 = .ok (.aload_n 0, 1) := by decide +kernel
theorem dX7_worth_13 : decode cX7_worth 13 = .ok (.getfield 27, 3) := by decide +kernel
theorem dX7_worth_16 : decode cX7_worth 16 = .ok (.aload_n 0, 1) := by decide +kernel
theorem dX7_worth_17 : decode cX7_worth 17 = .ok (.getfield 54, 3) := by decide +kernel
theorem dX7_worth_20 : decode cX7_worth 20 = .ok (.iload_n 1, 1) := by decide +kernel
theorem dX7_worth_21 : decode cX7_worth 21 = .ok (.invokevirtual 222, 3) := by decide +kernel
theorem dX7_worth_24 : decode cX7_worth 24 = .ok (.i2l, 1) := by decide +kernel
theorem dX7_worth_25 : decode cX7_worth 25 = .ok (.goto 6, 3) := by decide +kernel
theorem dX7_worth_28 : decode cX7_worth 28 = .ok (.ldc2_w 226, 3) := by decide +kernel
theorem dX7_worth_31 : decode cX7_worth 31 = .ok (.lreturn, 1) := by decide +kernel
theorem dX7_best_0 : decode cX7_best 0 = .ok (.aload_n 0, 1) := by decide +kernel
theorem dX7_best_1 : decode cX7_best 1 = .ok (.getfield 34, 3) := by decide +kernel
theorem dX7_best_4 : decode cX7_best 4 = .ok (.ifCond .eq 12, 3) := by decide +kernel
theorem dX7_best_7 : decode cX7_best 7 = .ok (.iload_n 1, 1) := by decide +kernel
theorem dX7_best_8 : decode cX7_best 8 = .ok (.ifCond .lt 8, 3) := by decide +kernel
theorem dX7_best_11 : decode cX7_best 11 = .ok (.iload_n 1, 1) := by decide +kernel
theorem dX7_best_12 : decode cX7_best 12 = .ok (.iconst 1, 1) := by decide +kernel
theorem dX7_best_13 : decode cX7_best 13 = .ok (.if_icmp .le 5, 3) := by decide +kernel
theorem dX7_best_16 : decode cX7_best 16 = .ok (.iconst (-1), 1) := by decide +kernel
theorem dX7_best_17 : decode cX7_best 17 = .ok (.ireturn, 1) := by decide +kernel
theorem dX7_best_18 : decode cX7_best 18 = .ok (.aload_n 0, 1) := by decide +kernel
theorem dX7_best_19 : decode cX7_best 19 = .ok (.getfield 47, 3) := by decide +kernel
theorem dX7_best_22 : decode cX7_best 22 = .ok (.aload_n 0, 1) := by decide +kernel
theorem dX7_best_23 : decode cX7_best 23 = .ok (.getfield 27, 3) := by decide +kernel
theorem dX7_best_26 : decode cX7_best 26 = .ok (.aload_n 0, 1) := by decide +kernel
theorem dX7_best_27 : decode cX7_best 27 = .ok (.getfield 54, 3) := by decide +kernel
theorem dX7_best_30 : decode cX7_best 30 = .ok (.invokevirtual 228, 3) := by decide +kernel
theorem dX7_best_33 : decode cX7_best 33 = .ok (.istore_n 2, 1) := by decide +kernel
theorem dX7_best_34 : decode cX7_best 34 = .ok (.iload_n 1, 1) := by decide +kernel
theorem dX7_best_35 : decode cX7_best 35 = .ok (.ifCond .ne 7, 3) := by decide +kernel
theorem dX7_best_38 : decode cX7_best 38 = .ok (.iload_n 2, 1) := by decide +kernel
theorem dX7_best_39 : decode cX7_best 39 = .ok (.goto 19, 3) := by decide +kernel
theorem dX7_best_42 : decode cX7_best 42 = .ok (.aload_n 0, 1) := by decide +kernel
theorem dX7_best_43 : decode cX7_best 43 = .ok (.getfield 47, 3) := by decide +kernel
theorem dX7_best_46 : decode cX7_best 46 = .ok (.aload_n 0, 1) := by decide +kernel
theorem dX7_best_47 : decode cX7_best 47 = .ok (.getfield 27, 3) := by decide +kernel
theorem dX7_best_50 : decode cX7_best 50 = .ok (.aload_n 0, 1) := by decide +kernel
theorem dX7_best_51 : decode cX7_best 51 = .ok (.getfield 54, 3) := by decide +kernel
theorem dX7_best_54 : decode cX7_best 54 = .ok (.iload_n 2, 1) := by decide +kernel
theorem dX7_best_55 : decode cX7_best 55 = .ok (.invokevirtual 231, 3) := by decide +kernel
theorem dX7_best_58 : decode cX7_best 58 = .ok (.ireturn, 1) := by decide +kernel
theorem dX7_kept_0 : decode cX7_kept 0 = .ok (.iload_n 1, 1) := by decide +kernel
theorem dX7_kept_1 : decode cX7_kept 1 = .ok (.ifCond .lt 20, 3) := by decide +kernel
theorem dX7_kept_4 : decode cX7_kept 4 = .ok (.iload_n 1, 1) := by decide +kernel
theorem dX7_kept_5 : decode cX7_kept 5 = .ok (.aload_n 0, 1) := by decide +kernel
theorem dX7_kept_6 : decode cX7_kept 6 = .ok (.getfield 54, 3) := by decide +kernel
theorem dX7_kept_9 : decode cX7_kept 9 = .ok (.getfield 165, 3) := by decide +kernel
theorem dX7_kept_12 : decode cX7_kept 12 = .ok (.if_icmp .ge 9, 3) := by decide +kernel
theorem dX7_kept_15 : decode cX7_kept 15 = .ok (.iload_n 1, 1) := by decide +kernel
theorem dX7_kept_16 : decode cX7_kept 16 = .ok (.bipush 40, 2) := by decide +kernel
theorem dX7_kept_18 : decode cX7_kept 18 = .ok (.if_icmp .lt 5, 3) := by decide +kernel
theorem dX7_kept_21 : decode cX7_kept 21 = .ok (.iconst (-1), 1) := by decide +kernel
theorem dX7_kept_22 : decode cX7_kept 22 = .ok (.ireturn, 1) := by decide +kernel
theorem dX7_kept_23 : decode cX7_kept 23 = .ok (.iload_n 2, 1) := by decide +kernel
theorem dX7_kept_24 : decode cX7_kept 24 = .ok (.tableswitch 58 0 2 #[28, 38, 48], 28) := by decide +kernel
theorem dX7_kept_52 : decode cX7_kept 52 = .ok (.aload_n 0, 1) := by decide +kernel
theorem dX7_kept_53 : decode cX7_kept 53 = .ok (.getfield 54, 3) := by decide +kernel
theorem dX7_kept_56 : decode cX7_kept 56 = .ok (.getfield 234, 3) := by decide +kernel
theorem dX7_kept_59 : decode cX7_kept 59 = .ok (.iload_n 1, 1) := by decide +kernel
theorem dX7_kept_60 : decode cX7_kept 60 = .ok (.iaload, 1) := by decide +kernel
theorem dX7_kept_61 : decode cX7_kept 61 = .ok (.ireturn, 1) := by decide +kernel
theorem dX7_kept_62 : decode cX7_kept 62 = .ok (.aload_n 0, 1) := by decide +kernel
theorem dX7_kept_63 : decode cX7_kept 63 = .ok (.getfield 54, 3) := by decide +kernel
theorem dX7_kept_66 : decode cX7_kept 66 = .ok (.getfield 237, 3) := by decide +kernel
theorem dX7_kept_69 : decode cX7_kept 69 = .ok (.iload_n 1, 1) := by decide +kernel
theorem dX7_kept_70 : decode cX7_kept 70 = .ok (.iaload, 1) := by decide +kernel
theorem dX7_kept_71 : decode cX7_kept 71 = .ok (.ireturn, 1) := by decide +kernel
theorem dX7_kept_72 : decode cX7_kept 72 = .ok (.aload_n 0, 1) := by decide +kernel
theorem dX7_kept_73 : decode cX7_kept 73 = .ok (.getfield 54, 3) := by decide +kernel
theorem dX7_kept_76 : decode cX7_kept 76 = .ok (.getfield 240, 3) := by decide +kernel
theorem dX7_kept_79 : decode cX7_kept 79 = .ok (.iload_n 1, 1) := by decide +kernel
theorem dX7_kept_80 : decode cX7_kept 80 = .ok (.iaload, 1) := by decide +kernel
theorem dX7_kept_81 : decode cX7_kept 81 = .ok (.ireturn, 1) := by decide +kernel
theorem dX7_kept_82 : decode cX7_kept 82 = .ok (.iconst (-1), 1) := by decide +kernel
theorem dX7_kept_83 : decode cX7_kept 83 = .ok (.ireturn, 1) := by decide +kernel
theorem dX7_hasDayAhead_0 : decode cX7_hasDayAhead 0 = .ok (.aload_n 0, 1) := by decide +kernel
theorem dX7_hasDayAhead_1 : decode cX7_hasDayAhead 1 = .ok (.getfield 34, 3) := by decide +kernel
theorem dX7_hasDayAhead_4 : decode cX7_hasDayAhead 4 = .ok (.ifCond .eq 22, 3) := by decide +kernel
theorem dX7_hasDayAhead_7 : decode cX7_hasDayAhead 7 = .ok (.aload_n 0, 1) := by decide +kernel
theorem dX7_hasDayAhead_8 : decode cX7_hasDayAhead 8 = .ok (.getfield 54, 3) := by decide +kernel
theorem dX7_hasDayAhead_11 : decode cX7_hasDayAhead 11 = .ok (.getfield 144, 3) := by decide +kernel
theorem dX7_hasDayAhead_14 : decode cX7_hasDayAhead 14 = .ok (.iload_n 1, 1) := by decide +kernel
theorem dX7_hasDayAhead_15 : decode cX7_hasDayAhead 15 = .ok (.iadd, 1) := by decide +kernel
theorem dX7_hasDayAhead_16 : decode cX7_hasDayAhead 16 = .ok (.sipush 999, 3) := by decide +kernel
theorem dX7_hasDayAhead_19 : decode cX7_hasDayAhead 19 = .ok (.if_icmp .gt 7, 3) := by decide +kernel
theorem dX7_hasDayAhead_22 : decode cX7_hasDayAhead 22 = .ok (.iconst 1, 1) := by decide +kernel
theorem dX7_hasDayAhead_23 : decode cX7_hasDayAhead 23 = .ok (.goto 4, 3) := by decide +kernel
theorem dX7_hasDayAhead_26 : decode cX7_hasDayAhead 26 = .ok (.iconst 0, 1) := by decide +kernel
theorem dX7_hasDayAhead_27 : decode cX7_hasDayAhead 27 = .ok (.ireturn, 1) := by decide +kernel
theorem dX7_tryFromNow_0 : decode cX7_tryFromNow 0 = .ok (.aload_n 0, 1) := by decide +kernel
theorem dX7_tryFromNow_1 : decode cX7_tryFromNow 1 = .ok (.getfield 58, 3) := by decide +kernel
theorem dX7_tryFromNow_4 : decode cX7_tryFromNow 4 = .ok (.aload_n 0, 1) := by decide +kernel
theorem dX7_tryFromNow_5 : decode cX7_tryFromNow 5 = .ok (.getfield 54, 3) := by decide +kernel
theorem dX7_tryFromNow_8 : decode cX7_tryFromNow 8 = .ok (.invokevirtual 243, 3) := by decide +kernel
theorem dX7_tryFromNow_11 : decode cX7_tryFromNow 11 = .ok (.return_, 1) := by decide +kernel
theorem dX7_tryDays_0 : decode cX7_tryDays 0 = .ok (.aload_n 0, 1) := by decide +kernel
theorem dX7_tryDays_1 : decode cX7_tryDays 1 = .ok (.invokevirtual 247, 3) := by decide +kernel
theorem dX7_tryDays_4 : decode cX7_tryDays 4 = .ok (.iconst 0, 1) := by decide +kernel
theorem dX7_tryDays_5 : decode cX7_tryDays 5 = .ok (.istore_n 2, 1) := by decide +kernel
theorem dX7_tryDays_6 : decode cX7_tryDays 6 = .ok (.iload_n 2, 1) := by decide +kernel
theorem dX7_tryDays_7 : decode cX7_tryDays 7 = .ok (.iload_n 1, 1) := by decide +kernel
theorem dX7_tryDays_8 : decode cX7_tryDays 8 = .ok (.if_icmp .ge 40, 3) := by decide +kernel
theorem dX7_tryDays_11 : decode cX7_tryDays 11 = .ok (.aload_n 0, 1) := by decide +kernel
theorem dX7_tryDays_12 : decode cX7_tryDays 12 = .ok (.getfield 47, 3) := by decide +kernel
theorem dX7_tryDays_15 : decode cX7_tryDays 15 = .ok (.aload_n 0, 1) := by decide +kernel
theorem dX7_tryDays_16 : decode cX7_tryDays 16 = .ok (.getfield 27, 3) := by decide +kernel
theorem dX7_tryDays_19 : decode cX7_tryDays 19 = .ok (.aload_n 0, 1) := by decide +kernel
theorem dX7_tryDays_20 : decode cX7_tryDays 20 = .ok (.getfield 58, 3) := by decide +kernel
theorem dX7_tryDays_23 : decode cX7_tryDays 23 = .ok (.aload_n 0, 1) := by decide +kernel
theorem dX7_tryDays_24 : decode cX7_tryDays 24 = .ok (.getfield 47, 3) := by decide +kernel
theorem dX7_tryDays_27 : decode cX7_tryDays 27 = .ok (.aload_n 0, 1) := by decide +kernel
theorem dX7_tryDays_28 : decode cX7_tryDays 28 = .ok (.getfield 27, 3) := by decide +kernel
theorem dX7_tryDays_31 : decode cX7_tryDays 31 = .ok (.aload_n 0, 1) := by decide +kernel
theorem dX7_tryDays_32 : decode cX7_tryDays 32 = .ok (.getfield 58, 3) := by decide +kernel
theorem dX7_tryDays_35 : decode cX7_tryDays 35 = .ok (.invokevirtual 228, 3) := by decide +kernel
theorem dX7_tryDays_38 : decode cX7_tryDays 38 = .ok (.invokevirtual 250, 3) := by decide +kernel
theorem dX7_tryDays_41 : decode cX7_tryDays 41 = .ok (.pop, 1) := by decide +kernel
theorem dX7_tryDays_42 : decode cX7_tryDays 42 = .ok (.iinc 2 1, 3) := by decide +kernel
theorem dX7_tryDays_45 : decode cX7_tryDays 45 = .ok (.goto (-39), 3) := by decide +kernel
theorem dX7_tryDays_48 : decode cX7_tryDays 48 = .ok (.return_, 1) := by decide +kernel
theorem dX7_later_0 : decode cX7_later 0 = .ok (.iload_n 1, 1) := by decide +kernel
theorem dX7_later_1 : decode cX7_later 1 = .ok (.ifCond .lt 17, 3) := by decide +kernel
theorem dX7_later_4 : decode cX7_later 4 = .ok (.iload_n 1, 1) := by decide +kernel
theorem dX7_later_5 : decode cX7_later 5 = .ok (.bipush 60, 2) := by decide +kernel
theorem dX7_later_7 : decode cX7_later 7 = .ok (.if_icmp .gt 11, 3) := by decide +kernel
theorem dX7_later_10 : decode cX7_later 10 = .ok (.aload_n 0, 1) := by decide +kernel
theorem dX7_later_11 : decode cX7_later 11 = .ok (.iload_n 1, 1) := by decide +kernel
theorem dX7_later_12 : decode cX7_later 12 = .ok (.invokevirtual 253, 3) := by decide +kernel
theorem dX7_later_15 : decode cX7_later 15 = .ok (.ifCond .ne 5, 3) := by decide +kernel
theorem dX7_later_18 : decode cX7_later 18 = .ok (.iconst (-1), 1) := by decide +kernel
theorem dX7_later_19 : decode cX7_later 19 = .ok (.ireturn, 1) := by decide +kernel
theorem dX7_later_20 : decode cX7_later 20 = .ok (.aload_n 0, 1) := by decide +kernel
theorem dX7_later_21 : decode cX7_later 21 = .ok (.iload_n 1, 1) := by decide +kernel
theorem dX7_later_22 : decode cX7_later 22 = .ok (.invokevirtual 256, 3) := by decide +kernel
theorem dX7_later_25 : decode cX7_later 25 = .ok (.aload_n 0, 1) := by decide +kernel
theorem dX7_later_26 : decode cX7_later 26 = .ok (.getfield 47, 3) := by decide +kernel
theorem dX7_later_29 : decode cX7_later 29 = .ok (.aload_n 0, 1) := by decide +kernel
theorem dX7_later_30 : decode cX7_later 30 = .ok (.getfield 27, 3) := by decide +kernel
theorem dX7_later_33 : decode cX7_later 33 = .ok (.aload_n 0, 1) := by decide +kernel
theorem dX7_later_34 : decode cX7_later 34 = .ok (.getfield 58, 3) := by decide +kernel
theorem dX7_later_37 : decode cX7_later 37 = .ok (.invokevirtual 228, 3) := by decide +kernel
theorem dX7_later_40 : decode cX7_later 40 = .ok (.ireturn, 1) := by decide +kernel
theorem dX7_minded_0 : decode cX7_minded 0 = .ok (.aload_n 0, 1) := by decide +kernel
theorem dX7_minded_1 : decode cX7_minded 1 = .ok (.iload_n 1, 1) := by decide +kernel
theorem dX7_minded_2 : decode cX7_minded 2 = .ok (.invokevirtual 188, 3) := by decide +kernel
theorem dX7_minded_5 : decode cX7_minded 5 = .ok (.ifCond .eq 21, 3) := by decide +kernel
theorem dX7_minded_8 : decode cX7_minded 8 = .ok (.iload_n 2, 1) := by decide +kernel
theorem dX7_minded_9 : decode cX7_minded 9 = .ok (.ifCond .lt 17, 3) := by decide +kernel
theorem dX7_minded_12 : decode cX7_minded 12 = .ok (.iload_n 2, 1) := by decide +kernel
theorem dX7_minded_13 : decode cX7_minded 13 = .ok (.bipush 60, 2) := by decide +kernel
theorem dX7_minded_15 : decode cX7_minded 15 = .ok (.if_icmp .gt 11, 3) := by decide +kernel
theorem dX7_minded_18 : decode cX7_minded 18 = .ok (.aload_n 0, 1) := by decide +kernel
theorem dX7_minded_19 : decode cX7_minded 19 = .ok (.iload_n 2, 1) := by decide +kernel
theorem dX7_minded_20 : decode cX7_minded 20 = .ok (.invokevirtual 253, 3) := by decide +kernel
theorem dX7_minded_23 : decode cX7_minded 23 = .ok (.ifCond .ne 5, 3) := by decide +kernel
theorem dX7_minded_26 : decode cX7_minded 26 = .ok (.iconst (-1), 1) := by decide +kernel
theorem dX7_minded_27 : decode cX7_minded 27 = .ok (.ireturn, 1) := by decide +kernel
theorem dX7_minded_28 : decode cX7_minded 28 = .ok (.aload_n 0, 1) := by decide +kernel
theorem dX7_minded_29 : decode cX7_minded 29 = .ok (.iload_n 2, 1) := by decide +kernel
theorem dX7_minded_30 : decode cX7_minded 30 = .ok (.invokevirtual 256, 3) := by decide +kernel
theorem dX7_minded_33 : decode cX7_minded 33 = .ok (.aload_n 0, 1) := by decide +kernel
theorem dX7_minded_34 : decode cX7_minded 34 = .ok (.getfield 58, 3) := by decide +kernel
theorem dX7_minded_37 : decode cX7_minded 37 = .ok (.getfield 175, 3) := by decide +kernel
theorem dX7_minded_40 : decode cX7_minded 40 = .ok (.iload_n 1, 1) := by decide +kernel
theorem dX7_minded_41 : decode cX7_minded 41 = .ok (.iaload, 1) := by decide +kernel
theorem dX7_minded_42 : decode cX7_minded 42 = .ok (.ireturn, 1) := by decide +kernel
theorem dX7_nothing_0 : decode cX7_nothing 0 = .ok (.aload_n 0, 1) := by decide +kernel
theorem dX7_nothing_1 : decode cX7_nothing 1 = .ok (.invokevirtual 247, 3) := by decide +kernel
theorem dX7_nothing_4 : decode cX7_nothing 4 = .ok (.iconst 0, 1) := by decide +kernel
theorem dX7_nothing_5 : decode cX7_nothing 5 = .ok (.istore_n 1, 1) := by decide +kernel
theorem dX7_nothing_6 : decode cX7_nothing 6 = .ok (.iload_n 1, 1) := by decide +kernel
theorem dX7_nothing_7 : decode cX7_nothing 7 = .ok (.bipush 60, 2) := by decide +kernel
theorem dX7_nothing_9 : decode cX7_nothing 9 = .ok (.if_icmp .gt 56, 3) := by decide +kernel
theorem dX7_nothing_12 : decode cX7_nothing 12 = .ok (.aload_n 0, 1) := by decide +kernel
theorem dX7_nothing_13 : decode cX7_nothing 13 = .ok (.iload_n 1, 1) := by decide +kernel
theorem dX7_nothing_14 : decode cX7_nothing 14 = .ok (.invokevirtual 253, 3) := by decide +kernel
theorem dX7_nothing_17 : decode cX7_nothing 17 = .ok (.ifCond .eq 48, 3) := by decide +kernel
theorem dX7_nothing_20 : decode cX7_nothing 20 = .ok (.aload_n 0, 1) := by decide +kernel
theorem dX7_nothing_21 : decode cX7_nothing 21 = .ok (.getfield 47, 3) := by decide +kernel
theorem dX7_nothing_24 : decode cX7_nothing 24 = .ok (.aload_n 0, 1) := by decide +kernel
theorem dX7_nothing_25 : decode cX7_nothing 25 = .ok (.getfield 27, 3) := by decide +kernel
theorem dX7_nothing_28 : decode cX7_nothing 28 = .ok (.aload_n 0, 1) := by decide +kernel
theorem dX7_nothing_29 : decode cX7_nothing 29 = .ok (.getfield 58, 3) := by decide +kernel
theorem dX7_nothing_32 : decode cX7_nothing 32 = .ok (.invokevirtual 228, 3) := by decide +kernel
theorem dX7_nothing_35 : decode cX7_nothing 35 = .ok (.istore_n 2, 1) := by decide +kernel
theorem dX7_nothing_36 : decode cX7_nothing 36 = .ok (.iload_n 2, 1) := by decide +kernel
theorem dX7_nothing_37 : decode cX7_nothing 37 = .ok (.ifCond .ne 5, 3) := by decide +kernel
theorem dX7_nothing_40 : decode cX7_nothing 40 = .ok (.iload_n 1, 1) := by decide +kernel
theorem dX7_nothing_41 : decode cX7_nothing 41 = .ok (.ireturn, 1) := by decide +kernel
theorem dX7_nothing_42 : decode cX7_nothing 42 = .ok (.aload_n 0, 1) := by decide +kernel
theorem dX7_nothing_43 : decode cX7_nothing 43 = .ok (.getfield 47, 3) := by decide +kernel
theorem dX7_nothing_46 : decode cX7_nothing 46 = .ok (.aload_n 0, 1) := by decide +kernel
theorem dX7_nothing_47 : decode cX7_nothing 47 = .ok (.getfield 27, 3) := by decide +kernel
theorem dX7_nothing_50 : decode cX7_nothing 50 = .ok (.aload_n 0, 1) := by decide +kernel
theorem dX7_nothing_51 : decode cX7_nothing 51 = .ok (.getfield 58, 3) := by decide +kernel
theorem dX7_nothing_54 : decode cX7_nothing 54 = .ok (.iload_n 2, 1) := by decide +kernel
theorem dX7_nothing_55 : decode cX7_nothing 55 = .ok (.invokevirtual 250, 3) := by decide +kernel
theorem dX7_nothing_58 : decode cX7_nothing 58 = .ok (.pop, 1) := by decide +kernel
theorem dX7_nothing_59 : decode cX7_nothing 59 = .ok (.iinc 1 1, 3) := by decide +kernel
theorem dX7_nothing_62 : decode cX7_nothing 62 = .ok (.goto (-56), 3) := by decide +kernel
theorem dX7_nothing_65 : decode cX7_nothing 65 = .ok (.iconst (-1), 1) := by decide +kernel
theorem dX7_nothing_66 : decode cX7_nothing 66 = .ok (.ireturn, 1) := by decide +kernel
theorem dX7_hushed_0 : decode cX7_hushed 0 = .ok (.aload_n 0, 1) := by decide +kernel
theorem dX7_hushed_1 : decode cX7_hushed 1 = .ok (.invokevirtual 247, 3) := by decide +kernel
theorem dX7_hushed_4 : decode cX7_hushed 4 = .ok (.iconst 0, 1) := by decide +kernel
theorem dX7_hushed_5 : decode cX7_hushed 5 = .ok (.istore_n 1, 1) := by decide +kernel
theorem dX7_hushed_6 : decode cX7_hushed 6 = .ok (.iload_n 1, 1) := by decide +kernel
theorem dX7_hushed_7 : decode cX7_hushed 7 = .ok (.bipush 60, 2) := by decide +kernel
theorem dX7_hushed_9 : decode cX7_hushed 9 = .ok (.if_icmp .gt 60, 3) := by decide +kernel
theorem dX7_hushed_12 : decode cX7_hushed 12 = .ok (.aload_n 0, 1) := by decide +kernel
theorem dX7_hushed_13 : decode cX7_hushed 13 = .ok (.iload_n 1, 1) := by decide +kernel
theorem dX7_hushed_14 : decode cX7_hushed 14 = .ok (.invokevirtual 253, 3) := by decide +kernel
theorem dX7_hushed_17 : decode cX7_hushed 17 = .ok (.ifCond .eq 52, 3) := by decide +kernel
theorem dX7_hushed_20 : decode cX7_hushed 20 = .ok (.aload_n 0, 1) := by decide +kernel
theorem dX7_hushed_21 : decode cX7_hushed 21 = .ok (.getfield 58, 3) := by decide +kernel
theorem dX7_hushed_24 : decode cX7_hushed 24 = .ok (.getfield 147, 3) := by decide +kernel
theorem dX7_hushed_27 : decode cX7_hushed 27 = .ok (.ifCond .ne 5, 3) := by decide +kernel
theorem dX7_hushed_30 : decode cX7_hushed 30 = .ok (.iload_n 1, 1) := by decide +kernel
theorem dX7_hushed_31 : decode cX7_hushed 31 = .ok (.ireturn, 1) := by decide +kernel
theorem dX7_hushed_32 : decode cX7_hushed 32 = .ok (.aload_n 0, 1) := by decide +kernel
theorem dX7_hushed_33 : decode cX7_hushed 33 = .ok (.getfield 47, 3) := by decide +kernel
theorem dX7_hushed_36 : decode cX7_hushed 36 = .ok (.aload_n 0, 1) := by decide +kernel
theorem dX7_hushed_37 : decode cX7_hushed 37 = .ok (.getfield 27, 3) := by decide +kernel
theorem dX7_hushed_40 : decode cX7_hushed 40 = .ok (.aload_n 0, 1) := by decide +kernel
theorem dX7_hushed_41 : decode cX7_hushed 41 = .ok (.getfield 58, 3) := by decide +kernel
theorem dX7_hushed_44 : decode cX7_hushed 44 = .ok (.aload_n 0, 1) := by decide +kernel
theorem dX7_hushed_45 : decode cX7_hushed 45 = .ok (.getfield 47, 3) := by decide +kernel
theorem dX7_hushed_48 : decode cX7_hushed 48 = .ok (.aload_n 0, 1) := by decide +kernel
theorem dX7_hushed_49 : decode cX7_hushed 49 = .ok (.getfield 27, 3) := by decide +kernel
theorem dX7_hushed_52 : decode cX7_hushed 52 = .ok (.aload_n 0, 1) := by decide +kernel
theorem dX7_hushed_53 : decode cX7_hushed 53 = .ok (.getfield 58, 3) := by decide +kernel
theorem dX7_hushed_56 : decode cX7_hushed 56 = .ok (.invokevirtual 228, 3) := by decide +kernel
theorem dX7_hushed_59 : decode cX7_hushed 59 = .ok (.invokevirtual 250, 3) := by decide +kernel
theorem dX7_hushed_62 : decode cX7_hushed 62 = .ok (.pop, 1) := by decide +kernel
theorem dX7_hushed_63 : decode cX7_hushed 63 = .ok (.iinc 1 1, 3) := by decide +kernel
theorem dX7_hushed_66 : decode cX7_hushed 66 = .ok (.goto (-60), 3) := by decide +kernel
theorem dX7_hushed_69 : decode cX7_hushed 69 = .ok (.iconst (-1), 1) := by decide +kernel
theorem dX7_hushed_70 : decode cX7_hushed 70 = .ok (.ireturn, 1) := by decide +kernel
theorem dX7_full_0 : decode cX7_full 0 = .ok (.aload_n 0, 1) := by decide +kernel
theorem dX7_full_1 : decode cX7_full 1 = .ok (.iconst 1, 1) := by decide +kernel
theorem dX7_full_2 : decode cX7_full 2 = .ok (.invokevirtual 253, 3) := by decide +kernel
theorem dX7_full_5 : decode cX7_full 5 = .ok (.ifCond .ne 5, 3) := by decide +kernel
theorem dX7_full_8 : decode cX7_full 8 = .ok (.iconst (-1), 1) := by decide +kernel
theorem dX7_full_9 : decode cX7_full 9 = .ok (.ireturn, 1) := by decide +kernel
theorem dX7_full_10 : decode cX7_full 10 = .ok (.aload_n 0, 1) := by decide +kernel
theorem dX7_full_11 : decode cX7_full 11 = .ok (.getfield 47, 3) := by decide +kernel
theorem dX7_full_14 : decode cX7_full 14 = .ok (.aload_n 0, 1) := by decide +kernel
theorem dX7_full_15 : decode cX7_full 15 = .ok (.getfield 27, 3) := by decide +kernel
theorem dX7_full_18 : decode cX7_full 18 = .ok (.aload_n 0, 1) := by decide +kernel
theorem dX7_full_19 : decode cX7_full 19 = .ok (.getfield 54, 3) := by decide +kernel
theorem dX7_full_22 : decode cX7_full 22 = .ok (.invokevirtual 156, 3) := by decide +kernel
theorem dX7_full_25 : decode cX7_full 25 = .ok (.istore_n 1, 1) := by decide +kernel
theorem dX7_full_26 : decode cX7_full 26 = .ok (.iconst 0, 1) := by decide +kernel
theorem dX7_full_27 : decode cX7_full 27 = .ok (.istore_n 2, 1) := by decide +kernel
theorem dX7_full_28 : decode cX7_full 28 = .ok (.iconst 0, 1) := by decide +kernel
theorem dX7_full_29 : decode cX7_full 29 = .ok (.istore_n 3, 1) := by decide +kernel
theorem dX7_full_30 : decode cX7_full 30 = .ok (.iload_n 3, 1) := by decide +kernel
theorem dX7_full_31 : decode cX7_full 31 = .ok (.sipush 256, 3) := by decide +kernel
theorem dX7_full_34 : decode cX7_full 34 = .ok (.if_icmp .ge 126, 3) := by decide +kernel
theorem dX7_full_37 : decode cX7_full 37 = .ok (.iload_n 2, 1) := by decide +kernel
theorem dX7_full_38 : decode cX7_full 38 = .ok (.iconst 2, 1) := by decide +kernel
theorem dX7_full_39 : decode cX7_full 39 = .ok (.if_icmp .ge 121, 3) := by decide +kernel
theorem dX7_full_42 : decode cX7_full 42 = .ok (.aload_n 0, 1) := by decide +kernel
theorem dX7_full_43 : decode cX7_full 43 = .ok (.getfield 47, 3) := by decide +kernel
theorem dX7_full_46 : decode cX7_full 46 = .ok (.aload_n 0, 1) := by decide +kernel
theorem dX7_full_47 : decode cX7_full 47 = .ok (.getfield 27, 3) := by decide +kernel
theorem dX7_full_50 : decode cX7_full 50 = .ok (.aload_n 0, 1) := by decide +kernel
theorem dX7_full_51 : decode cX7_full 51 = .ok (.getfield 54, 3) := by decide +kernel
theorem dX7_full_54 : decode cX7_full 54 = .ok (.iload_n 3, 1) := by decide +kernel
theorem dX7_full_55 : decode cX7_full 55 = .ok (.invokevirtual 231, 3) := by decide +kernel
theorem dX7_full_58 : decode cX7_full 58 = .ok (.istore 4, 2) := by decide +kernel
theorem dX7_full_60 : decode cX7_full 60 = .ok (.iload_n 3, 1) := by decide +kernel
theorem dX7_full_61 : decode cX7_full 61 = .ok (.iload_n 1, 1) := by decide +kernel
theorem dX7_full_62 : decode cX7_full 62 = .ok (.iand, 1) := by decide +kernel
theorem dX7_full_63 : decode cX7_full 63 = .ok (.iload_n 3, 1) := by decide +kernel
theorem dX7_full_64 : decode cX7_full 64 = .ok (.if_icmp .ne 90, 3) := by decide +kernel
theorem dX7_full_67 : decode cX7_full 67 = .ok (.iload 4, 2) := by decide +kernel
theorem dX7_full_69 : decode cX7_full 69 = .ok (.aload_n 0, 1) := by decide +kernel
theorem dX7_full_70 : decode cX7_full 70 = .ok (.getfield 27, 3) := by decide +kernel
theorem dX7_full_73 : decode cX7_full 73 = .ok (.getfield 132, 3) := by decide +kernel
theorem dX7_full_76 : decode cX7_full 76 = .ok (.if_icmp .gt 78, 3) := by decide +kernel
theorem dX7_full_79 : decode cX7_full 79 = .ok (.iload 4, 2) := by decide +kernel
theorem dX7_full_81 : decode cX7_full 81 = .ok (.aload_n 0, 1) := by decide +kernel
theorem dX7_full_82 : decode cX7_full 82 = .ok (.getfield 27, 3) := by decide +kernel
theorem dX7_full_85 : decode cX7_full 85 = .ok (.getfield 132, 3) := by decide +kernel
theorem dX7_full_88 : decode cX7_full 88 = .ok (.if_icmp .ne 7, 3) := by decide +kernel
theorem dX7_full_91 : decode cX7_full 91 = .ok (.iconst 1, 1) := by decide +kernel
theorem dX7_full_92 : decode cX7_full 92 = .ok (.goto 4, 3) := by decide +kernel
theorem dX7_full_95 : decode cX7_full 95 = .ok (.iconst 0, 1) := by decide +kernel
theorem dX7_full_96 : decode cX7_full 96 = .ok (.istore 5, 2) := by decide +kernel
theorem dX7_full_98 : decode cX7_full 98 = .ok (.aload_n 0, 1) := by decide +kernel
theorem dX7_full_99 : decode cX7_full 99 = .ok (.invokevirtual 247, 3) := by decide +kernel
theorem dX7_full_102 : decode cX7_full 102 = .ok (.aload_n 0, 1) := by decide +kernel
theorem dX7_full_103 : decode cX7_full 103 = .ok (.getfield 47, 3) := by decide +kernel
theorem dX7_full_106 : decode cX7_full 106 = .ok (.aload_n 0, 1) := by decide +kernel
theorem dX7_full_107 : decode cX7_full 107 = .ok (.getfield 27, 3) := by decide +kernel
theorem dX7_full_110 : decode cX7_full 110 = .ok (.aload_n 0, 1) := by decide +kernel
theorem dX7_full_111 : decode cX7_full 111 = .ok (.getfield 58, 3) := by decide +kernel
theorem dX7_full_114 : decode cX7_full 114 = .ok (.iload_n 3, 1) := by decide +kernel
theorem dX7_full_115 : decode cX7_full 115 = .ok (.invokevirtual 250, 3) := by decide +kernel
theorem dX7_full_118 : decode cX7_full 118 = .ok (.pop, 1) := by decide +kernel
theorem dX7_full_119 : decode cX7_full 119 = .ok (.iload 5, 2) := by decide +kernel
theorem dX7_full_121 : decode cX7_full 121 = .ok (.aload_n 0, 1) := by decide +kernel
theorem dX7_full_122 : decode cX7_full 122 = .ok (.getfield 47, 3) := by decide +kernel
theorem dX7_full_125 : decode cX7_full 125 = .ok (.aload_n 0, 1) := by decide +kernel
theorem dX7_full_126 : decode cX7_full 126 = .ok (.getfield 27, 3) := by decide +kernel
theorem dX7_full_129 : decode cX7_full 129 = .ok (.aload_n 0, 1) := by decide +kernel
theorem dX7_full_130 : decode cX7_full 130 = .ok (.getfield 58, 3) := by decide +kernel
theorem dX7_full_133 : decode cX7_full 133 = .ok (.invokevirtual 259, 3) := by decide +kernel
theorem dX7_full_136 : decode cX7_full 136 = .ok (.ifCond .eq 7, 3) := by decide +kernel
theorem dX7_full_139 : decode cX7_full 139 = .ok (.iconst 1, 1) := by decide +kernel
theorem dX7_full_140 : decode cX7_full 140 = .ok (.goto 4, 3) := by decide +kernel
theorem dX7_full_143 : decode cX7_full 143 = .ok (.iconst 0, 1) := by decide +kernel
theorem dX7_full_144 : decode cX7_full 144 = .ok (.iadd, 1) := by decide +kernel
theorem dX7_full_145 : decode cX7_full 145 = .ok (.istore 5, 2) := by decide +kernel
theorem dX7_full_147 : decode cX7_full 147 = .ok (.iload_n 2, 1) := by decide +kernel
theorem dX7_full_148 : decode cX7_full 148 = .ok (.iload 5, 2) := by decide +kernel
theorem dX7_full_150 : decode cX7_full 150 = .ok (.invokestatic 263, 3) := by decide +kernel
theorem dX7_full_153 : decode cX7_full 153 = .ok (.istore_n 2, 1) := by decide +kernel
theorem dX7_full_154 : decode cX7_full 154 = .ok (.iinc 3 1, 3) := by decide +kernel
theorem dX7_full_157 : decode cX7_full 157 = .ok (.goto (-127), 3) := by decide +kernel
theorem dX7_full_160 : decode cX7_full 160 = .ok (.iload_n 2, 1) := by decide +kernel
theorem dX7_full_161 : decode cX7_full 161 = .ok (.ireturn, 1) := by decide +kernel
theorem dX7_fame_0 : decode cX7_fame 0 = .ok (.aload_n 0, 1) := by decide +kernel
theorem dX7_fame_1 : decode cX7_fame 1 = .ok (.iload_n 1, 1) := by decide +kernel
theorem dX7_fame_2 : decode cX7_fame 2 = .ok (.invokevirtual 188, 3) := by decide +kernel
theorem dX7_fame_5 : decode cX7_fame 5 = .ok (.ifCond .eq 31, 3) := by decide +kernel
theorem dX7_fame_8 : decode cX7_fame 8 = .ok (.iload_n 2, 1) := by decide +kernel
theorem dX7_fame_9 : decode cX7_fame 9 = .ok (.iconst 1, 1) := by decide +kernel
theorem dX7_fame_10 : decode cX7_fame 10 = .ok (.if_icmp .lt 26, 3) := by decide +kernel
theorem dX7_fame_13 : decode cX7_fame 13 = .ok (.iload_n 2, 1) := by decide +kernel
theorem dX7_fame_14 : decode cX7_fame 14 = .ok (.bipush 30, 2) := by decide +kernel
theorem dX7_fame_16 : decode cX7_fame 16 = .ok (.if_icmp .gt 20, 3) := by decide +kernel
theorem dX7_fame_19 : decode cX7_fame 19 = .ok (.aload_n 0, 1) := by decide +kernel
theorem dX7_fame_20 : decode cX7_fame 20 = .ok (.iload_n 2, 1) := by decide +kernel
theorem dX7_fame_21 : decode cX7_fame 21 = .ok (.invokevirtual 253, 3) := by decide +kernel
theorem dX7_fame_24 : decode cX7_fame 24 = .ok (.ifCond .eq 12, 3) := by decide +kernel
theorem dX7_fame_27 : decode cX7_fame 27 = .ok (.iload_n 3, 1) := by decide +kernel
theorem dX7_fame_28 : decode cX7_fame 28 = .ok (.ifCond .lt 8, 3) := by decide +kernel
theorem dX7_fame_31 : decode cX7_fame 31 = .ok (.iload_n 3, 1) := by decide +kernel
theorem dX7_fame_32 : decode cX7_fame 32 = .ok (.iconst 1, 1) := by decide +kernel
theorem dX7_fame_33 : decode cX7_fame 33 = .ok (.if_icmp .le 5, 3) := by decide +kernel
theorem dX7_fame_36 : decode cX7_fame 36 = .ok (.iconst (-1), 1) := by decide +kernel
theorem dX7_fame_37 : decode cX7_fame 37 = .ok (.ireturn, 1) := by decide +kernel
theorem dX7_fame_38 : decode cX7_fame 38 = .ok (.iconst 0, 1) := by decide +kernel
theorem dX7_fame_39 : decode cX7_fame 39 = .ok (.istore 4, 2) := by decide +kernel
theorem dX7_fame_41 : decode cX7_fame 41 = .ok (.iconst (-1), 1) := by decide +kernel
theorem dX7_fame_42 : decode cX7_fame 42 = .ok (.istore 5, 2) := by decide +kernel
theorem dX7_fame_44 : decode cX7_fame 44 = .ok (.iconst 0, 1) := by decide +kernel
theorem dX7_fame_45 : decode cX7_fame 45 = .ok (.istore 6, 2) := by decide +kernel
theorem dX7_fame_47 : decode cX7_fame 47 = .ok (.iload 6, 2) := by decide +kernel
theorem dX7_fame_49 : decode cX7_fame 49 = .ok (.aload_n 0, 1) := by decide +kernel
theorem dX7_fame_50 : decode cX7_fame 50 = .ok (.getfield 27, 3) := by decide +kernel
theorem dX7_fame_53 : decode cX7_fame 53 = .ok (.getfield 135, 3) := by decide +kernel
theorem dX7_fame_56 : decode cX7_fame 56 = .ok (.if_icmp .ge 34, 3) := by decide +kernel
theorem dX7_fame_59 : decode cX7_fame 59 = .ok (.aload_n 0, 1) := by decide +kernel
theorem dX7_fame_60 : decode cX7_fame 60 = .ok (.iload_n 1, 1) := by decide +kernel
theorem dX7_fame_61 : decode cX7_fame 61 = .ok (.iload 6, 2) := by decide +kernel
theorem dX7_fame_63 : decode cX7_fame 63 = .ok (.iload_n 2, 1) := by decide +kernel
theorem dX7_fame_64 : decode cX7_fame 64 = .ok (.invokevirtual 268, 3) := by decide +kernel
theorem dX7_fame_67 : decode cX7_fame 67 = .ok (.istore 7, 2) := by decide +kernel
theorem dX7_fame_69 : decode cX7_fame 69 = .ok (.iload 7, 2) := by decide +kernel
theorem dX7_fame_71 : decode cX7_fame 71 = .ok (.iload 5, 2) := by decide +kernel
theorem dX7_fame_73 : decode cX7_fame 73 = .ok (.if_icmp .le 11, 3) := by decide +kernel
theorem dX7_fame_76 : decode cX7_fame 76 = .ok (.iload 7, 2) := by decide +kernel
theorem dX7_fame_78 : decode cX7_fame 78 = .ok (.istore 5, 2) := by decide +kernel
theorem dX7_fame_80 : decode cX7_fame 80 = .ok (.iload 6, 2) := by decide +kernel
theorem dX7_fame_82 : decode cX7_fame 82 = .ok (.istore 4, 2) := by decide +kernel
theorem dX7_fame_84 : decode cX7_fame 84 = .ok (.iinc 6 1, 3) := by decide +kernel
theorem dX7_fame_87 : decode cX7_fame 87 = .ok (.goto (-40), 3) := by decide +kernel
theorem dX7_fame_90 : decode cX7_fame 90 = .ok (.iload_n 3, 1) := by decide +kernel
theorem dX7_fame_91 : decode cX7_fame 91 = .ok (.ifCond .ne 8, 3) := by decide +kernel
theorem dX7_fame_94 : decode cX7_fame 94 = .ok (.iload 4, 2) := by decide +kernel
theorem dX7_fame_96 : decode cX7_fame 96 = .ok (.goto 5, 3) := by decide +kernel
theorem dX7_fame_99 : decode cX7_fame 99 = .ok (.iload 5, 2) := by decide +kernel
theorem dX7_fame_101 : decode cX7_fame 101 = .ok (.ireturn, 1) := by decide +kernel
theorem dX7_countPlays_0 : decode cX7_countPlays 0 = .ok (.aload_n 0, 1) := by decide +kernel
theorem dX7_countPlays_1 : decode cX7_countPlays 1 = .ok (.invokevirtual 247, 3) := by decide +kernel
theorem dX7_countPlays_4 : decode cX7_countPlays 4 = .ok (.aload_n 0, 1) := by decide +kernel
theorem dX7_countPlays_5 : decode cX7_countPlays 5 = .ok (.getfield 58, 3) := by decide +kernel
theorem dX7_countPlays_8 : decode cX7_countPlays 8 = .ok (.getfield 206, 3) := by decide +kernel
theorem dX7_countPlays_11 : decode cX7_countPlays 11 = .ok (.iload_n 1, 1) := by decide +kernel
theorem dX7_countPlays_12 : decode cX7_countPlays 12 = .ok (.iload_n 2, 1) := by decide +kernel
theorem dX7_countPlays_13 : decode cX7_countPlays 13 = .ok (.iastore, 1) := by decide +kernel
theorem dX7_countPlays_14 : decode cX7_countPlays 14 = .ok (.iconst 0, 1) := by decide +kernel
theorem dX7_countPlays_15 : decode cX7_countPlays 15 = .ok (.istore 4, 2) := by decide +kernel
theorem dX7_countPlays_17 : decode cX7_countPlays 17 = .ok (.iconst 0, 1) := by decide +kernel
theorem dX7_countPlays_18 : decode cX7_countPlays 18 = .ok (.istore 5, 2) := by decide +kernel
theorem dX7_countPlays_20 : decode cX7_countPlays 20 = .ok (.iload 5, 2) := by decide +kernel
theorem dX7_countPlays_22 : decode cX7_countPlays 22 = .ok (.iload_n 3, 1) := by decide +kernel
theorem dX7_countPlays_23 : decode cX7_countPlays 23 = .ok (.if_icmp .ge 55, 3) := by decide +kernel
theorem dX7_countPlays_26 : decode cX7_countPlays 26 = .ok (.aload_n 0, 1) := by decide +kernel
theorem dX7_countPlays_27 : decode cX7_countPlays 27 = .ok (.getfield 47, 3) := by decide +kernel
theorem dX7_countPlays_30 : decode cX7_countPlays 30 = .ok (.aload_n 0, 1) := by decide +kernel
theorem dX7_countPlays_31 : decode cX7_countPlays 31 = .ok (.getfield 27, 3) := by decide +kernel
theorem dX7_countPlays_34 : decode cX7_countPlays 34 = .ok (.aload_n 0, 1) := by decide +kernel
theorem dX7_countPlays_35 : decode cX7_countPlays 35 = .ok (.getfield 58, 3) := by decide +kernel
theorem dX7_countPlays_38 : decode cX7_countPlays 38 = .ok (.invokevirtual 228, 3) := by decide +kernel
theorem dX7_countPlays_41 : decode cX7_countPlays 41 = .ok (.istore 6, 2) := by decide +kernel
theorem dX7_countPlays_43 : decode cX7_countPlays 43 = .ok (.iload 4, 2) := by decide +kernel
theorem dX7_countPlays_45 : decode cX7_countPlays 45 = .ok (.iload 6, 2) := by decide +kernel
theorem dX7_countPlays_47 : decode cX7_countPlays 47 = .ok (.iload_n 1, 1) := by decide +kernel
theorem dX7_countPlays_48 : decode cX7_countPlays 48 = .ok (.ishr, 1) := by decide +kernel
theorem dX7_countPlays_49 : decode cX7_countPlays 49 = .ok (.iconst 1, 1) := by decide +kernel
theorem dX7_countPlays_50 : decode cX7_countPlays 50 = .ok (.iand, 1) := by decide +kernel
theorem dX7_countPlays_51 : decode cX7_countPlays 51 = .ok (.iadd, 1) := by decide +kernel
theorem dX7_countPlays_52 : decode cX7_countPlays 52 = .ok (.istore 4, 2) := by decide +kernel
theorem dX7_countPlays_54 : decode cX7_countPlays 54 = .ok (.aload_n 0, 1) := by decide +kernel
theorem dX7_countPlays_55 : decode cX7_countPlays 55 = .ok (.getfield 47, 3) := by decide +kernel
theorem dX7_countPlays_58 : decode cX7_countPlays 58 = .ok (.aload_n 0, 1) := by decide +kernel
theorem dX7_countPlays_59 : decode cX7_countPlays 59 = .ok (.getfield 27, 3) := by decide +kernel
theorem dX7_countPlays_62 : decode cX7_countPlays 62 = .ok (.aload_n 0, 1) := by decide +kernel
theorem dX7_countPlays_63 : decode cX7_countPlays 63 = .ok (.getfield 58, 3) := by decide +kernel
theorem dX7_countPlays_66 : decode cX7_countPlays 66 = .ok (.iload 6, 2) := by decide +kernel
theorem dX7_countPlays_68 : decode cX7_countPlays 68 = .ok (.invokevirtual 250, 3) := by decide +kernel
theorem dX7_countPlays_71 : decode cX7_countPlays 71 = .ok (.pop, 1) := by decide +kernel
theorem dX7_countPlays_72 : decode cX7_countPlays 72 = .ok (.iinc 5 1, 3) := by decide +kernel
theorem dX7_countPlays_75 : decode cX7_countPlays 75 = .ok (.goto (-55), 3) := by decide +kernel
theorem dX7_countPlays_78 : decode cX7_countPlays 78 = .ok (.iload 4, 2) := by decide +kernel
theorem dX7_countPlays_80 : decode cX7_countPlays 80 = .ok (.ireturn, 1) := by decide +kernel
theorem dX7_shared_0 : decode cX7_shared 0 = .ok (.aload_n 0, 1) := by decide +kernel
theorem dX7_shared_1 : decode cX7_shared 1 = .ok (.getfield 47, 3) := by decide +kernel
theorem dX7_shared_4 : decode cX7_shared 4 = .ok (.aload_n 0, 1) := by decide +kernel
theorem dX7_shared_5 : decode cX7_shared 5 = .ok (.getfield 27, 3) := by decide +kernel
theorem dX7_shared_8 : decode cX7_shared 8 = .ok (.aload_n 0, 1) := by decide +kernel
theorem dX7_shared_9 : decode cX7_shared 9 = .ok (.getfield 54, 3) := by decide +kernel
theorem dX7_shared_12 : decode cX7_shared 12 = .ok (.invokevirtual 272, 3) := by decide +kernel
theorem dX7_shared_15 : decode cX7_shared 15 = .ok (.ireturn, 1) := by decide +kernel
theorem dX7_heard_0 : decode cX7_heard 0 = .ok (.iload_n 1, 1) := by decide +kernel
theorem dX7_heard_1 : decode cX7_heard 1 = .ok (.iconst (-1), 1) := by decide +kernel
theorem dX7_heard_2 : decode cX7_heard 2 = .ok (.if_icmp .eq 13, 3) := by decide +kernel
theorem dX7_heard_5 : decode cX7_heard 5 = .ok (.aload_n 0, 1) := by decide +kernel
theorem dX7_heard_6 : decode cX7_heard 6 = .ok (.iload_n 1, 1) := by decide +kernel
theorem dX7_heard_7 : decode cX7_heard 7 = .ok (.invokevirtual 194, 3) := by decide +kernel
theorem dX7_heard_10 : decode cX7_heard 10 = .ok (.ifCond .ne 5, 3) := by decide +kernel
theorem dX7_heard_13 : decode cX7_heard 13 = .ok (.iconst (-1), 1) := by decide +kernel
theorem dX7_heard_14 : decode cX7_heard 14 = .ok (.ireturn, 1) := by decide +kernel
theorem dX7_heard_15 : decode cX7_heard 15 = .ok (.aload_n 0, 1) := by decide +kernel
theorem dX7_heard_16 : decode cX7_heard 16 = .ok (.getfield 47, 3) := by decide +kernel
theorem dX7_heard_19 : decode cX7_heard 19 = .ok (.aload_n 0, 1) := by decide +kernel
theorem dX7_heard_20 : decode cX7_heard 20 = .ok (.getfield 27, 3) := by decide +kernel
theorem dX7_heard_23 : decode cX7_heard 23 = .ok (.aload_n 0, 1) := by decide +kernel
theorem dX7_heard_24 : decode cX7_heard 24 = .ok (.getfield 54, 3) := by decide +kernel
theorem dX7_heard_27 : decode cX7_heard 27 = .ok (.invokevirtual 228, 3) := by decide +kernel
theorem dX7_heard_30 : decode cX7_heard 30 = .ok (.istore_n 2, 1) := by decide +kernel
theorem dX7_heard_31 : decode cX7_heard 31 = .ok (.aload_n 0, 1) := by decide +kernel
theorem dX7_heard_32 : decode cX7_heard 32 = .ok (.getfield 47, 3) := by decide +kernel
theorem dX7_heard_35 : decode cX7_heard 35 = .ok (.aload_n 0, 1) := by decide +kernel
theorem dX7_heard_36 : decode cX7_heard 36 = .ok (.getfield 27, 3) := by decide +kernel
theorem dX7_heard_39 : decode cX7_heard 39 = .ok (.aload_n 0, 1) := by decide +kernel
theorem dX7_heard_40 : decode cX7_heard 40 = .ok (.getfield 54, 3) := by decide +kernel
theorem dX7_heard_43 : decode cX7_heard 43 = .ok (.iload_n 2, 1) := by decide +kernel
theorem dX7_heard_44 : decode cX7_heard 44 = .ok (.invokevirtual 275, 3) := by decide +kernel
theorem dX7_heard_47 : decode cX7_heard 47 = .ok (.iload_n 1, 1) := by decide +kernel
theorem dX7_heard_48 : decode cX7_heard 48 = .ok (.iconst (-1), 1) := by decide +kernel
theorem dX7_heard_49 : decode cX7_heard 49 = .ok (.if_icmp .ne 15, 3) := by decide +kernel
theorem dX7_heard_52 : decode cX7_heard 52 = .ok (.aload_n 0, 1) := by decide +kernel
theorem dX7_heard_53 : decode cX7_heard 53 = .ok (.getfield 47, 3) := by decide +kernel
theorem dX7_heard_56 : decode cX7_heard 56 = .ok (.iconst 0, 1) := by decide +kernel
theorem dX7_heard_57 : decode cX7_heard 57 = .ok (.iconst 0, 1) := by decide +kernel
theorem dX7_heard_58 : decode cX7_heard 58 = .ok (.invokevirtual 279, 3) := by decide +kernel
theorem dX7_heard_61 : decode cX7_heard 61 = .ok (.goto 20, 3) := by decide +kernel
theorem dX7_heard_64 : decode cX7_heard 64 = .ok (.aload_n 0, 1) := by decide +kernel
theorem dX7_heard_65 : decode cX7_heard 65 = .ok (.getfield 47, 3) := by decide +kernel
theorem dX7_heard_68 : decode cX7_heard 68 = .ok (.aload_n 0, 1) := by decide +kernel
theorem dX7_heard_69 : decode cX7_heard 69 = .ok (.getfield 27, 3) := by decide +kernel
theorem dX7_heard_72 : decode cX7_heard 72 = .ok (.aload_n 0, 1) := by decide +kernel
theorem dX7_heard_73 : decode cX7_heard 73 = .ok (.getfield 54, 3) := by decide +kernel
theorem dX7_heard_76 : decode cX7_heard 76 = .ok (.iload_n 2, 1) := by decide +kernel
theorem dX7_heard_77 : decode cX7_heard 77 = .ok (.iload_n 1, 1) := by decide +kernel
theorem dX7_heard_78 : decode cX7_heard 78 = .ok (.invokevirtual 282, 3) := by decide +kernel
theorem dX7_heard_81 : decode cX7_heard 81 = .ok (.ireturn, 1) := by decide +kernel
theorem dX7_see_0 : decode cX7_see 0 = .ok (.aload_n 0, 1) := by decide +kernel
theorem dX7_see_1 : decode cX7_see 1 = .ok (.invokevirtual 103, 3) := by decide +kernel
theorem dX7_see_4 : decode cX7_see 4 = .ok (.istore_n 1, 1) := by decide +kernel
theorem dX7_see_5 : decode cX7_see 5 = .ok (.aload_n 0, 1) := by decide +kernel
theorem dX7_see_6 : decode cX7_see 6 = .ok (.getfield 34, 3) := by decide +kernel
theorem dX7_see_9 : decode cX7_see 9 = .ok (.ifCond .eq 11, 3) := by decide +kernel
theorem dX7_see_12 : decode cX7_see 12 = .ok (.aload_n 0, 1) := by decide +kernel
theorem dX7_see_13 : decode cX7_see 13 = .ok (.iload_n 1, 1) := by decide +kernel
theorem dX7_see_14 : decode cX7_see 14 = .ok (.invokevirtual 286, 3) := by decide +kernel
theorem dX7_see_17 : decode cX7_see 17 = .ok (.ifCond .ne 10, 3) := by decide +kernel
theorem dX7_see_20 : decode cX7_see 20 = .ok (.aload_n 0, 1) := by decide +kernel
theorem dX7_see_21 : decode cX7_see 21 = .ok (.iconst 1, 1) := by decide +kernel
theorem dX7_see_22 : decode cX7_see 22 = .ok (.invokevirtual 92, 3) := by decide +kernel
theorem dX7_see_25 : decode cX7_see 25 = .ok (.iconst (-1), 1) := by decide +kernel
theorem dX7_see_26 : decode cX7_see 26 = .ok (.ireturn, 1) := by decide +kernel
theorem dX7_see_27 : decode cX7_see 27 = .ok (.aload_n 0, 1) := by decide +kernel
theorem dX7_see_28 : decode cX7_see 28 = .ok (.iload_n 1, 1) := by decide +kernel
theorem dX7_see_29 : decode cX7_see 29 = .ok (.iconst 3, 1) := by decide +kernel
theorem dX7_see_30 : decode cX7_see 30 = .ok (.idiv, 1) := by decide +kernel
theorem dX7_see_31 : decode cX7_see 31 = .ok (.putfield 73, 3) := by decide +kernel
theorem dX7_see_34 : decode cX7_see 34 = .ok (.iconst 0, 1) := by decide +kernel
theorem dX7_see_35 : decode cX7_see 35 = .ok (.istore_n 2, 1) := by decide +kernel
theorem dX7_see_36 : decode cX7_see 36 = .ok (.iload_n 2, 1) := by decide +kernel
theorem dX7_see_37 : decode cX7_see 37 = .ok (.aload_n 0, 1) := by decide +kernel
theorem dX7_see_38 : decode cX7_see 38 = .ok (.getfield 73, 3) := by decide +kernel
theorem dX7_see_41 : decode cX7_see 41 = .ok (.if_icmp .ge 39, 3) := by decide +kernel
theorem dX7_see_44 : decode cX7_see 44 = .ok (.iconst 0, 1) := by decide +kernel
theorem dX7_see_45 : decode cX7_see 45 = .ok (.istore_n 3, 1) := by decide +kernel
theorem dX7_see_46 : decode cX7_see 46 = .ok (.iload_n 3, 1) := by decide +kernel
theorem dX7_see_47 : decode cX7_see 47 = .ok (.iconst 3, 1) := by decide +kernel
theorem dX7_see_48 : decode cX7_see 48 = .ok (.if_icmp .ge 26, 3) := by decide +kernel
theorem dX7_see_51 : decode cX7_see 51 = .ok (.aload_n 0, 1) := by decide +kernel
theorem dX7_see_52 : decode cX7_see 52 = .ok (.getfield 70, 3) := by decide +kernel
theorem dX7_see_55 : decode cX7_see 55 = .ok (.iload_n 2, 1) := by decide +kernel
theorem dX7_see_56 : decode cX7_see 56 = .ok (.aaload, 1) := by decide +kernel
theorem dX7_see_57 : decode cX7_see 57 = .ok (.iload_n 3, 1) := by decide +kernel
theorem dX7_see_58 : decode cX7_see 58 = .ok (.aload_n 0, 1) := by decide +kernel
theorem dX7_see_59 : decode cX7_see 59 = .ok (.iconst 3, 1) := by decide +kernel
theorem dX7_see_60 : decode cX7_see 60 = .ok (.iload_n 2, 1) := by decide +kernel
theorem dX7_see_61 : decode cX7_see 61 = .ok (.imul, 1) := by decide +kernel
theorem dX7_see_62 : decode cX7_see 62 = .ok (.iload_n 3, 1) := by decide +kernel
theorem dX7_see_63 : decode cX7_see 63 = .ok (.iadd, 1) := by decide +kernel
theorem dX7_see_64 : decode cX7_see 64 = .ok (.invokevirtual 99, 3) := by decide +kernel
theorem dX7_see_67 : decode cX7_see 67 = .ok (.iastore, 1) := by decide +kernel
theorem dX7_see_68 : decode cX7_see 68 = .ok (.iinc 3 1, 3) := by decide +kernel
theorem dX7_see_71 : decode cX7_see 71 = .ok (.goto (-25), 3) := by decide +kernel
theorem dX7_see_74 : decode cX7_see 74 = .ok (.iinc 2 1, 3) := by decide +kernel
theorem dX7_see_77 : decode cX7_see 77 = .ok (.goto (-41), 3) := by decide +kernel
theorem dX7_see_80 : decode cX7_see 80 = .ok (.aload_n 0, 1) := by decide +kernel
theorem dX7_see_81 : decode cX7_see 81 = .ok (.getfield 73, 3) := by decide +kernel
theorem dX7_see_84 : decode cX7_see 84 = .ok (.ireturn, 1) := by decide +kernel
theorem dX7_isSeenTape_0 : decode cX7_isSeenTape 0 = .ok (.iload_n 1, 1) := by decide +kernel
theorem dX7_isSeenTape_1 : decode cX7_isSeenTape 1 = .ok (.iconst 3, 1) := by decide +kernel
theorem dX7_isSeenTape_2 : decode cX7_isSeenTape 2 = .ok (.if_icmp .lt 15, 3) := by decide +kernel
theorem dX7_isSeenTape_5 : decode cX7_isSeenTape 5 = .ok (.iload_n 1, 1) := by decide +kernel
theorem dX7_isSeenTape_6 : decode cX7_isSeenTape 6 = .ok (.bipush 48, 2) := by decide +kernel
theorem dX7_isSeenTape_8 : decode cX7_isSeenTape 8 = .ok (.if_icmp .gt 9, 3) := by decide +kernel
theorem dX7_isSeenTape_11 : decode cX7_isSeenTape 11 = .ok (.iload_n 1, 1) := by decide +kernel
theorem dX7_isSeenTape_12 : decode cX7_isSeenTape 12 = .ok (.iconst 3, 1) := by decide +kernel
theorem dX7_isSeenTape_13 : decode cX7_isSeenTape 13 = .ok (.irem, 1) := by decide +kernel
theorem dX7_isSeenTape_14 : decode cX7_isSeenTape 14 = .ok (.ifCond .eq 5, 3) := by decide +kernel
theorem dX7_isSeenTape_17 : decode cX7_isSeenTape 17 = .ok (.iconst 0, 1) := by decide +kernel
theorem dX7_isSeenTape_18 : decode cX7_isSeenTape 18 = .ok (.ireturn, 1) := by decide +kernel
theorem dX7_isSeenTape_19 : decode cX7_isSeenTape 19 = .ok (.iconst 0, 1) := by decide +kernel
theorem dX7_isSeenTape_20 : decode cX7_isSeenTape 20 = .ok (.istore_n 2, 1) := by decide +kernel
theorem dX7_isSeenTape_21 : decode cX7_isSeenTape 21 = .ok (.iload_n 2, 1) := by decide +kernel
theorem dX7_isSeenTape_22 : decode cX7_isSeenTape 22 = .ok (.iload_n 1, 1) := by decide +kernel
theorem dX7_isSeenTape_23 : decode cX7_isSeenTape 23 = .ok (.if_icmp .ge 46, 3) := by decide +kernel
theorem dX7_isSeenTape_26 : decode cX7_isSeenTape 26 = .ok (.aload_n 0, 1) := by decide +kernel
theorem dX7_isSeenTape_27 : decode cX7_isSeenTape 27 = .ok (.iload_n 2, 1) := by decide +kernel
theorem dX7_isSeenTape_28 : decode cX7_isSeenTape 28 = .ok (.invokevirtual 99, 3) := by decide +kernel
theorem dX7_isSeenTape_31 : decode cX7_isSeenTape 31 = .ok (.bipush 30, 2) := by decide +kernel
theorem dX7_isSeenTape_33 : decode cX7_isSeenTape 33 = .ok (.if_icmp .gt 28, 3) := by decide +kernel
theorem dX7_isSeenTape_36 : decode cX7_isSeenTape 36 = .ok (.aload_n 0, 1) := by decide +kernel
theorem dX7_isSeenTape_37 : decode cX7_isSeenTape 37 = .ok (.aload_n 0, 1) := by decide +kernel
theorem dX7_isSeenTape_38 : decode cX7_isSeenTape 38 = .ok (.iload_n 2, 1) := by decide +kernel
theorem dX7_isSeenTape_39 : decode cX7_isSeenTape 39 = .ok (.iconst 1, 1) := by decide +kernel
theorem dX7_isSeenTape_40 : decode cX7_isSeenTape 40 = .ok (.iadd, 1) := by decide +kernel
theorem dX7_isSeenTape_41 : decode cX7_isSeenTape 41 = .ok (.invokevirtual 99, 3) := by decide +kernel
theorem dX7_isSeenTape_44 : decode cX7_isSeenTape 44 = .ok (.invokevirtual 188, 3) := by decide +kernel
theorem dX7_isSeenTape_47 : decode cX7_isSeenTape 47 = .ok (.ifCond .eq 14, 3) := by decide +kernel
theorem dX7_isSeenTape_50 : decode cX7_isSeenTape 50 = .ok (.aload_n 0, 1) := by decide +kernel
theorem dX7_isSeenTape_51 : decode cX7_isSeenTape 51 = .ok (.iload_n 2, 1) := by decide +kernel
theorem dX7_isSeenTape_52 : decode cX7_isSeenTape 52 = .ok (.iconst 2, 1) := by decide +kernel
theorem dX7_isSeenTape_53 : decode cX7_isSeenTape 53 = .ok (.iadd, 1) := by decide +kernel
theorem dX7_isSeenTape_54 : decode cX7_isSeenTape 54 = .ok (.invokevirtual 99, 3) := by decide +kernel
theorem dX7_isSeenTape_57 : decode cX7_isSeenTape 57 = .ok (.iconst 1, 1) := by decide +kernel
theorem dX7_isSeenTape_58 : decode cX7_isSeenTape 58 = .ok (.if_icmp .le 5, 3) := by decide +kernel
theorem dX7_isSeenTape_61 : decode cX7_isSeenTape 61 = .ok (.iconst 0, 1) := by decide +kernel
theorem dX7_isSeenTape_62 : decode cX7_isSeenTape 62 = .ok (.ireturn, 1) := by decide +kernel
theorem dX7_isSeenTape_63 : decode cX7_isSeenTape 63 = .ok (.iinc 2 3, 3) := by decide +kernel
theorem dX7_isSeenTape_66 : decode cX7_isSeenTape 66 = .ok (.goto (-45), 3) := by decide +kernel
theorem dX7_isSeenTape_69 : decode cX7_isSeenTape 69 = .ok (.iconst 1, 1) := by decide +kernel
theorem dX7_isSeenTape_70 : decode cX7_isSeenTape 70 = .ok (.ireturn, 1) := by decide +kernel
theorem dX7_fits_0 : decode cX7_fits 0 = .ok (.aload_n 0, 1) := by decide +kernel
theorem dX7_fits_1 : decode cX7_fits 1 = .ok (.iload_n 1, 1) := by decide +kernel
theorem dX7_fits_2 : decode cX7_fits 2 = .ok (.invokevirtual 188, 3) := by decide +kernel
theorem dX7_fits_5 : decode cX7_fits 5 = .ok (.ifCond .eq 12, 3) := by decide +kernel
theorem dX7_fits_8 : decode cX7_fits 8 = .ok (.iload_n 2, 1) := by decide +kernel
theorem dX7_fits_9 : decode cX7_fits 9 = .ok (.ifCond .lt 8, 3) := by decide +kernel
theorem dX7_fits_12 : decode cX7_fits 12 = .ok (.iload_n 2, 1) := by decide +kernel
theorem dX7_fits_13 : decode cX7_fits 13 = .ok (.iconst 2, 1) := by decide +kernel
theorem dX7_fits_14 : decode cX7_fits 14 = .ok (.if_icmp .le 5, 3) := by decide +kernel
theorem dX7_fits_17 : decode cX7_fits 17 = .ok (.iconst (-1), 1) := by decide +kernel
theorem dX7_fits_18 : decode cX7_fits 18 = .ok (.ireturn, 1) := by decide +kernel
theorem dX7_fits_19 : decode cX7_fits 19 = .ok (.aload_n 0, 1) := by decide +kernel
theorem dX7_fits_20 : decode cX7_fits 20 = .ok (.iload_n 1, 1) := by decide +kernel
theorem dX7_fits_21 : decode cX7_fits 21 = .ok (.aload_n 0, 1) := by decide +kernel
theorem dX7_fits_22 : decode cX7_fits 22 = .ok (.invokevirtual 289, 3) := by decide +kernel
theorem dX7_fits_25 : decode cX7_fits 25 = .ok (.invokevirtual 292, 3) := by decide +kernel
theorem dX7_fits_28 : decode cX7_fits 28 = .ok (.istore_n 3, 1) := by decide +kernel
theorem dX7_fits_29 : decode cX7_fits 29 = .ok (.iload_n 2, 1) := by decide +kernel
theorem dX7_fits_30 : decode cX7_fits 30 = .ok (.ifCond .ne 5, 3) := by decide +kernel
theorem dX7_fits_33 : decode cX7_fits 33 = .ok (.iload_n 3, 1) := by decide +kernel
theorem dX7_fits_34 : decode cX7_fits 34 = .ok (.ireturn, 1) := by decide +kernel
theorem dX7_fits_35 : decode cX7_fits 35 = .ok (.iload_n 2, 1) := by decide +kernel
theorem dX7_fits_36 : decode cX7_fits 36 = .ok (.iconst 1, 1) := by decide +kernel
theorem dX7_fits_37 : decode cX7_fits 37 = .ok (.if_icmp .ne 10, 3) := by decide +kernel
theorem dX7_fits_40 : decode cX7_fits 40 = .ok (.aload_n 0, 1) := by decide +kernel
theorem dX7_fits_41 : decode cX7_fits 41 = .ok (.invokevirtual 295, 3) := by decide +kernel
theorem dX7_fits_44 : decode cX7_fits 44 = .ok (.goto 7, 3) := by decide +kernel
theorem dX7_fits_47 : decode cX7_fits 47 = .ok (.aload_n 0, 1) := by decide +kernel
theorem dX7_fits_48 : decode cX7_fits 48 = .ok (.invokevirtual 298, 3) := by decide +kernel
theorem dX7_fits_51 : decode cX7_fits 51 = .ok (.ireturn, 1) := by decide +kernel
theorem dX7_leastFitting_0 : decode cX7_leastFitting 0 = .ok (.iconst 0, 1) := by decide +kernel
theorem dX7_leastFitting_1 : decode cX7_leastFitting 1 = .ok (.istore_n 1, 1) := by decide +kernel
theorem dX7_leastFitting_2 : decode cX7_leastFitting 2 = .ok (.iload_n 1, 1) := by decide +kernel
theorem dX7_leastFitting_3 : decode cX7_leastFitting 3 = .ok (.bipush 99, 2) := by decide +kernel
theorem dX7_leastFitting_5 : decode cX7_leastFitting 5 = .ok (.if_icmp .gt 21, 3) := by decide +kernel
theorem dX7_leastFitting_8 : decode cX7_leastFitting 8 = .ok (.aload_n 0, 1) := by decide +kernel
theorem dX7_leastFitting_9 : decode cX7_leastFitting 9 = .ok (.getfield 76, 3) := by decide +kernel
theorem dX7_leastFitting_12 : decode cX7_leastFitting 12 = .ok (.iload_n 1, 1) := by decide +kernel
theorem dX7_leastFitting_13 : decode cX7_leastFitting 13 = .ok (.iaload, 1) := by decide +kernel
theorem dX7_leastFitting_14 : decode cX7_leastFitting 14 = .ok (.iconst (-1), 1) := by decide +kernel
theorem dX7_leastFitting_15 : decode cX7_leastFitting 15 = .ok (.if_icmp .eq 5, 3) := by decide +kernel
theorem dX7_leastFitting_18 : decode cX7_leastFitting 18 = .ok (.iload_n 1, 1) := by decide +kernel
theorem dX7_leastFitting_19 : decode cX7_leastFitting 19 = .ok (.ireturn, 1) := by decide +kernel
theorem dX7_leastFitting_20 : decode cX7_leastFitting 20 = .ok (.iinc 1 1, 3) := by decide +kernel
theorem dX7_leastFitting_23 : decode cX7_leastFitting 23 = .ok (.goto (-21), 3) := by decide +kernel
theorem dX7_leastFitting_26 : decode cX7_leastFitting 26 = .ok (.iconst (-1), 1) := by decide +kernel
theorem dX7_leastFitting_27 : decode cX7_leastFitting 27 = .ok (.ireturn, 1) := by decide +kernel
theorem dX7_greatestFitting_0 : decode cX7_greatestFitting 0 = .ok (.bipush 99, 2) := by decide +kernel
theorem dX7_greatestFitting_2 : decode cX7_greatestFitting 2 = .ok (.istore_n 1, 1) := by decide +kernel
theorem dX7_greatestFitting_3 : decode cX7_greatestFitting 3 = .ok (.iload_n 1, 1) := by decide +kernel
theorem dX7_greatestFitting_4 : decode cX7_greatestFitting 4 = .ok (.ifCond .lt 21, 3) := by decide +kernel
theorem dX7_greatestFitting_7 : decode cX7_greatestFitting 7 = .ok (.aload_n 0, 1) := by decide +kernel
theorem dX7_greatestFitting_8 : decode cX7_greatestFitting 8 = .ok (.getfield 76, 3) := by decide +kernel
theorem dX7_greatestFitting_11 : decode cX7_greatestFitting 11 = .ok (.iload_n 1, 1) := by decide +kernel
theorem dX7_greatestFitting_12 : decode cX7_greatestFitting 12 = .ok (.iaload, 1) := by decide +kernel
theorem dX7_greatestFitting_13 : decode cX7_greatestFitting 13 = .ok (.iconst (-1), 1) := by decide +kernel
theorem dX7_greatestFitting_14 : decode cX7_greatestFitting 14 = .ok (.if_icmp .eq 5, 3) := by decide +kernel
theorem dX7_greatestFitting_17 : decode cX7_greatestFitting 17 = .ok (.iload_n 1, 1) := by decide +kernel
theorem dX7_greatestFitting_18 : decode cX7_greatestFitting 18 = .ok (.ireturn, 1) := by decide +kernel
theorem dX7_greatestFitting_19 : decode cX7_greatestFitting 19 = .ok (.iinc 1 (-1), 3) := by decide +kernel
theorem dX7_greatestFitting_22 : decode cX7_greatestFitting 22 = .ok (.goto (-19), 3) := by decide +kernel
theorem dX7_greatestFitting_25 : decode cX7_greatestFitting 25 = .ok (.iconst (-1), 1) := by decide +kernel
theorem dX7_greatestFitting_26 : decode cX7_greatestFitting 26 = .ok (.ireturn, 1) := by decide +kernel
theorem dX7_findFitting_0 : decode cX7_findFitting 0 = .ok (.aload_n 0, 1) := by decide +kernel
theorem dX7_findFitting_1 : decode cX7_findFitting 1 = .ok (.aload_n 0, 1) := by decide +kernel
theorem dX7_findFitting_2 : decode cX7_findFitting 2 = .ok (.invokevirtual 289, 3) := by decide +kernel
theorem dX7_findFitting_5 : decode cX7_findFitting 5 = .ok (.invokevirtual 253, 3) := by decide +kernel
theorem dX7_findFitting_8 : decode cX7_findFitting 8 = .ok (.istore_n 3, 1) := by decide +kernel
theorem dX7_findFitting_9 : decode cX7_findFitting 9 = .ok (.iconst 0, 1) := by decide +kernel
theorem dX7_findFitting_10 : decode cX7_findFitting 10 = .ok (.istore 4, 2) := by decide +kernel
theorem dX7_findFitting_12 : decode cX7_findFitting 12 = .ok (.iconst 0, 1) := by decide +kernel
theorem dX7_findFitting_13 : decode cX7_findFitting 13 = .ok (.istore 5, 2) := by decide +kernel
theorem dX7_findFitting_15 : decode cX7_findFitting 15 = .ok (.iload 5, 2) := by decide +kernel
theorem dX7_findFitting_17 : decode cX7_findFitting 17 = .ok (.bipush 99, 2) := by decide +kernel
theorem dX7_findFitting_19 : decode cX7_findFitting 19 = .ok (.if_icmp .gt 151, 3) := by decide +kernel
theorem dX7_findFitting_22 : decode cX7_findFitting 22 = .ok (.iload_n 3, 1) := by decide +kernel
theorem dX7_findFitting_23 : decode cX7_findFitting 23 = .ok (.istore 6, 2) := by decide +kernel
theorem dX7_findFitting_25 : decode cX7_findFitting 25 = .ok (.iconst 0, 1) := by decide +kernel
theorem dX7_findFitting_26 : decode cX7_findFitting 26 = .ok (.istore 7, 2) := by decide +kernel
theorem dX7_findFitting_28 : decode cX7_findFitting 28 = .ok (.aload_n 0, 1) := by decide +kernel
theorem dX7_findFitting_29 : decode cX7_findFitting 29 = .ok (.invokevirtual 247, 3) := by decide +kernel
theorem dX7_findFitting_32 : decode cX7_findFitting 32 = .ok (.aload_n 0, 1) := by decide +kernel
theorem dX7_findFitting_33 : decode cX7_findFitting 33 = .ok (.getfield 58, 3) := by decide +kernel
theorem dX7_findFitting_36 : decode cX7_findFitting 36 = .ok (.getfield 175, 3) := by decide +kernel
theorem dX7_findFitting_39 : decode cX7_findFitting 39 = .ok (.iload_n 1, 1) := by decide +kernel
theorem dX7_findFitting_40 : decode cX7_findFitting 40 = .ok (.iload 5, 2) := by decide +kernel
theorem dX7_findFitting_42 : decode cX7_findFitting 42 = .ok (.iastore, 1) := by decide +kernel
theorem dX7_findFitting_43 : decode cX7_findFitting 43 = .ok (.iconst 0, 1) := by decide +kernel
theorem dX7_findFitting_44 : decode cX7_findFitting 44 = .ok (.istore 8, 2) := by decide +kernel
theorem dX7_findFitting_46 : decode cX7_findFitting 46 = .ok (.iload 8, 2) := by decide +kernel
theorem dX7_findFitting_48 : decode cX7_findFitting 48 = .ok (.iload_n 2, 1) := by decide +kernel
theorem dX7_findFitting_49 : decode cX7_findFitting 49 = .ok (.if_icmp .gt 82, 3) := by decide +kernel
theorem dX7_findFitting_52 : decode cX7_findFitting 52 = .ok (.iload 6, 2) := by decide +kernel
theorem dX7_findFitting_54 : decode cX7_findFitting 54 = .ok (.ifCond .eq 77, 3) := by decide +kernel
theorem dX7_findFitting_57 : decode cX7_findFitting 57 = .ok (.aload_n 0, 1) := by decide +kernel
theorem dX7_findFitting_58 : decode cX7_findFitting 58 = .ok (.iload 8, 2) := by decide +kernel
theorem dX7_findFitting_60 : decode cX7_findFitting 60 = .ok (.invokevirtual 253, 3) := by decide +kernel
theorem dX7_findFitting_63 : decode cX7_findFitting 63 = .ok (.ifCond .eq 68, 3) := by decide +kernel
theorem dX7_findFitting_66 : decode cX7_findFitting 66 = .ok (.aload_n 0, 1) := by decide +kernel
theorem dX7_findFitting_67 : decode cX7_findFitting 67 = .ok (.getfield 47, 3) := by decide +kernel
theorem dX7_findFitting_70 : decode cX7_findFitting 70 = .ok (.aload_n 0, 1) := by decide +kernel
theorem dX7_findFitting_71 : decode cX7_findFitting 71 = .ok (.getfield 27, 3) := by decide +kernel
theorem dX7_findFitting_74 : decode cX7_findFitting 74 = .ok (.aload_n 0, 1) := by decide +kernel
theorem dX7_findFitting_75 : decode cX7_findFitting 75 = .ok (.getfield 58, 3) := by decide +kernel
theorem dX7_findFitting_78 : decode cX7_findFitting 78 = .ok (.invokevirtual 228, 3) := by decide +kernel
theorem dX7_findFitting_81 : decode cX7_findFitting 81 = .ok (.istore 9, 2) := by decide +kernel
theorem dX7_findFitting_83 : decode cX7_findFitting 83 = .ok (.aload_n 0, 1) := by decide +kernel
theorem dX7_findFitting_84 : decode cX7_findFitting 84 = .ok (.iload 8, 2) := by decide +kernel
theorem dX7_findFitting_86 : decode cX7_findFitting 86 = .ok (.iload 9, 2) := by decide +kernel
theorem dX7_findFitting_88 : decode cX7_findFitting 88 = .ok (.invokevirtual 301, 3) := by decide +kernel
theorem dX7_findFitting_91 : decode cX7_findFitting 91 = .ok (.istore 6, 2) := by decide +kernel
theorem dX7_findFitting_93 : decode cX7_findFitting 93 = .ok (.iload 7, 2) := by decide +kernel
theorem dX7_findFitting_95 : decode cX7_findFitting 95 = .ok (.iload 9, 2) := by decide +kernel
theorem dX7_findFitting_97 : decode cX7_findFitting 97 = .ok (.iload_n 1, 1) := by decide +kernel
theorem dX7_findFitting_98 : decode cX7_findFitting 98 = .ok (.ishr, 1) := by decide +kernel
theorem dX7_findFitting_99 : decode cX7_findFitting 99 = .ok (.iconst 1, 1) := by decide +kernel
theorem dX7_findFitting_100 : decode cX7_findFitting 100 = .ok (.iand, 1) := by decide +kernel
theorem dX7_findFitting_101 : decode cX7_findFitting 101 = .ok (.iload 8, 2) := by decide +kernel
theorem dX7_findFitting_103 : decode cX7_findFitting 103 = .ok (.ishl, 1) := by decide +kernel
theorem dX7_findFitting_104 : decode cX7_findFitting 104 = .ok (.ior, 1) := by decide +kernel
theorem dX7_findFitting_105 : decode cX7_findFitting 105 = .ok (.istore 7, 2) := by decide +kernel
theorem dX7_findFitting_107 : decode cX7_findFitting 107 = .ok (.aload_n 0, 1) := by decide +kernel
theorem dX7_findFitting_108 : decode cX7_findFitting 108 = .ok (.getfield 47, 3) := by decide +kernel
theorem dX7_findFitting_111 : decode cX7_findFitting 111 = .ok (.aload_n 0, 1) := by decide +kernel
theorem dX7_findFitting_112 : decode cX7_findFitting 112 = .ok (.getfield 27, 3) := by decide +kernel
theorem dX7_findFitting_115 : decode cX7_findFitting 115 = .ok (.aload_n 0, 1) := by decide +kernel
theorem dX7_findFitting_116 : decode cX7_findFitting 116 = .ok (.getfield 58, 3) := by decide +kernel
theorem dX7_findFitting_119 : decode cX7_findFitting 119 = .ok (.iload 9, 2) := by decide +kernel
theorem dX7_findFitting_121 : decode cX7_findFitting 121 = .ok (.invokevirtual 250, 3) := by decide +kernel
theorem dX7_findFitting_124 : decode cX7_findFitting 124 = .ok (.pop, 1) := by decide +kernel
theorem dX7_findFitting_125 : decode cX7_findFitting 125 = .ok (.iinc 8 1, 3) := by decide +kernel
theorem dX7_findFitting_128 : decode cX7_findFitting 128 = .ok (.goto (-82), 3) := by decide +kernel
theorem dX7_findFitting_131 : decode cX7_findFitting 131 = .ok (.aload_n 0, 1) := by decide +kernel
theorem dX7_findFitting_132 : decode cX7_findFitting 132 = .ok (.getfield 76, 3) := by decide +kernel
theorem dX7_findFitting_135 : decode cX7_findFitting 135 = .ok (.iload 5, 2) := by decide +kernel
theorem dX7_findFitting_137 : decode cX7_findFitting 137 = .ok (.iload 6, 2) := by decide +kernel
theorem dX7_findFitting_139 : decode cX7_findFitting 139 = .ok (.ifCond .eq 8, 3) := by decide +kernel
theorem dX7_findFitting_142 : decode cX7_findFitting 142 = .ok (.iload 7, 2) := by decide +kernel
theorem dX7_findFitting_144 : decode cX7_findFitting 144 = .ok (.goto 4, 3) := by decide +kernel
theorem dX7_findFitting_147 : decode cX7_findFitting 147 = .ok (.iconst (-1), 1) := by decide +kernel
theorem dX7_findFitting_148 : decode cX7_findFitting 148 = .ok (.iastore, 1) := by decide +kernel
theorem dX7_findFitting_149 : decode cX7_findFitting 149 = .ok (.iload 4, 2) := by decide +kernel
theorem dX7_findFitting_151 : decode cX7_findFitting 151 = .ok (.iload 6, 2) := by decide +kernel
theorem dX7_findFitting_153 : decode cX7_findFitting 153 = .ok (.ifCond .eq 7, 3) := by decide +kernel
theorem dX7_findFitting_156 : decode cX7_findFitting 156 = .ok (.iconst 1, 1) := by decide +kernel
theorem dX7_findFitting_157 : decode cX7_findFitting 157 = .ok (.goto 4, 3) := by decide +kernel
theorem dX7_findFitting_160 : decode cX7_findFitting 160 = .ok (.iconst 0, 1) := by decide +kernel
theorem dX7_findFitting_161 : decode cX7_findFitting 161 = .ok (.iadd, 1) := by decide +kernel
theorem dX7_findFitting_162 : decode cX7_findFitting 162 = .ok (.istore 4, 2) := by decide +kernel
theorem dX7_findFitting_164 : decode cX7_findFitting 164 = .ok (.iinc 5 1, 3) := by decide +kernel
theorem dX7_findFitting_167 : decode cX7_findFitting 167 = .ok (.goto (-152), 3) := by decide +kernel
theorem dX7_findFitting_170 : decode cX7_findFitting 170 = .ok (.iload 4, 2) := by decide +kernel
theorem dX7_findFitting_172 : decode cX7_findFitting 172 = .ok (.ireturn, 1) := by decide +kernel
theorem dX7_lastSeenDay_0 : decode cX7_lastSeenDay 0 = .ok (.iconst (-1), 1) := by decide +kernel
theorem dX7_lastSeenDay_1 : decode cX7_lastSeenDay 1 = .ok (.istore_n 1, 1) := by decide +kernel
theorem dX7_lastSeenDay_2 : decode cX7_lastSeenDay 2 = .ok (.iconst 0, 1) := by decide +kernel
theorem dX7_lastSeenDay_3 : decode cX7_lastSeenDay 3 = .ok (.istore_n 2, 1) := by decide +kernel
theorem dX7_lastSeenDay_4 : decode cX7_lastSeenDay 4 = .ok (.iload_n 2, 1) := by decide +kernel
theorem dX7_lastSeenDay_5 : decode cX7_lastSeenDay 5 = .ok (.aload_n 0, 1) := by decide +kernel
theorem dX7_lastSeenDay_6 : decode cX7_lastSeenDay 6 = .ok (.getfield 73, 3) := by decide +kernel
theorem dX7_lastSeenDay_9 : decode cX7_lastSeenDay 9 = .ok (.if_icmp .ge 22, 3) := by decide +kernel
theorem dX7_lastSeenDay_12 : decode cX7_lastSeenDay 12 = .ok (.iload_n 1, 1) := by decide +kernel
theorem dX7_lastSeenDay_13 : decode cX7_lastSeenDay 13 = .ok (.aload_n 0, 1) := by decide +kernel
theorem dX7_lastSeenDay_14 : decode cX7_lastSeenDay 14 = .ok (.getfield 70, 3) := by decide +kernel
theorem dX7_lastSeenDay_17 : decode cX7_lastSeenDay 17 = .ok (.iload_n 2, 1) := by decide +kernel
theorem dX7_lastSeenDay_18 : decode cX7_lastSeenDay 18 = .ok (.aaload, 1) := by decide +kernel
theorem dX7_lastSeenDay_19 : decode cX7_lastSeenDay 19 = .ok (.iconst 0, 1) := by decide +kernel
theorem dX7_lastSeenDay_20 : decode cX7_lastSeenDay 20 = .ok (.iaload, 1) := by decide +kernel
theorem dX7_lastSeenDay_21 : decode cX7_lastSeenDay 21 = .ok (.invokestatic 263, 3) := by decide +kernel
theorem dX7_lastSeenDay_24 : decode cX7_lastSeenDay 24 = .ok (.istore_n 1, 1) := by decide +kernel
theorem dX7_lastSeenDay_25 : decode cX7_lastSeenDay 25 = .ok (.iinc 2 1, 3) := by decide +kernel
theorem dX7_lastSeenDay_28 : decode cX7_lastSeenDay 28 = .ok (.goto (-24), 3) := by decide +kernel
theorem dX7_lastSeenDay_31 : decode cX7_lastSeenDay 31 = .ok (.iload_n 1, 1) := by decide +kernel
theorem dX7_lastSeenDay_32 : decode cX7_lastSeenDay 32 = .ok (.ireturn, 1) := by decide +kernel
theorem dX7_rowsAgree_0 : decode cX7_rowsAgree 0 = .ok (.iconst 0, 1) := by decide +kernel
theorem dX7_rowsAgree_1 : decode cX7_rowsAgree 1 = .ok (.istore_n 3, 1) := by decide +kernel
theorem dX7_rowsAgree_2 : decode cX7_rowsAgree 2 = .ok (.iload_n 3, 1) := by decide +kernel
theorem dX7_rowsAgree_3 : decode cX7_rowsAgree 3 = .ok (.aload_n 0, 1) := by decide +kernel
theorem dX7_rowsAgree_4 : decode cX7_rowsAgree 4 = .ok (.getfield 73, 3) := by decide +kernel
theorem dX7_rowsAgree_7 : decode cX7_rowsAgree 7 = .ok (.if_icmp .ge 46, 3) := by decide +kernel
theorem dX7_rowsAgree_10 : decode cX7_rowsAgree 10 = .ok (.aload_n 0, 1) := by decide +kernel
theorem dX7_rowsAgree_11 : decode cX7_rowsAgree 11 = .ok (.getfield 70, 3) := by decide +kernel
theorem dX7_rowsAgree_14 : decode cX7_rowsAgree 14 = .ok (.iload_n 3, 1) := by decide +kernel
theorem dX7_rowsAgree_15 : decode cX7_rowsAgree 15 = .ok (.aaload, 1) := by decide +kernel
theorem dX7_rowsAgree_16 : decode cX7_rowsAgree 16 = .ok (.iconst 0, 1) := by decide +kernel
theorem dX7_rowsAgree_17 : decode cX7_rowsAgree 17 = .ok (.iaload, 1) := by decide +kernel
theorem dX7_rowsAgree_18 : decode cX7_rowsAgree 18 = .ok (.iload_n 1, 1) := by decide +kernel
theorem dX7_rowsAgree_19 : decode cX7_rowsAgree 19 = .ok (.if_icmp .ne 28, 3) := by decide +kernel
theorem dX7_rowsAgree_22 : decode cX7_rowsAgree 22 = .ok (.iload_n 2, 1) := by decide +kernel
theorem dX7_rowsAgree_23 : decode cX7_rowsAgree 23 = .ok (.aload_n 0, 1) := by decide +kernel
theorem dX7_rowsAgree_24 : decode cX7_rowsAgree 24 = .ok (.getfield 70, 3) := by decide +kernel
theorem dX7_rowsAgree_27 : decode cX7_rowsAgree 27 = .ok (.iload_n 3, 1) := by decide +kernel
theorem dX7_rowsAgree_28 : decode cX7_rowsAgree 28 = .ok (.aaload, 1) := by decide +kernel
theorem dX7_rowsAgree_29 : decode cX7_rowsAgree 29 = .ok (.iconst 1, 1) := by decide +kernel
theorem dX7_rowsAgree_30 : decode cX7_rowsAgree 30 = .ok (.iaload, 1) := by decide +kernel
theorem dX7_rowsAgree_31 : decode cX7_rowsAgree 31 = .ok (.ishr, 1) := by decide +kernel
theorem dX7_rowsAgree_32 : decode cX7_rowsAgree 32 = .ok (.iconst 1, 1) := by decide +kernel
theorem dX7_rowsAgree_33 : decode cX7_rowsAgree 33 = .ok (.iand, 1) := by decide +kernel
theorem dX7_rowsAgree_34 : decode cX7_rowsAgree 34 = .ok (.aload_n 0, 1) := by decide +kernel
theorem dX7_rowsAgree_35 : decode cX7_rowsAgree 35 = .ok (.getfield 70, 3) := by decide +kernel
theorem dX7_rowsAgree_38 : decode cX7_rowsAgree 38 = .ok (.iload_n 3, 1) := by decide +kernel
theorem dX7_rowsAgree_39 : decode cX7_rowsAgree 39 = .ok (.aaload, 1) := by decide +kernel
theorem dX7_rowsAgree_40 : decode cX7_rowsAgree 40 = .ok (.iconst 2, 1) := by decide +kernel
theorem dX7_rowsAgree_41 : decode cX7_rowsAgree 41 = .ok (.iaload, 1) := by decide +kernel
theorem dX7_rowsAgree_42 : decode cX7_rowsAgree 42 = .ok (.if_icmp .eq 5, 3) := by decide +kernel
theorem dX7_rowsAgree_45 : decode cX7_rowsAgree 45 = .ok (.iconst 0, 1) := by decide +kernel
theorem dX7_rowsAgree_46 : decode cX7_rowsAgree 46 = .ok (.ireturn, 1) := by decide +kernel
theorem dX7_rowsAgree_47 : decode cX7_rowsAgree 47 = .ok (.iinc 3 1, 3) := by decide +kernel
theorem dX7_rowsAgree_50 : decode cX7_rowsAgree 50 = .ok (.goto (-48), 3) := by decide +kernel
theorem dX7_rowsAgree_53 : decode cX7_rowsAgree 53 = .ok (.iconst 1, 1) := by decide +kernel
theorem dX7_rowsAgree_54 : decode cX7_rowsAgree 54 = .ok (.ireturn, 1) := by decide +kernel
theorem dX7_tells_0 : decode cX7_tells 0 = .ok (.aload_n 0, 1) := by decide +kernel
theorem dX7_tells_1 : decode cX7_tells 1 = .ok (.iload_n 1, 1) := by decide +kernel
theorem dX7_tells_2 : decode cX7_tells 2 = .ok (.invokevirtual 188, 3) := by decide +kernel
theorem dX7_tells_5 : decode cX7_tells 5 = .ok (.ifCond .eq 12, 3) := by decide +kernel
theorem dX7_tells_8 : decode cX7_tells 8 = .ok (.iload_n 2, 1) := by decide +kernel
theorem dX7_tells_9 : decode cX7_tells 9 = .ok (.ifCond .lt 8, 3) := by decide +kernel
theorem dX7_tells_12 : decode cX7_tells 12 = .ok (.iload_n 2, 1) := by decide +kernel
theorem dX7_tells_13 : decode cX7_tells 13 = .ok (.iconst 1, 1) := by decide +kernel
theorem dX7_tells_14 : decode cX7_tells 14 = .ok (.if_icmp .le 5, 3) := by decide +kernel
theorem dX7_tells_17 : decode cX7_tells 17 = .ok (.iconst (-1), 1) := by decide +kernel
theorem dX7_tells_18 : decode cX7_tells 18 = .ok (.ireturn, 1) := by decide +kernel
theorem dX7_tells_19 : decode cX7_tells 19 = .ok (.aload_n 0, 1) := by decide +kernel
theorem dX7_tells_20 : decode cX7_tells 20 = .ok (.iload_n 1, 1) := by decide +kernel
theorem dX7_tells_21 : decode cX7_tells 21 = .ok (.bipush 30, 2) := by decide +kernel
theorem dX7_tells_23 : decode cX7_tells 23 = .ok (.invokevirtual 292, 3) := by decide +kernel
theorem dX7_tells_26 : decode cX7_tells 26 = .ok (.istore_n 3, 1) := by decide +kernel
theorem dX7_tells_27 : decode cX7_tells 27 = .ok (.iload_n 3, 1) := by decide +kernel
theorem dX7_tells_28 : decode cX7_tells 28 = .ok (.ifCond .ne 5, 3) := by decide +kernel
theorem dX7_tells_31 : decode cX7_tells 31 = .ok (.iconst (-1), 1) := by decide +kernel
theorem dX7_tells_32 : decode cX7_tells 32 = .ok (.ireturn, 1) := by decide +kernel
theorem dX7_tells_33 : decode cX7_tells 33 = .ok (.iconst (-1), 1) := by decide +kernel
theorem dX7_tells_34 : decode cX7_tells 34 = .ok (.istore 4, 2) := by decide +kernel
theorem dX7_tells_36 : decode cX7_tells 36 = .ok (.iconst 0, 1) := by decide +kernel
theorem dX7_tells_37 : decode cX7_tells 37 = .ok (.istore 5, 2) := by decide +kernel
theorem dX7_tells_39 : decode cX7_tells 39 = .ok (.iconst 0, 1) := by decide +kernel
theorem dX7_tells_40 : decode cX7_tells 40 = .ok (.istore 6, 2) := by decide +kernel
theorem dX7_tells_42 : decode cX7_tells 42 = .ok (.iload 6, 2) := by decide +kernel
theorem dX7_tells_44 : decode cX7_tells 44 = .ok (.bipush 30, 2) := by decide +kernel
theorem dX7_tells_46 : decode cX7_tells 46 = .ok (.if_icmp .gt 58, 3) := by decide +kernel
theorem dX7_tells_49 : decode cX7_tells 49 = .ok (.aload_n 0, 1) := by decide +kernel
theorem dX7_tells_50 : decode cX7_tells 50 = .ok (.iload 6, 2) := by decide +kernel
theorem dX7_tells_52 : decode cX7_tells 52 = .ok (.invokevirtual 253, 3) := by decide +kernel
theorem dX7_tells_55 : decode cX7_tells 55 = .ok (.ifCond .eq 49, 3) := by decide +kernel
theorem dX7_tells_58 : decode cX7_tells 58 = .ok (.aload_n 0, 1) := by decide +kernel
theorem dX7_tells_59 : decode cX7_tells 59 = .ok (.iload 6, 2) := by decide +kernel
theorem dX7_tells_61 : decode cX7_tells 61 = .ok (.invokevirtual 305, 3) := by decide +kernel
theorem dX7_tells_64 : decode cX7_tells 64 = .ok (.istore 7, 2) := by decide +kernel
theorem dX7_tells_66 : decode cX7_tells 66 = .ok (.iload 7, 2) := by decide +kernel
theorem dX7_tells_68 : decode cX7_tells 68 = .ok (.iload_n 3, 1) := by decide +kernel
theorem dX7_tells_69 : decode cX7_tells 69 = .ok (.iload 7, 2) := by decide +kernel
theorem dX7_tells_71 : decode cX7_tells 71 = .ok (.isub, 1) := by decide +kernel
theorem dX7_tells_72 : decode cX7_tells 72 = .ok (.invokestatic 263, 3) := by decide +kernel
theorem dX7_tells_75 : decode cX7_tells 75 = .ok (.istore 8, 2) := by decide +kernel
theorem dX7_tells_77 : decode cX7_tells 77 = .ok (.iload 4, 2) := by decide +kernel
theorem dX7_tells_79 : decode cX7_tells 79 = .ok (.iconst (-1), 1) := by decide +kernel
theorem dX7_tells_80 : decode cX7_tells 80 = .ok (.if_icmp .eq 10, 3) := by decide +kernel
theorem dX7_tells_83 : decode cX7_tells 83 = .ok (.iload 8, 2) := by decide +kernel
theorem dX7_tells_85 : decode cX7_tells 85 = .ok (.iload 5, 2) := by decide +kernel
theorem dX7_tells_87 : decode cX7_tells 87 = .ok (.if_icmp .ge 11, 3) := by decide +kernel
theorem dX7_tells_90 : decode cX7_tells 90 = .ok (.iload 6, 2) := by decide +kernel
theorem dX7_tells_92 : decode cX7_tells 92 = .ok (.istore 4, 2) := by decide +kernel
theorem dX7_tells_94 : decode cX7_tells 94 = .ok (.iload 8, 2) := by decide +kernel
theorem dX7_tells_96 : decode cX7_tells 96 = .ok (.istore 5, 2) := by decide +kernel
theorem dX7_tells_98 : decode cX7_tells 98 = .ok (.iinc 6 1, 3) := by decide +kernel
theorem dX7_tells_101 : decode cX7_tells 101 = .ok (.goto (-59), 3) := by decide +kernel
theorem dX7_tells_104 : decode cX7_tells 104 = .ok (.iload_n 2, 1) := by decide +kernel
theorem dX7_tells_105 : decode cX7_tells 105 = .ok (.ifCond .ne 8, 3) := by decide +kernel
theorem dX7_tells_108 : decode cX7_tells 108 = .ok (.iload 4, 2) := by decide +kernel
theorem dX7_tells_110 : decode cX7_tells 110 = .ok (.goto 5, 3) := by decide +kernel
theorem dX7_tells_113 : decode cX7_tells 113 = .ok (.iload 5, 2) := by decide +kernel
theorem dX7_tells_115 : decode cX7_tells 115 = .ok (.ireturn, 1) := by decide +kernel
theorem dX7_countFittingPlayed_0 : decode cX7_countFittingPlayed 0 = .ok (.iconst 0, 1) := by decide +kernel
theorem dX7_countFittingPlayed_1 : decode cX7_countFittingPlayed 1 = .ok (.istore_n 2, 1) := by decide +kernel
theorem dX7_countFittingPlayed_2 : decode cX7_countFittingPlayed 2 = .ok (.iconst 0, 1) := by decide +kernel
theorem dX7_countFittingPlayed_3 : decode cX7_countFittingPlayed 3 = .ok (.istore_n 3, 1) := by decide +kernel
theorem dX7_countFittingPlayed_4 : decode cX7_countFittingPlayed 4 = .ok (.iload_n 3, 1) := by decide +kernel
theorem dX7_countFittingPlayed_5 : decode cX7_countFittingPlayed 5 = .ok (.bipush 99, 2) := by decide +kernel
theorem dX7_countFittingPlayed_7 : decode cX7_countFittingPlayed 7 = .ok (.if_icmp .gt 32, 3) := by decide +kernel
theorem dX7_countFittingPlayed_10 : decode cX7_countFittingPlayed 10 = .ok (.aload_n 0, 1) := by decide +kernel
theorem dX7_countFittingPlayed_11 : decode cX7_countFittingPlayed 11 = .ok (.getfield 76, 3) := by decide +kernel
theorem dX7_countFittingPlayed_14 : decode cX7_countFittingPlayed 14 = .ok (.iload_n 3, 1) := by decide +kernel
theorem dX7_countFittingPlayed_15 : decode cX7_countFittingPlayed 15 = .ok (.iaload, 1) := by decide +kernel
theorem dX7_countFittingPlayed_16 : decode cX7_countFittingPlayed 16 = .ok (.iconst (-1), 1) := by decide +kernel
theorem dX7_countFittingPlayed_17 : decode cX7_countFittingPlayed 17 = .ok (.if_icmp .eq 16, 3) := by decide +kernel
theorem dX7_countFittingPlayed_20 : decode cX7_countFittingPlayed 20 = .ok (.iload_n 2, 1) := by decide +kernel
theorem dX7_countFittingPlayed_21 : decode cX7_countFittingPlayed 21 = .ok (.aload_n 0, 1) := by decide +kernel
theorem dX7_countFittingPlayed_22 : decode cX7_countFittingPlayed 22 = .ok (.getfield 76, 3) := by decide +kernel
theorem dX7_countFittingPlayed_25 : decode cX7_countFittingPlayed 25 = .ok (.iload_n 3, 1) := by decide +kernel
theorem dX7_countFittingPlayed_26 : decode cX7_countFittingPlayed 26 = .ok (.iaload, 1) := by decide +kernel
theorem dX7_countFittingPlayed_27 : decode cX7_countFittingPlayed 27 = .ok (.iload_n 1, 1) := by decide +kernel
theorem dX7_countFittingPlayed_28 : decode cX7_countFittingPlayed 28 = .ok (.ishr, 1) := by decide +kernel
theorem dX7_countFittingPlayed_29 : decode cX7_countFittingPlayed 29 = .ok (.iconst 1, 1) := by decide +kernel
theorem dX7_countFittingPlayed_30 : decode cX7_countFittingPlayed 30 = .ok (.iand, 1) := by decide +kernel
theorem dX7_countFittingPlayed_31 : decode cX7_countFittingPlayed 31 = .ok (.iadd, 1) := by decide +kernel
theorem dX7_countFittingPlayed_32 : decode cX7_countFittingPlayed 32 = .ok (.istore_n 2, 1) := by decide +kernel
theorem dX7_countFittingPlayed_33 : decode cX7_countFittingPlayed 33 = .ok (.iinc 3 1, 3) := by decide +kernel
theorem dX7_countFittingPlayed_36 : decode cX7_countFittingPlayed 36 = .ok (.goto (-32), 3) := by decide +kernel
theorem dX7_countFittingPlayed_39 : decode cX7_countFittingPlayed 39 = .ok (.iload_n 2, 1) := by decide +kernel
theorem dX7_countFittingPlayed_40 : decode cX7_countFittingPlayed 40 = .ok (.ireturn, 1) := by decide +kernel
theorem dX7_want_0 : decode cX7_want 0 = .ok (.aload_n 0, 1) := by decide +kernel
theorem dX7_want_1 : decode cX7_want 1 = .ok (.iload_n 1, 1) := by decide +kernel
theorem dX7_want_2 : decode cX7_want 2 = .ok (.invokevirtual 188, 3) := by decide +kernel
theorem dX7_want_5 : decode cX7_want 5 = .ok (.ifCond .eq 24, 3) := by decide +kernel
theorem dX7_want_8 : decode cX7_want 8 = .ok (.aload_n 0, 1) := by decide +kernel
theorem dX7_want_9 : decode cX7_want 9 = .ok (.iload_n 2, 1) := by decide +kernel
theorem dX7_want_10 : decode cX7_want 10 = .ok (.invokevirtual 178, 3) := by decide +kernel
theorem dX7_want_13 : decode cX7_want 13 = .ok (.ifCond .eq 16, 3) := by decide +kernel
theorem dX7_want_16 : decode cX7_want 16 = .ok (.aload_n 0, 1) := by decide +kernel
theorem dX7_want_17 : decode cX7_want 17 = .ok (.getfield 54, 3) := by decide +kernel
theorem dX7_want_20 : decode cX7_want 20 = .ok (.getfield 206, 3) := by decide +kernel
theorem dX7_want_23 : decode cX7_want 23 = .ok (.iload_n 1, 1) := by decide +kernel
theorem dX7_want_24 : decode cX7_want 24 = .ok (.iaload, 1) := by decide +kernel
theorem dX7_want_25 : decode cX7_want 25 = .ok (.iload_n 2, 1) := by decide +kernel
theorem dX7_want_26 : decode cX7_want 26 = .ok (.if_icmp .ne 10, 3) := by decide +kernel
theorem dX7_want_29 : decode cX7_want 29 = .ok (.aload_n 0, 1) := by decide +kernel
theorem dX7_want_30 : decode cX7_want 30 = .ok (.iconst 2, 1) := by decide +kernel
theorem dX7_want_31 : decode cX7_want 31 = .ok (.invokevirtual 92, 3) := by decide +kernel
theorem dX7_want_34 : decode cX7_want 34 = .ok (.iconst 0, 1) := by decide +kernel
theorem dX7_want_35 : decode cX7_want 35 = .ok (.ireturn, 1) := by decide +kernel
theorem dX7_want_36 : decode cX7_want 36 = .ok (.aload_n 0, 1) := by decide +kernel
theorem dX7_want_37 : decode cX7_want 37 = .ok (.getfield 64, 3) := by decide +kernel
theorem dX7_want_40 : decode cX7_want 40 = .ok (.aload_n 0, 1) := by decide +kernel
theorem dX7_want_41 : decode cX7_want 41 = .ok (.getfield 54, 3) := by decide +kernel
theorem dX7_want_44 : decode cX7_want 44 = .ok (.invokevirtual 308, 3) := by decide +kernel
theorem dX7_want_47 : decode cX7_want 47 = .ok (.aload_n 0, 1) := by decide +kernel
theorem dX7_want_48 : decode cX7_want 48 = .ok (.getfield 54, 3) := by decide +kernel
theorem dX7_want_51 : decode cX7_want 51 = .ok (.getfield 206, 3) := by decide +kernel
theorem dX7_want_54 : decode cX7_want 54 = .ok (.iload_n 1, 1) := by decide +kernel
theorem dX7_want_55 : decode cX7_want 55 = .ok (.iload_n 2, 1) := by decide +kernel
theorem dX7_want_56 : decode cX7_want 56 = .ok (.iastore, 1) := by decide +kernel
theorem dX7_want_57 : decode cX7_want 57 = .ok (.iconst 1, 1) := by decide +kernel
theorem dX7_want_58 : decode cX7_want 58 = .ok (.ireturn, 1) := by decide +kernel
theorem dX7_mourn_0 : decode cX7_mourn 0 = .ok (.aload_n 0, 1) := by decide +kernel
theorem dX7_mourn_1 : decode cX7_mourn 1 = .ok (.iload_n 1, 1) := by decide +kernel
theorem dX7_mourn_2 : decode cX7_mourn 2 = .ok (.invokevirtual 188, 3) := by decide +kernel
theorem dX7_mourn_5 : decode cX7_mourn 5 = .ok (.ifCond .eq 28, 3) := by decide +kernel
theorem dX7_mourn_8 : decode cX7_mourn 8 = .ok (.iload_n 2, 1) := by decide +kernel
theorem dX7_mourn_9 : decode cX7_mourn 9 = .ok (.iconst 1, 1) := by decide +kernel
theorem dX7_mourn_10 : decode cX7_mourn 10 = .ok (.if_icmp .lt 23, 3) := by decide +kernel
theorem dX7_mourn_13 : decode cX7_mourn 13 = .ok (.iload_n 2, 1) := by decide +kernel
theorem dX7_mourn_14 : decode cX7_mourn 14 = .ok (.bipush 99, 2) := by decide +kernel
theorem dX7_mourn_16 : decode cX7_mourn 16 = .ok (.if_icmp .gt 17, 3) := by decide +kernel
theorem dX7_mourn_19 : decode cX7_mourn 19 = .ok (.aload_n 0, 1) := by decide +kernel
theorem dX7_mourn_20 : decode cX7_mourn 20 = .ok (.getfield 54, 3) := by decide +kernel
theorem dX7_mourn_23 : decode cX7_mourn 23 = .ok (.getfield 175, 3) := by decide +kernel
theorem dX7_mourn_26 : decode cX7_mourn 26 = .ok (.iload_n 1, 1) := by decide +kernel
theorem dX7_mourn_27 : decode cX7_mourn 27 = .ok (.iaload, 1) := by decide +kernel
theorem dX7_mourn_28 : decode cX7_mourn 28 = .ok (.bipush 99, 2) := by decide +kernel
theorem dX7_mourn_30 : decode cX7_mourn 30 = .ok (.if_icmp .lt 10, 3) := by decide +kernel
theorem dX7_mourn_33 : decode cX7_mourn 33 = .ok (.aload_n 0, 1) := by decide +kernel
theorem dX7_mourn_34 : decode cX7_mourn 34 = .ok (.iconst 2, 1) := by decide +kernel
theorem dX7_mourn_35 : decode cX7_mourn 35 = .ok (.invokevirtual 92, 3) := by decide +kernel
theorem dX7_mourn_38 : decode cX7_mourn 38 = .ok (.iconst (-1), 1) := by decide +kernel
theorem dX7_mourn_39 : decode cX7_mourn 39 = .ok (.ireturn, 1) := by decide +kernel
theorem dX7_mourn_40 : decode cX7_mourn 40 = .ok (.aload_n 0, 1) := by decide +kernel
theorem dX7_mourn_41 : decode cX7_mourn 41 = .ok (.getfield 64, 3) := by decide +kernel
theorem dX7_mourn_44 : decode cX7_mourn 44 = .ok (.aload_n 0, 1) := by decide +kernel
theorem dX7_mourn_45 : decode cX7_mourn 45 = .ok (.getfield 54, 3) := by decide +kernel
theorem dX7_mourn_48 : decode cX7_mourn 48 = .ok (.invokevirtual 308, 3) := by decide +kernel
theorem dX7_mourn_51 : decode cX7_mourn 51 = .ok (.aload_n 0, 1) := by decide +kernel
theorem dX7_mourn_52 : decode cX7_mourn 52 = .ok (.getfield 54, 3) := by decide +kernel
theorem dX7_mourn_55 : decode cX7_mourn 55 = .ok (.getfield 175, 3) := by decide +kernel
theorem dX7_mourn_58 : decode cX7_mourn 58 = .ok (.iload_n 1, 1) := by decide +kernel
theorem dX7_mourn_59 : decode cX7_mourn 59 = .ok (.bipush 99, 2) := by decide +kernel
theorem dX7_mourn_61 : decode cX7_mourn 61 = .ok (.aload_n 0, 1) := by decide +kernel
theorem dX7_mourn_62 : decode cX7_mourn 62 = .ok (.getfield 54, 3) := by decide +kernel
theorem dX7_mourn_65 : decode cX7_mourn 65 = .ok (.getfield 175, 3) := by decide +kernel
theorem dX7_mourn_68 : decode cX7_mourn 68 = .ok (.iload_n 1, 1) := by decide +kernel
theorem dX7_mourn_69 : decode cX7_mourn 69 = .ok (.iaload, 1) := by decide +kernel
theorem dX7_mourn_70 : decode cX7_mourn 70 = .ok (.iload_n 2, 1) := by decide +kernel
theorem dX7_mourn_71 : decode cX7_mourn 71 = .ok (.iadd, 1) := by decide +kernel
theorem dX7_mourn_72 : decode cX7_mourn 72 = .ok (.invokestatic 311, 3) := by decide +kernel
theorem dX7_mourn_75 : decode cX7_mourn 75 = .ok (.iastore, 1) := by decide +kernel
theorem dX7_mourn_76 : decode cX7_mourn 76 = .ok (.aload_n 0, 1) := by decide +kernel
theorem dX7_mourn_77 : decode cX7_mourn 77 = .ok (.getfield 54, 3) := by decide +kernel
theorem dX7_mourn_80 : decode cX7_mourn 80 = .ok (.getfield 175, 3) := by decide +kernel
theorem dX7_mourn_83 : decode cX7_mourn 83 = .ok (.iload_n 1, 1) := by decide +kernel
theorem dX7_mourn_84 : decode cX7_mourn 84 = .ok (.iaload, 1) := by decide +kernel
theorem dX7_mourn_85 : decode cX7_mourn 85 = .ok (.ireturn, 1) := by decide +kernel
theorem dX7_canPass_0 : decode cX7_canPass 0 = .ok (.iload_n 1, 1) := by decide +kernel
theorem dX7_canPass_1 : decode cX7_canPass 1 = .ok (.iconst 1, 1) := by decide +kernel
theorem dX7_canPass_2 : decode cX7_canPass 2 = .ok (.if_icmp .lt 21, 3) := by decide +kernel
theorem dX7_canPass_5 : decode cX7_canPass 5 = .ok (.iload_n 1, 1) := by decide +kernel
theorem dX7_canPass_6 : decode cX7_canPass 6 = .ok (.bipush 100, 2) := by decide +kernel
theorem dX7_canPass_8 : decode cX7_canPass 8 = .ok (.if_icmp .gt 15, 3) := by decide +kernel
theorem dX7_canPass_11 : decode cX7_canPass 11 = .ok (.aload_n 0, 1) := by decide +kernel
theorem dX7_canPass_12 : decode cX7_canPass 12 = .ok (.iload_n 1, 1) := by decide +kernel
theorem dX7_canPass_13 : decode cX7_canPass 13 = .ok (.invokevirtual 253, 3) := by decide +kernel
theorem dX7_canPass_16 : decode cX7_canPass 16 = .ok (.ifCond .eq 7, 3) := by decide +kernel
theorem dX7_canPass_19 : decode cX7_canPass 19 = .ok (.iconst 1, 1) := by decide +kernel
theorem dX7_canPass_20 : decode cX7_canPass 20 = .ok (.goto 4, 3) := by decide +kernel
theorem dX7_canPass_23 : decode cX7_canPass 23 = .ok (.iconst 0, 1) := by decide +kernel
theorem dX7_canPass_24 : decode cX7_canPass 24 = .ok (.ireturn, 1) := by decide +kernel
theorem dX7_days_0 : decode cX7_days 0 = .ok (.aload_n 0, 1) := by decide +kernel
theorem dX7_days_1 : decode cX7_days 1 = .ok (.iload_n 1, 1) := by decide +kernel
theorem dX7_days_2 : decode cX7_days 2 = .ok (.invokevirtual 314, 3) := by decide +kernel
theorem dX7_days_5 : decode cX7_days 5 = .ok (.ifCond .ne 10, 3) := by decide +kernel
theorem dX7_days_8 : decode cX7_days 8 = .ok (.aload_n 0, 1) := by decide +kernel
theorem dX7_days_9 : decode cX7_days 9 = .ok (.iconst 3, 1) := by decide +kernel
theorem dX7_days_10 : decode cX7_days 10 = .ok (.invokevirtual 92, 3) := by decide +kernel
theorem dX7_days_13 : decode cX7_days 13 = .ok (.iconst (-1), 1) := by decide +kernel
theorem dX7_days_14 : decode cX7_days 14 = .ok (.ireturn, 1) := by decide +kernel
theorem dX7_days_15 : decode cX7_days 15 = .ok (.aload_n 0, 1) := by decide +kernel
theorem dX7_days_16 : decode cX7_days 16 = .ok (.getfield 64, 3) := by decide +kernel
theorem dX7_days_19 : decode cX7_days 19 = .ok (.aload_n 0, 1) := by decide +kernel
theorem dX7_days_20 : decode cX7_days 20 = .ok (.getfield 54, 3) := by decide +kernel
theorem dX7_days_23 : decode cX7_days 23 = .ok (.invokevirtual 308, 3) := by decide +kernel
theorem dX7_days_26 : decode cX7_days 26 = .ok (.iconst 0, 1) := by decide +kernel
theorem dX7_days_27 : decode cX7_days 27 = .ok (.istore_n 2, 1) := by decide +kernel
theorem dX7_days_28 : decode cX7_days 28 = .ok (.iconst 0, 1) := by decide +kernel
theorem dX7_days_29 : decode cX7_days 29 = .ok (.istore_n 3, 1) := by decide +kernel
theorem dX7_days_30 : decode cX7_days 30 = .ok (.iload_n 3, 1) := by decide +kernel
theorem dX7_days_31 : decode cX7_days 31 = .ok (.iload_n 1, 1) := by decide +kernel
theorem dX7_days_32 : decode cX7_days 32 = .ok (.if_icmp .ge 16, 3) := by decide +kernel
theorem dX7_days_35 : decode cX7_days 35 = .ok (.iload_n 2, 1) := by decide +kernel
theorem dX7_days_36 : decode cX7_days 36 = .ok (.aload_n 0, 1) := by decide +kernel
theorem dX7_days_37 : decode cX7_days 37 = .ok (.invokevirtual 317, 3) := by decide +kernel
theorem dX7_days_40 : decode cX7_days 40 = .ok (.iadd, 1) := by decide +kernel
theorem dX7_days_41 : decode cX7_days 41 = .ok (.istore_n 2, 1) := by decide +kernel
theorem dX7_days_42 : decode cX7_days 42 = .ok (.iinc 3 1, 3) := by decide +kernel
theorem dX7_days_45 : decode cX7_days 45 = .ok (.goto (-15), 3) := by decide +kernel
theorem dX7_days_48 : decode cX7_days 48 = .ok (.iload_n 2, 1) := by decide +kernel
theorem dX7_days_49 : decode cX7_days 49 = .ok (.ireturn, 1) := by decide +kernel
theorem dX7_passDay_0 : decode cX7_passDay 0 = .ok (.aload_n 0, 1) := by decide +kernel
theorem dX7_passDay_1 : decode cX7_passDay 1 = .ok (.getfield 47, 3) := by decide +kernel
theorem dX7_passDay_4 : decode cX7_passDay 4 = .ok (.aload_n 0, 1) := by decide +kernel
theorem dX7_passDay_5 : decode cX7_passDay 5 = .ok (.getfield 27, 3) := by decide +kernel
theorem dX7_passDay_8 : decode cX7_passDay 8 = .ok (.aload_n 0, 1) := by decide +kernel
theorem dX7_passDay_9 : decode cX7_passDay 9 = .ok (.getfield 54, 3) := by decide +kernel
theorem dX7_passDay_12 : decode cX7_passDay 12 = .ok (.invokevirtual 228, 3) := by decide +kernel
theorem dX7_passDay_15 : decode cX7_passDay 15 = .ok (.istore_n 1, 1) := by decide +kernel
theorem dX7_passDay_16 : decode cX7_passDay 16 = .ok (.aload_n 0, 1) := by decide +kernel
theorem dX7_passDay_17 : decode cX7_passDay 17 = .ok (.getfield 54, 3) := by decide +kernel
theorem dX7_passDay_20 : decode cX7_passDay 20 = .ok (.getfield 144, 3) := by decide +kernel
theorem dX7_passDay_23 : decode cX7_passDay 23 = .ok (.istore_n 2, 1) := by decide +kernel
theorem dX7_passDay_24 : decode cX7_passDay 24 = .ok (.aload_n 0, 1) := by decide +kernel
theorem dX7_passDay_25 : decode cX7_passDay 25 = .ok (.getfield 47, 3) := by decide +kernel
theorem dX7_passDay_28 : decode cX7_passDay 28 = .ok (.aload_n 0, 1) := by decide +kernel
theorem dX7_passDay_29 : decode cX7_passDay 29 = .ok (.getfield 27, 3) := by decide +kernel
theorem dX7_passDay_32 : decode cX7_passDay 32 = .ok (.aload_n 0, 1) := by decide +kernel
theorem dX7_passDay_33 : decode cX7_passDay 33 = .ok (.getfield 54, 3) := by decide +kernel
theorem dX7_passDay_36 : decode cX7_passDay 36 = .ok (.iload_n 1, 1) := by decide +kernel
theorem dX7_passDay_37 : decode cX7_passDay 37 = .ok (.invokevirtual 250, 3) := by decide +kernel
theorem dX7_passDay_40 : decode cX7_passDay 40 = .ok (.istore_n 3, 1) := by decide +kernel
theorem dX7_passDay_41 : decode cX7_passDay 41 = .ok (.aload_n 0, 1) := by decide +kernel
theorem dX7_passDay_42 : decode cX7_passDay 42 = .ok (.getfield 54, 3) := by decide +kernel
theorem dX7_passDay_45 : decode cX7_passDay 45 = .ok (.iload_n 2, 1) := by decide +kernel
theorem dX7_passDay_46 : decode cX7_passDay 46 = .ok (.iload_n 1, 1) := by decide +kernel
theorem dX7_passDay_47 : decode cX7_passDay 47 = .ok (.iload_n 3, 1) := by decide +kernel
theorem dX7_passDay_48 : decode cX7_passDay 48 = .ok (.invokevirtual 320, 3) := by decide +kernel
theorem dX7_passDay_51 : decode cX7_passDay 51 = .ok (.iload_n 1, 1) := by decide +kernel
theorem dX7_passDay_52 : decode cX7_passDay 52 = .ok (.invokestatic 160, 3) := by decide +kernel
theorem dX7_passDay_55 : decode cX7_passDay 55 = .ok (.ireturn, 1) := by decide +kernel
theorem dX7_chance_0 : decode cX7_chance 0 = .ok (.aload_n 0, 1) := by decide +kernel
theorem dX7_chance_1 : decode cX7_chance 1 = .ok (.iload_n 1, 1) := by decide +kernel
theorem dX7_chance_2 : decode cX7_chance 2 = .ok (.invokevirtual 314, 3) := by decide +kernel
theorem dX7_chance_5 : decode cX7_chance 5 = .ok (.ifCond .ne 10, 3) := by decide +kernel
theorem dX7_chance_8 : decode cX7_chance 8 = .ok (.aload_n 0, 1) := by decide +kernel
theorem dX7_chance_9 : decode cX7_chance 9 = .ok (.iconst 3, 1) := by decide +kernel
theorem dX7_chance_10 : decode cX7_chance 10 = .ok (.invokevirtual 92, 3) := by decide +kernel
theorem dX7_chance_13 : decode cX7_chance 13 = .ok (.iconst (-1), 1) := by decide +kernel
theorem dX7_chance_14 : decode cX7_chance 14 = .ok (.ireturn, 1) := by decide +kernel
theorem dX7_chance_15 : decode cX7_chance 15 = .ok (.aload_n 0, 1) := by decide +kernel
theorem dX7_chance_16 : decode cX7_chance 16 = .ok (.getfield 64, 3) := by decide +kernel
theorem dX7_chance_19 : decode cX7_chance 19 = .ok (.aload_n 0, 1) := by decide +kernel
theorem dX7_chance_20 : decode cX7_chance 20 = .ok (.getfield 54, 3) := by decide +kernel
theorem dX7_chance_23 : decode cX7_chance 23 = .ok (.invokevirtual 308, 3) := by decide +kernel
theorem dX7_chance_26 : decode cX7_chance 26 = .ok (.iconst 0, 1) := by decide +kernel
theorem dX7_chance_27 : decode cX7_chance 27 = .ok (.istore_n 2, 1) := by decide +kernel
theorem dX7_chance_28 : decode cX7_chance 28 = .ok (.iconst 0, 1) := by decide +kernel
theorem dX7_chance_29 : decode cX7_chance 29 = .ok (.istore_n 3, 1) := by decide +kernel
theorem dX7_chance_30 : decode cX7_chance 30 = .ok (.iload_n 3, 1) := by decide +kernel
theorem dX7_chance_31 : decode cX7_chance 31 = .ok (.iload_n 1, 1) := by decide +kernel
theorem dX7_chance_32 : decode cX7_chance 32 = .ok (.if_icmp .ge 21, 3) := by decide +kernel
theorem dX7_chance_35 : decode cX7_chance 35 = .ok (.iload_n 2, 1) := by decide +kernel
theorem dX7_chance_36 : decode cX7_chance 36 = .ok (.aload_n 0, 1) := by decide +kernel
theorem dX7_chance_37 : decode cX7_chance 37 = .ok (.invokevirtual 324, 3) := by decide +kernel
theorem dX7_chance_40 : decode cX7_chance 40 = .ok (.iadd, 1) := by decide +kernel
theorem dX7_chance_41 : decode cX7_chance 41 = .ok (.istore_n 2, 1) := by decide +kernel
theorem dX7_chance_42 : decode cX7_chance 42 = .ok (.aload_n 0, 1) := by decide +kernel
theorem dX7_chance_43 : decode cX7_chance 43 = .ok (.invokevirtual 317, 3) := by decide +kernel
theorem dX7_chance_46 : decode cX7_chance 46 = .ok (.pop, 1) := by decide +kernel
theorem dX7_chance_47 : decode cX7_chance 47 = .ok (.iinc 3 1, 3) := by decide +kernel
theorem dX7_chance_50 : decode cX7_chance 50 = .ok (.goto (-20), 3) := by decide +kernel
theorem dX7_chance_53 : decode cX7_chance 53 = .ok (.iload_n 2, 1) := by decide +kernel
theorem dX7_chance_54 : decode cX7_chance 54 = .ok (.ireturn, 1) := by decide +kernel
theorem dX7_drawDeath_0 : decode cX7_drawDeath 0 = .ok (.aload_n 0, 1) := by decide +kernel
theorem dX7_drawDeath_1 : decode cX7_drawDeath 1 = .ok (.bipush 100, 2) := by decide +kernel
theorem dX7_drawDeath_3 : decode cX7_drawDeath 3 = .ok (.invokevirtual 327, 3) := by decide +kernel
theorem dX7_drawDeath_6 : decode cX7_drawDeath 6 = .ok (.istore_n 1, 1) := by decide +kernel
theorem dX7_drawDeath_7 : decode cX7_drawDeath 7 = .ok (.aload_n 0, 1) := by decide +kernel
theorem dX7_drawDeath_8 : decode cX7_drawDeath 8 = .ok (.invokevirtual 150, 3) := by decide +kernel
theorem dX7_drawDeath_11 : decode cX7_drawDeath 11 = .ok (.istore_n 2, 1) := by decide +kernel
theorem dX7_drawDeath_12 : decode cX7_drawDeath 12 = .ok (.iload_n 1, 1) := by decide +kernel
theorem dX7_drawDeath_13 : decode cX7_drawDeath 13 = .ok (.aload_n 0, 1) := by decide +kernel
theorem dX7_drawDeath_14 : decode cX7_drawDeath 14 = .ok (.getfield 27, 3) := by decide +kernel
theorem dX7_drawDeath_17 : decode cX7_drawDeath 17 = .ok (.getfield 330, 3) := by decide +kernel
theorem dX7_drawDeath_20 : decode cX7_drawDeath 20 = .ok (.if_icmp .ge 7, 3) := by decide +kernel
theorem dX7_drawDeath_23 : decode cX7_drawDeath 23 = .ok (.iload_n 2, 1) := by decide +kernel
theorem dX7_drawDeath_24 : decode cX7_drawDeath 24 = .ok (.ifCond .ne 5, 3) := by decide +kernel
theorem dX7_drawDeath_27 : decode cX7_drawDeath 27 = .ok (.iconst 0, 1) := by decide +kernel
theorem dX7_drawDeath_28 : decode cX7_drawDeath 28 = .ok (.ireturn, 1) := by decide +kernel
theorem dX7_drawDeath_29 : decode cX7_drawDeath 29 = .ok (.aload_n 0, 1) := by decide +kernel
theorem dX7_drawDeath_30 : decode cX7_drawDeath 30 = .ok (.iload_n 2, 1) := by decide +kernel
theorem dX7_drawDeath_31 : decode cX7_drawDeath 31 = .ok (.invokevirtual 327, 3) := by decide +kernel
theorem dX7_drawDeath_34 : decode cX7_drawDeath 34 = .ok (.istore_n 3, 1) := by decide +kernel
theorem dX7_drawDeath_35 : decode cX7_drawDeath 35 = .ok (.iconst 0, 1) := by decide +kernel
theorem dX7_drawDeath_36 : decode cX7_drawDeath 36 = .ok (.istore 4, 2) := by decide +kernel
theorem dX7_drawDeath_38 : decode cX7_drawDeath 38 = .ok (.iload 4, 2) := by decide +kernel
theorem dX7_drawDeath_40 : decode cX7_drawDeath 40 = .ok (.aload_n 0, 1) := by decide +kernel
theorem dX7_drawDeath_41 : decode cX7_drawDeath 41 = .ok (.getfield 27, 3) := by decide +kernel
theorem dX7_drawDeath_44 : decode cX7_drawDeath 44 = .ok (.getfield 138, 3) := by decide +kernel
theorem dX7_drawDeath_47 : decode cX7_drawDeath 47 = .ok (.if_icmp .ge 47, 3) := by decide +kernel
theorem dX7_drawDeath_50 : decode cX7_drawDeath 50 = .ok (.aload_n 0, 1) := by decide +kernel
theorem dX7_drawDeath_51 : decode cX7_drawDeath 51 = .ok (.getfield 54, 3) := by decide +kernel
theorem dX7_drawDeath_54 : decode cX7_drawDeath 54 = .ok (.iload 4, 2) := by decide +kernel
theorem dX7_drawDeath_56 : decode cX7_drawDeath 56 = .ok (.invokevirtual 171, 3) := by decide +kernel
theorem dX7_drawDeath_59 : decode cX7_drawDeath 59 = .ok (.ifCond .ne 29, 3) := by decide +kernel
theorem dX7_drawDeath_62 : decode cX7_drawDeath 62 = .ok (.iload_n 3, 1) := by decide +kernel
theorem dX7_drawDeath_63 : decode cX7_drawDeath 63 = .ok (.ifCond .ne 22, 3) := by decide +kernel
theorem dX7_drawDeath_66 : decode cX7_drawDeath 66 = .ok (.aload_n 0, 1) := by decide +kernel
theorem dX7_drawDeath_67 : decode cX7_drawDeath 67 = .ok (.getfield 54, 3) := by decide +kernel
theorem dX7_drawDeath_70 : decode cX7_drawDeath 70 = .ok (.getfield 209, 3) := by decide +kernel
theorem dX7_drawDeath_73 : decode cX7_drawDeath 73 = .ok (.iload 4, 2) := by decide +kernel
theorem dX7_drawDeath_75 : decode cX7_drawDeath 75 = .ok (.aload_n 0, 1) := by decide +kernel
theorem dX7_drawDeath_76 : decode cX7_drawDeath 76 = .ok (.getfield 54, 3) := by decide +kernel
theorem dX7_drawDeath_79 : decode cX7_drawDeath 79 = .ok (.getfield 144, 3) := by decide +kernel
theorem dX7_drawDeath_82 : decode cX7_drawDeath 82 = .ok (.iastore, 1) := by decide +kernel
theorem dX7_drawDeath_83 : decode cX7_drawDeath 83 = .ok (.iconst 1, 1) := by decide +kernel
theorem dX7_drawDeath_84 : decode cX7_drawDeath 84 = .ok (.ireturn, 1) := by decide +kernel
theorem dX7_drawDeath_85 : decode cX7_drawDeath 85 = .ok (.iinc 3 (-1), 3) := by decide +kernel
theorem dX7_drawDeath_88 : decode cX7_drawDeath 88 = .ok (.iinc 4 1, 3) := by decide +kernel
theorem dX7_drawDeath_91 : decode cX7_drawDeath 91 = .ok (.goto (-53), 3) := by decide +kernel
theorem dX7_drawDeath_94 : decode cX7_drawDeath 94 = .ok (.iconst 0, 1) := by decide +kernel
theorem dX7_drawDeath_95 : decode cX7_drawDeath 95 = .ok (.ireturn, 1) := by decide +kernel
theorem dX7_draw_0 : decode cX7_draw 0 = .ok (.aload_n 0, 1) := by decide +kernel
theorem dX7_draw_1 : decode cX7_draw 1 = .ok (.ldc2_w 333, 3) := by decide +kernel
theorem dX7_draw_4 : decode cX7_draw 4 = .ok (.aload_n 0, 1) := by decide +kernel
theorem dX7_draw_5 : decode cX7_draw 5 = .ok (.getfield 89, 3) := by decide +kernel
theorem dX7_draw_8 : decode cX7_draw 8 = .ok (.i2l, 1) := by decide +kernel
theorem dX7_draw_9 : decode cX7_draw 9 = .ok (.lmul, 1) := by decide +kernel
theorem dX7_draw_10 : decode cX7_draw 10 = .ok (.ldc2_w 335, 3) := by decide +kernel
theorem dX7_draw_13 : decode cX7_draw 13 = .ok (.ladd, 1) := by decide +kernel
theorem dX7_draw_14 : decode cX7_draw 14 = .ok (.ldc2_w 337, 3) := by decide +kernel
theorem dX7_draw_17 : decode cX7_draw 17 = .ok (.land, 1) := by decide +kernel
theorem dX7_draw_18 : decode cX7_draw 18 = .ok (.l2i, 1) := by decide +kernel
theorem dX7_draw_19 : decode cX7_draw 19 = .ok (.putfield 89, 3) := by decide +kernel
theorem dX7_draw_22 : decode cX7_draw 22 = .ok (.iload_n 1, 1) := by decide +kernel
theorem dX7_draw_23 : decode cX7_draw 23 = .ok (.ifCond .le 15, 3) := by decide +kernel
theorem dX7_draw_26 : decode cX7_draw 26 = .ok (.aload_n 0, 1) := by decide +kernel
theorem dX7_draw_27 : decode cX7_draw 27 = .ok (.getfield 89, 3) := by decide +kernel
theorem dX7_draw_30 : decode cX7_draw 30 = .ok (.bipush 64, 2) := by decide +kernel
theorem dX7_draw_32 : decode cX7_draw 32 = .ok (.idiv, 1) := by decide +kernel
theorem dX7_draw_33 : decode cX7_draw 33 = .ok (.iload_n 1, 1) := by decide +kernel
theorem dX7_draw_34 : decode cX7_draw 34 = .ok (.irem, 1) := by decide +kernel
theorem dX7_draw_35 : decode cX7_draw 35 = .ok (.goto 4, 3) := by decide +kernel
theorem dX7_draw_38 : decode cX7_draw 38 = .ok (.iconst 0, 1) := by decide +kernel
theorem dX7_draw_39 : decode cX7_draw 39 = .ok (.ireturn, 1) := by decide +kernel
theorem dX7_undo_0 : decode cX7_undo 0 = .ok (.aload_n 0, 1) := by decide +kernel
theorem dX7_undo_1 : decode cX7_undo 1 = .ok (.getfield 64, 3) := by decide +kernel
theorem dX7_undo_4 : decode cX7_undo 4 = .ok (.getfield 168, 3) := by decide +kernel
theorem dX7_undo_7 : decode cX7_undo 7 = .ok (.ifCond .ne 10, 3) := by decide +kernel
theorem dX7_undo_10 : decode cX7_undo 10 = .ok (.aload_n 0, 1) := by decide +kernel
theorem dX7_undo_11 : decode cX7_undo 11 = .ok (.iconst 4, 1) := by decide +kernel
theorem dX7_undo_12 : decode cX7_undo 12 = .ok (.invokevirtual 92, 3) := by decide +kernel
theorem dX7_undo_15 : decode cX7_undo 15 = .ok (.iconst 0, 1) := by decide +kernel
theorem dX7_undo_16 : decode cX7_undo 16 = .ok (.ireturn, 1) := by decide +kernel
theorem dX7_undo_17 : decode cX7_undo 17 = .ok (.aload_n 0, 1) := by decide +kernel
theorem dX7_undo_18 : decode cX7_undo 18 = .ok (.getfield 64, 3) := by decide +kernel
theorem dX7_undo_21 : decode cX7_undo 21 = .ok (.aload_n 0, 1) := by decide +kernel
theorem dX7_undo_22 : decode cX7_undo 22 = .ok (.getfield 54, 3) := by decide +kernel
theorem dX7_undo_25 : decode cX7_undo 25 = .ok (.invokevirtual 339, 3) := by decide +kernel
theorem dX7_undo_28 : decode cX7_undo 28 = .ok (.iconst 1, 1) := by decide +kernel
theorem dX7_undo_29 : decode cX7_undo 29 = .ok (.ireturn, 1) := by decide +kernel
theorem dX7_seed_0 : decode cX7_seed 0 = .ok (.iload_n 1, 1) := by decide +kernel
theorem dX7_seed_1 : decode cX7_seed 1 = .ok (.ifCond .ge 10, 3) := by decide +kernel
theorem dX7_seed_4 : decode cX7_seed 4 = .ok (.aload_n 0, 1) := by decide +kernel
theorem dX7_seed_5 : decode cX7_seed 5 = .ok (.iconst 5, 1) := by decide +kernel
theorem dX7_seed_6 : decode cX7_seed 6 = .ok (.invokevirtual 92, 3) := by decide +kernel
theorem dX7_seed_9 : decode cX7_seed 9 = .ok (.iconst 0, 1) := by decide +kernel
theorem dX7_seed_10 : decode cX7_seed 10 = .ok (.ireturn, 1) := by decide +kernel
theorem dX7_seed_11 : decode cX7_seed 11 = .ok (.aload_n 0, 1) := by decide +kernel
theorem dX7_seed_12 : decode cX7_seed 12 = .ok (.iload_n 1, 1) := by decide +kernel
theorem dX7_seed_13 : decode cX7_seed 13 = .ok (.putfield 89, 3) := by decide +kernel
theorem dX7_seed_16 : decode cX7_seed 16 = .ok (.iconst 1, 1) := by decide +kernel
theorem dX7_seed_17 : decode cX7_seed 17 = .ok (.ireturn, 1) := by decide +kernel
theorem dX7_ask_0 : decode cX7_ask 0 = .ok (.aload_n 0, 1) := by decide +kernel
theorem dX7_ask_1 : decode cX7_ask 1 = .ok (.invokevirtual 103, 3) := by decide +kernel
theorem dX7_ask_4 : decode cX7_ask 4 = .ok (.istore_n 1, 1) := by decide +kernel
theorem dX7_ask_5 : decode cX7_ask 5 = .ok (.aload_n 0, 1) := by decide +kernel
theorem dX7_ask_6 : decode cX7_ask 6 = .ok (.getfield 34, 3) := by decide +kernel
theorem dX7_ask_9 : decode cX7_ask 9 = .ok (.ifCond .ne 7, 3) := by decide +kernel
theorem dX7_ask_12 : decode cX7_ask 12 = .ok (.ldc2_w 226, 3) := by decide +kernel
theorem dX7_ask_15 : decode cX7_ask 15 = .ok (.lreturn, 1) := by decide +kernel
theorem dX7_ask_16 : decode cX7_ask 16 = .ok (.aload_n 0, 1) := by decide +kernel
theorem dX7_ask_17 : decode cX7_ask 17 = .ok (.getfield 20, 3) := by decide +kernel
theorem dX7_ask_20 : decode cX7_ask 20 = .ok (.aload_n 0, 1) := by decide +kernel
theorem dX7_ask_21 : decode cX7_ask 21 = .ok (.getfield 9, 3) := by decide +kernel
theorem dX7_ask_24 : decode cX7_ask 24 = .ok (.iload_n 1, 1) := by decide +kernel
theorem dX7_ask_25 : decode cX7_ask 25 = .ok (.invokevirtual 342, 3) := by decide +kernel
theorem dX7_ask_28 : decode cX7_ask 28 = .ok (.aload_n 0, 1) := by decide +kernel
theorem dX7_ask_29 : decode cX7_ask 29 = .ok (.invokevirtual 111, 3) := by decide +kernel
theorem dX7_ask_32 : decode cX7_ask 32 = .ok (.aload_n 0, 1) := by decide +kernel
theorem dX7_ask_33 : decode cX7_ask 33 = .ok (.getfield 38, 3) := by decide +kernel
theorem dX7_ask_36 : decode cX7_ask 36 = .ok (.ifCond .eq 9, 3) := by decide +kernel
theorem dX7_ask_39 : decode cX7_ask 39 = .ok (.ldc2_w 226, 3) := by decide +kernel
theorem dX7_ask_42 : decode cX7_ask 42 = .ok (.goto 14, 3) := by decide +kernel
theorem dX7_ask_45 : decode cX7_ask 45 = .ok (.aload_n 0, 1) := by decide +kernel
theorem dX7_ask_46 : decode cX7_ask 46 = .ok (.aload_n 0, 1) := by decide +kernel
theorem dX7_ask_47 : decode cX7_ask 47 = .ok (.getfield 20, 3) := by decide +kernel
theorem dX7_ask_50 : decode cX7_ask 50 = .ok (.getfield 346, 3) := by decide +kernel
theorem dX7_ask_53 : decode cX7_ask 53 = .ok (.invokevirtual 349, 3) := by decide +kernel
theorem dX7_ask_56 : decode cX7_ask 56 = .ok (.lreturn, 1) := by decide +kernel
theorem dX7_answer_0 : decode cX7_answer 0 = .ok (.aload_n 0, 1) := by decide +kernel
theorem dX7_answer_1 : decode cX7_answer 1 = .ok (.getfield 47, 3) := by decide +kernel
theorem dX7_answer_4 : decode cX7_answer 4 = .ok (.aload_n 0, 1) := by decide +kernel
theorem dX7_answer_5 : decode cX7_answer 5 = .ok (.getfield 27, 3) := by decide +kernel
theorem dX7_answer_8 : decode cX7_answer 8 = .ok (.aload_n 0, 1) := by decide +kernel
theorem dX7_answer_9 : decode cX7_answer 9 = .ok (.getfield 54, 3) := by decide +kernel
theorem dX7_answer_12 : decode cX7_answer 12 = .ok (.invokevirtual 228, 3) := by decide +kernel
theorem dX7_answer_15 : decode cX7_answer 15 = .ok (.istore_n 2, 1) := by decide +kernel
theorem dX7_answer_16 : decode cX7_answer 16 = .ok (.iload_n 1, 1) := by decide +kernel
theorem dX7_answer_17 : decode cX7_answer 17 = .ok (.bipush 28, 2) := by decide +kernel
theorem dX7_answer_19 : decode cX7_answer 19 = .ok (.if_icmp .eq 9, 3) := by decide +kernel
theorem dX7_answer_22 : decode cX7_answer 22 = .ok (.iload_n 1, 1) := by decide +kernel
theorem dX7_answer_23 : decode cX7_answer 23 = .ok (.bipush 29, 2) := by decide +kernel
theorem dX7_answer_25 : decode cX7_answer 25 = .ok (.if_icmp .ne 9, 3) := by decide +kernel
theorem dX7_answer_28 : decode cX7_answer 28 = .ok (.ldc2_w 353, 3) := by decide +kernel
theorem dX7_answer_31 : decode cX7_answer 31 = .ok (.goto 4, 3) := by decide +kernel
theorem dX7_answer_34 : decode cX7_answer 34 = .ok (.lconst 0, 1) := by decide +kernel
theorem dX7_answer_35 : decode cX7_answer 35 = .ok (.lstore_n 3, 1) := by decide +kernel
theorem dX7_answer_36 : decode cX7_answer 36 = .ok (.iconst 0, 1) := by decide +kernel
theorem dX7_answer_37 : decode cX7_answer 37 = .ok (.istore 5, 2) := by decide +kernel
theorem dX7_answer_39 : decode cX7_answer 39 = .ok (.iload 5, 2) := by decide +kernel
theorem dX7_answer_41 : decode cX7_answer 41 = .ok (.aload_n 0, 1) := by decide +kernel
theorem dX7_answer_42 : decode cX7_answer 42 = .ok (.getfield 27, 3) := by decide +kernel
theorem dX7_answer_45 : decode cX7_answer 45 = .ok (.getfield 138, 3) := by decide +kernel
theorem dX7_answer_48 : decode cX7_answer 48 = .ok (.if_icmp .ge 176, 3) := by decide +kernel
theorem dX7_answer_51 : decode cX7_answer 51 = .ok (.aload_n 0, 1) := by decide +kernel
theorem dX7_answer_52 : decode cX7_answer 52 = .ok (.getfield 47, 3) := by decide +kernel
theorem dX7_answer_55 : decode cX7_answer 55 = .ok (.aload_n 0, 1) := by decide +kernel
theorem dX7_answer_56 : decode cX7_answer 56 = .ok (.getfield 27, 3) := by decide +kernel
theorem dX7_answer_59 : decode cX7_answer 59 = .ok (.aload_n 0, 1) := by decide +kernel
theorem dX7_answer_60 : decode cX7_answer 60 = .ok (.getfield 54, 3) := by decide +kernel
theorem dX7_answer_63 : decode cX7_answer 63 = .ok (.iload 5, 2) := by decide +kernel
theorem dX7_answer_65 : decode cX7_answer 65 = .ok (.invokevirtual 355, 3) := by decide +kernel
theorem dX7_answer_68 : decode cX7_answer 68 = .ok (.aload_n 0, 1) := by decide +kernel
theorem dX7_answer_69 : decode cX7_answer 69 = .ok (.getfield 47, 3) := by decide +kernel
theorem dX7_answer_72 : decode cX7_answer 72 = .ok (.iload_n 2, 1) := by decide +kernel
theorem dX7_answer_73 : decode cX7_answer 73 = .ok (.iload 5, 2) := by decide +kernel
theorem dX7_answer_75 : decode cX7_answer 75 = .ok (.ishr, 1) := by decide +kernel
theorem dX7_answer_76 : decode cX7_answer 76 = .ok (.iconst 1, 1) := by decide +kernel
theorem dX7_answer_77 : decode cX7_answer 77 = .ok (.iand, 1) := by decide +kernel
theorem dX7_answer_78 : decode cX7_answer 78 = .ok (.invokevirtual 358, 3) := by decide +kernel
theorem dX7_answer_81 : decode cX7_answer 81 = .ok (.aload_n 0, 1) := by decide +kernel
theorem dX7_answer_82 : decode cX7_answer 82 = .ok (.getfield 47, 3) := by decide +kernel
theorem dX7_answer_85 : decode cX7_answer 85 = .ok (.aload_n 0, 1) := by decide +kernel
theorem dX7_answer_86 : decode cX7_answer 86 = .ok (.getfield 20, 3) := by decide +kernel
theorem dX7_answer_89 : decode cX7_answer 89 = .ok (.getfield 361, 3) := by decide +kernel
theorem dX7_answer_92 : decode cX7_answer 92 = .ok (.iconst 0, 1) := by decide +kernel
theorem dX7_answer_93 : decode cX7_answer 93 = .ok (.invokevirtual 365, 3) := by decide +kernel
theorem dX7_answer_96 : decode cX7_answer 96 = .ok (.i2l, 1) := by decide +kernel
theorem dX7_answer_97 : decode cX7_answer 97 = .ok (.lstore 6, 2) := by decide +kernel
theorem dX7_answer_99 : decode cX7_answer 99 = .ok (.iload_n 1, 1) := by decide +kernel
theorem dX7_answer_100 : decode cX7_answer 100 = .ok (.bipush 28, 2) := by decide +kernel
theorem dX7_answer_102 : decode cX7_answer 102 = .ok (.if_icmp .ne 29, 3) := by decide +kernel
theorem dX7_answer_105 : decode cX7_answer 105 = .ok (.lload 6, 2) := by decide +kernel
theorem dX7_answer_107 : decode cX7_answer 107 = .ok (.lconst 0, 1) := by decide +kernel
theorem dX7_answer_108 : decode cX7_answer 108 = .ok (.lcmp, 1) := by decide +kernel
theorem dX7_answer_109 : decode cX7_answer 109 = .ok (.ifCond .eq 17, 3) := by decide +kernel
theorem dX7_answer_112 : decode cX7_answer 112 = .ok (.lload_n 3, 1) := by decide +kernel
theorem dX7_answer_113 : decode cX7_answer 113 = .ok (.ldc2_w 353, 3) := by decide +kernel
theorem dX7_answer_116 : decode cX7_answer 116 = .ok (.lcmp, 1) := by decide +kernel
theorem dX7_answer_117 : decode cX7_answer 117 = .ok (.ifCond .ne 9, 3) := by decide +kernel
theorem dX7_answer_120 : decode cX7_answer 120 = .ok (.iload 5, 2) := by decide +kernel
theorem dX7_answer_122 : decode cX7_answer 122 = .ok (.i2l, 1) := by decide +kernel
theorem dX7_answer_123 : decode cX7_answer 123 = .ok (.goto 4, 3) := by decide +kernel
theorem dX7_answer_126 : decode cX7_answer 126 = .ok (.lload_n 3, 1) := by decide +kernel
theorem dX7_answer_127 : decode cX7_answer 127 = .ok (.lstore_n 3, 1) := by decide +kernel
theorem dX7_answer_128 : decode cX7_answer 128 = .ok (.goto 90, 3) := by decide +kernel
theorem dX7_answer_131 : decode cX7_answer 131 = .ok (.iload_n 1, 1) := by decide +kernel
theorem dX7_answer_132 : decode cX7_answer 132 = .ok (.bipush 29, 2) := by decide +kernel
theorem dX7_answer_134 : decode cX7_answer 134 = .ok (.if_icmp .ne 21, 3) := by decide +kernel
theorem dX7_answer_137 : decode cX7_answer 137 = .ok (.lload 6, 2) := by decide +kernel
theorem dX7_answer_139 : decode cX7_answer 139 = .ok (.lconst 0, 1) := by decide +kernel
theorem dX7_answer_140 : decode cX7_answer 140 = .ok (.lcmp, 1) := by decide +kernel
theorem dX7_answer_141 : decode cX7_answer 141 = .ok (.ifCond .eq 9, 3) := by decide +kernel
theorem dX7_answer_144 : decode cX7_answer 144 = .ok (.iload 5, 2) := by decide +kernel
theorem dX7_answer_146 : decode cX7_answer 146 = .ok (.i2l, 1) := by decide +kernel
theorem dX7_answer_147 : decode cX7_answer 147 = .ok (.goto 4, 3) := by decide +kernel
theorem dX7_answer_150 : decode cX7_answer 150 = .ok (.lload_n 3, 1) := by decide +kernel
theorem dX7_answer_151 : decode cX7_answer 151 = .ok (.lstore_n 3, 1) := by decide +kernel
theorem dX7_answer_152 : decode cX7_answer 152 = .ok (.goto 66, 3) := by decide +kernel
theorem dX7_answer_155 : decode cX7_answer 155 = .ok (.iload_n 1, 1) := by decide +kernel
theorem dX7_answer_156 : decode cX7_answer 156 = .ok (.bipush 30, 2) := by decide +kernel
theorem dX7_answer_158 : decode cX7_answer 158 = .ok (.if_icmp .eq 9, 3) := by decide +kernel
theorem dX7_answer_161 : decode cX7_answer 161 = .ok (.iload_n 1, 1) := by decide +kernel
theorem dX7_answer_162 : decode cX7_answer 162 = .ok (.bipush 31, 2) := by decide +kernel
theorem dX7_answer_164 : decode cX7_answer 164 = .ok (.if_icmp .ne 11, 3) := by decide +kernel
theorem dX7_answer_167 : decode cX7_answer 167 = .ok (.lload_n 3, 1) := by decide +kernel
theorem dX7_answer_168 : decode cX7_answer 168 = .ok (.lload 6, 2) := by decide +kernel
theorem dX7_answer_170 : decode cX7_answer 170 = .ok (.ladd, 1) := by decide +kernel
theorem dX7_answer_171 : decode cX7_answer 171 = .ok (.lstore_n 3, 1) := by decide +kernel
theorem dX7_answer_172 : decode cX7_answer 172 = .ok (.goto 46, 3) := by decide +kernel
theorem dX7_answer_175 : decode cX7_answer 175 = .ok (.iload_n 1, 1) := by decide +kernel
theorem dX7_answer_176 : decode cX7_answer 176 = .ok (.bipush 32, 2) := by decide +kernel
theorem dX7_answer_178 : decode cX7_answer 178 = .ok (.if_icmp .ne 23, 3) := by decide +kernel
theorem dX7_answer_181 : decode cX7_answer 181 = .ok (.iload 5, 2) := by decide +kernel
theorem dX7_answer_183 : decode cX7_answer 183 = .ok (.ifCond .ne 8, 3) := by decide +kernel
theorem dX7_answer_186 : decode cX7_answer 186 = .ok (.lload 6, 2) := by decide +kernel
theorem dX7_answer_188 : decode cX7_answer 188 = .ok (.goto 9, 3) := by decide +kernel
theorem dX7_answer_191 : decode cX7_answer 191 = .ok (.lload_n 3, 1) := by decide +kernel
theorem dX7_answer_192 : decode cX7_answer 192 = .ok (.lload 6, 2) := by decide +kernel
theorem dX7_answer_194 : decode cX7_answer 194 = .ok (.invokestatic 369, 3) := by decide +kernel
theorem dX7_answer_197 : decode cX7_answer 197 = .ok (.lstore_n 3, 1) := by decide +kernel
theorem dX7_answer_198 : decode cX7_answer 198 = .ok (.goto 20, 3) := by decide +kernel
theorem dX7_answer_201 : decode cX7_answer 201 = .ok (.iload 5, 2) := by decide +kernel
theorem dX7_answer_203 : decode cX7_answer 203 = .ok (.ifCond .ne 8, 3) := by decide +kernel
theorem dX7_answer_206 : decode cX7_answer 206 = .ok (.lload 6, 2) := by decide +kernel
theorem dX7_answer_208 : decode cX7_answer 208 = .ok (.goto 9, 3) := by decide +kernel
theorem dX7_answer_211 : decode cX7_answer 211 = .ok (.lload_n 3, 1) := by decide +kernel
theorem dX7_answer_212 : decode cX7_answer 212 = .ok (.lload 6, 2) := by decide +kernel
theorem dX7_answer_214 : decode cX7_answer 214 = .ok (.invokestatic 372, 3) := by decide +kernel
theorem dX7_answer_217 : decode cX7_answer 217 = .ok (.lstore_n 3, 1) := by decide +kernel
theorem dX7_answer_218 : decode cX7_answer 218 = .ok (.iinc 5 1, 3) := by decide +kernel
theorem dX7_answer_221 : decode cX7_answer 221 = .ok (.goto (-182), 3) := by decide +kernel
theorem dX7_answer_224 : decode cX7_answer 224 = .ok (.lload_n 3, 1) := by decide +kernel
theorem dX7_answer_225 : decode cX7_answer 225 = .ok (.lreturn, 1) := by decide +kernel
theorem dX7_image_0 : decode cX7_image 0 = .ok (.aload_n 0, 1) := by decide +kernel
theorem dX7_image_1 : decode cX7_image 1 = .ok (.iconst 0, 1) := by decide +kernel
theorem dX7_image_2 : decode cX7_image 2 = .ok (.putfield 83, 3) := by decide +kernel
theorem dX7_image_5 : decode cX7_image 5 = .ok (.aload_n 0, 1) := by decide +kernel
theorem dX7_image_6 : decode cX7_image 6 = .ok (.aload_n 0, 1) := by decide +kernel
theorem dX7_image_7 : decode cX7_image 7 = .ok (.getfield 54, 3) := by decide +kernel
theorem dX7_image_10 : decode cX7_image 10 = .ok (.getfield 144, 3) := by decide +kernel
theorem dX7_image_13 : decode cX7_image 13 = .ok (.invokevirtual 374, 3) := by decide +kernel
theorem dX7_image_16 : decode cX7_image 16 = .ok (.aload_n 0, 1) := by decide +kernel
theorem dX7_image_17 : decode cX7_image 17 = .ok (.aload_n 0, 1) := by decide +kernel
theorem dX7_image_18 : decode cX7_image 18 = .ok (.getfield 54, 3) := by decide +kernel
theorem dX7_image_21 : decode cX7_image 21 = .ok (.getfield 147, 3) := by decide +kernel
theorem dX7_image_24 : decode cX7_image 24 = .ok (.invokevirtual 374, 3) := by decide +kernel
theorem dX7_image_27 : decode cX7_image 27 = .ok (.iconst 0, 1) := by decide +kernel
theorem dX7_image_28 : decode cX7_image 28 = .ok (.istore_n 1, 1) := by decide +kernel
theorem dX7_image_29 : decode cX7_image 29 = .ok (.iload_n 1, 1) := by decide +kernel
theorem dX7_image_30 : decode cX7_image 30 = .ok (.aload_n 0, 1) := by decide +kernel
theorem dX7_image_31 : decode cX7_image 31 = .ok (.getfield 27, 3) := by decide +kernel
theorem dX7_image_34 : decode cX7_image 34 = .ok (.getfield 138, 3) := by decide +kernel
theorem dX7_image_37 : decode cX7_image 37 = .ok (.if_icmp .ge 76, 3) := by decide +kernel
theorem dX7_image_40 : decode cX7_image 40 = .ok (.aload_n 0, 1) := by decide +kernel
theorem dX7_image_41 : decode cX7_image 41 = .ok (.aload_n 0, 1) := by decide +kernel
theorem dX7_image_42 : decode cX7_image 42 = .ok (.getfield 54, 3) := by decide +kernel
theorem dX7_image_45 : decode cX7_image 45 = .ok (.getfield 206, 3) := by decide +kernel
theorem dX7_image_48 : decode cX7_image 48 = .ok (.iload_n 1, 1) := by decide +kernel
theorem dX7_image_49 : decode cX7_image 49 = .ok (.iaload, 1) := by decide +kernel
theorem dX7_image_50 : decode cX7_image 50 = .ok (.invokevirtual 377, 3) := by decide +kernel
theorem dX7_image_53 : decode cX7_image 53 = .ok (.aload_n 0, 1) := by decide +kernel
theorem dX7_image_54 : decode cX7_image 54 = .ok (.aload_n 0, 1) := by decide +kernel
theorem dX7_image_55 : decode cX7_image 55 = .ok (.getfield 54, 3) := by decide +kernel
theorem dX7_image_58 : decode cX7_image 58 = .ok (.getfield 209, 3) := by decide +kernel
theorem dX7_image_61 : decode cX7_image 61 = .ok (.iload_n 1, 1) := by decide +kernel
theorem dX7_image_62 : decode cX7_image 62 = .ok (.iaload, 1) := by decide +kernel
theorem dX7_image_63 : decode cX7_image 63 = .ok (.invokevirtual 374, 3) := by decide +kernel
theorem dX7_image_66 : decode cX7_image 66 = .ok (.aload_n 0, 1) := by decide +kernel
theorem dX7_image_67 : decode cX7_image 67 = .ok (.aload_n 0, 1) := by decide +kernel
theorem dX7_image_68 : decode cX7_image 68 = .ok (.getfield 54, 3) := by decide +kernel
theorem dX7_image_71 : decode cX7_image 71 = .ok (.getfield 175, 3) := by decide +kernel
theorem dX7_image_74 : decode cX7_image 74 = .ok (.iload_n 1, 1) := by decide +kernel
theorem dX7_image_75 : decode cX7_image 75 = .ok (.iaload, 1) := by decide +kernel
theorem dX7_image_76 : decode cX7_image 76 = .ok (.invokevirtual 377, 3) := by decide +kernel
theorem dX7_image_79 : decode cX7_image 79 = .ok (.aload_n 0, 1) := by decide +kernel
theorem dX7_image_80 : decode cX7_image 80 = .ok (.aload_n 0, 1) := by decide +kernel
theorem dX7_image_81 : decode cX7_image 81 = .ok (.getfield 54, 3) := by decide +kernel
theorem dX7_image_84 : decode cX7_image 84 = .ok (.getfield 380, 3) := by decide +kernel
theorem dX7_image_87 : decode cX7_image 87 = .ok (.iload_n 1, 1) := by decide +kernel
theorem dX7_image_88 : decode cX7_image 88 = .ok (.iaload, 1) := by decide +kernel
theorem dX7_image_89 : decode cX7_image 89 = .ok (.iconst 1, 1) := by decide +kernel
theorem dX7_image_90 : decode cX7_image 90 = .ok (.iadd, 1) := by decide +kernel
theorem dX7_image_91 : decode cX7_image 91 = .ok (.invokevirtual 374, 3) := by decide +kernel
theorem dX7_image_94 : decode cX7_image 94 = .ok (.aload_n 0, 1) := by decide +kernel
theorem dX7_image_95 : decode cX7_image 95 = .ok (.aload_n 0, 1) := by decide +kernel
theorem dX7_image_96 : decode cX7_image 96 = .ok (.getfield 54, 3) := by decide +kernel
theorem dX7_image_99 : decode cX7_image 99 = .ok (.getfield 212, 3) := by decide +kernel
theorem dX7_image_102 : decode cX7_image 102 = .ok (.iload_n 1, 1) := by decide +kernel
theorem dX7_image_103 : decode cX7_image 103 = .ok (.iaload, 1) := by decide +kernel
theorem dX7_image_104 : decode cX7_image 104 = .ok (.invokevirtual 374, 3) := by decide +kernel
theorem dX7_image_107 : decode cX7_image 107 = .ok (.iinc 1 1, 3) := by decide +kernel
theorem dX7_image_110 : decode cX7_image 110 = .ok (.goto (-81), 3) := by decide +kernel
theorem dX7_image_113 : decode cX7_image 113 = .ok (.sipush 151, 3) := by decide +kernel
theorem dX7_image_116 : decode cX7_image 116 = .ok (.istore_n 1, 1) := by decide +kernel
theorem dX7_image_117 : decode cX7_image 117 = .ok (.iconst 0, 1) := by decide +kernel
theorem dX7_image_118 : decode cX7_image 118 = .ok (.istore_n 2, 1) := by decide +kernel
theorem dX7_image_119 : decode cX7_image 119 = .ok (.iload_n 2, 1) := by decide +kernel
theorem dX7_image_120 : decode cX7_image 120 = .ok (.aload_n 0, 1) := by decide +kernel
theorem dX7_image_121 : decode cX7_image 121 = .ok (.getfield 83, 3) := by decide +kernel
theorem dX7_image_124 : decode cX7_image 124 = .ok (.if_icmp .ge 24, 3) := by decide +kernel
theorem dX7_image_127 : decode cX7_image 127 = .ok (.iconst 3, 1) := by decide +kernel
theorem dX7_image_128 : decode cX7_image 128 = .ok (.iload_n 1, 1) := by decide +kernel
theorem dX7_image_129 : decode cX7_image 129 = .ok (.imul, 1) := by decide +kernel
theorem dX7_image_130 : decode cX7_image 130 = .ok (.aload_n 0, 1) := by decide +kernel
theorem dX7_image_131 : decode cX7_image 131 = .ok (.getfield 80, 3) := by decide +kernel
theorem dX7_image_134 : decode cX7_image 134 = .ok (.iload_n 2, 1) := by decide +kernel
theorem dX7_image_135 : decode cX7_image 135 = .ok (.iaload, 1) := by decide +kernel
theorem dX7_image_136 : decode cX7_image 136 = .ok (.iadd, 1) := by decide +kernel
theorem dX7_image_137 : decode cX7_image 137 = .ok (.sipush 251, 3) := by decide +kernel
theorem dX7_image_140 : decode cX7_image 140 = .ok (.irem, 1) := by decide +kernel
theorem dX7_image_141 : decode cX7_image 141 = .ok (.istore_n 1, 1) := by decide +kernel
theorem dX7_image_142 : decode cX7_image 142 = .ok (.iinc 2 1, 3) := by decide +kernel
theorem dX7_image_145 : decode cX7_image 145 = .ok (.goto (-26), 3) := by decide +kernel
theorem dX7_image_148 : decode cX7_image 148 = .ok (.aload_n 0, 1) := by decide +kernel
theorem dX7_image_149 : decode cX7_image 149 = .ok (.iload_n 1, 1) := by decide +kernel
theorem dX7_image_150 : decode cX7_image 150 = .ok (.invokevirtual 377, 3) := by decide +kernel
theorem dX7_image_153 : decode cX7_image 153 = .ok (.aload_n 0, 1) := by decide +kernel
theorem dX7_image_154 : decode cX7_image 154 = .ok (.getfield 83, 3) := by decide +kernel
theorem dX7_image_157 : decode cX7_image 157 = .ok (.ireturn, 1) := by decide +kernel
theorem dX7_drawByte_0 : decode cX7_drawByte 0 = .ok (.aload_n 0, 1) := by decide +kernel
theorem dX7_drawByte_1 : decode cX7_drawByte 1 = .ok (.getfield 83, 3) := by decide +kernel
theorem dX7_drawByte_4 : decode cX7_drawByte 4 = .ok (.aload_n 0, 1) := by decide +kernel
theorem dX7_drawByte_5 : decode cX7_drawByte 5 = .ok (.getfield 80, 3) := by decide +kernel
theorem dX7_drawByte_8 : decode cX7_drawByte 8 = .ok (.arraylength, 1) := by decide +kernel
theorem dX7_drawByte_9 : decode cX7_drawByte 9 = .ok (.if_icmp .ge 27, 3) := by decide +kernel
theorem dX7_drawByte_12 : decode cX7_drawByte 12 = .ok (.aload_n 0, 1) := by decide +kernel
theorem dX7_drawByte_13 : decode cX7_drawByte 13 = .ok (.getfield 80, 3) := by decide +kernel
theorem dX7_drawByte_16 : decode cX7_drawByte 16 = .ok (.aload_n 0, 1) := by decide +kernel
theorem dX7_drawByte_17 : decode cX7_drawByte 17 = .ok (.getfield 83, 3) := by decide +kernel
theorem dX7_drawByte_20 : decode cX7_drawByte 20 = .ok (.iload_n 1, 1) := by decide +kernel
theorem dX7_drawByte_21 : decode cX7_drawByte 21 = .ok (.sipush 255, 3) := by decide +kernel
theorem dX7_drawByte_24 : decode cX7_drawByte 24 = .ok (.iand, 1) := by decide +kernel
theorem dX7_drawByte_25 : decode cX7_drawByte 25 = .ok (.iastore, 1) := by decide +kernel
theorem dX7_drawByte_26 : decode cX7_drawByte 26 = .ok (.aload_n 0, 1) := by decide +kernel
theorem dX7_drawByte_27 : decode cX7_drawByte 27 = .ok (.dup, 1) := by decide +kernel
theorem dX7_drawByte_28 : decode cX7_drawByte 28 = .ok (.getfield 83, 3) := by decide +kernel
theorem dX7_drawByte_31 : decode cX7_drawByte 31 = .ok (.iconst 1, 1) := by decide +kernel
theorem dX7_drawByte_32 : decode cX7_drawByte 32 = .ok (.iadd, 1) := by decide +kernel
theorem dX7_drawByte_33 : decode cX7_drawByte 33 = .ok (.putfield 83, 3) := by decide +kernel
theorem dX7_drawByte_36 : decode cX7_drawByte 36 = .ok (.return_, 1) := by decide +kernel
theorem dX7_drawPair_0 : decode cX7_drawPair 0 = .ok (.aload_n 0, 1) := by decide +kernel
theorem dX7_drawPair_1 : decode cX7_drawPair 1 = .ok (.iload_n 1, 1) := by decide +kernel
theorem dX7_drawPair_2 : decode cX7_drawPair 2 = .ok (.bipush 8, 2) := by decide +kernel
theorem dX7_drawPair_4 : decode cX7_drawPair 4 = .ok (.ishr, 1) := by decide +kernel
theorem dX7_drawPair_5 : decode cX7_drawPair 5 = .ok (.invokevirtual 377, 3) := by decide +kernel
theorem dX7_drawPair_8 : decode cX7_drawPair 8 = .ok (.aload_n 0, 1) := by decide +kernel
theorem dX7_drawPair_9 : decode cX7_drawPair 9 = .ok (.iload_n 1, 1) := by decide +kernel
theorem dX7_drawPair_10 : decode cX7_drawPair 10 = .ok (.invokevirtual 377, 3) := by decide +kernel
theorem dX7_drawPair_13 : decode cX7_drawPair 13 = .ok (.return_, 1) := by decide +kernel
theorem dX7_octet_0 : decode cX7_octet 0 = .ok (.iload_n 1, 1) := by decide +kernel
theorem dX7_octet_1 : decode cX7_octet 1 = .ok (.ifCond .lt 26, 3) := by decide +kernel
theorem dX7_octet_4 : decode cX7_octet 4 = .ok (.iload_n 1, 1) := by decide +kernel
theorem dX7_octet_5 : decode cX7_octet 5 = .ok (.aload_n 0, 1) := by decide +kernel
theorem dX7_octet_6 : decode cX7_octet 6 = .ok (.getfield 83, 3) := by decide +kernel
theorem dX7_octet_9 : decode cX7_octet 9 = .ok (.if_icmp .ge 18, 3) := by decide +kernel
theorem dX7_octet_12 : decode cX7_octet 12 = .ok (.iload_n 1, 1) := by decide +kernel
theorem dX7_octet_13 : decode cX7_octet 13 = .ok (.bipush 69, 2) := by decide +kernel
theorem dX7_octet_15 : decode cX7_octet 15 = .ok (.if_icmp .ge 12, 3) := by decide +kernel
theorem dX7_octet_18 : decode cX7_octet 18 = .ok (.aload_n 0, 1) := by decide +kernel
theorem dX7_octet_19 : decode cX7_octet 19 = .ok (.getfield 80, 3) := by decide +kernel
theorem dX7_octet_22 : decode cX7_octet 22 = .ok (.iload_n 1, 1) := by decide +kernel
theorem dX7_octet_23 : decode cX7_octet 23 = .ok (.iaload, 1) := by decide +kernel
theorem dX7_octet_24 : decode cX7_octet 24 = .ok (.goto 4, 3) := by decide +kernel
theorem dX7_octet_27 : decode cX7_octet 27 = .ok (.iconst (-1), 1) := by decide +kernel
theorem dX7_octet_28 : decode cX7_octet 28 = .ok (.ireturn, 1) := by decide +kernel
theorem dX7_on_0 : decode cX7_on 0 = .ok (.aload_n 0, 1) := by decide +kernel
theorem dX7_on_1 : decode cX7_on 1 = .ok (.invokevirtual 103, 3) := by decide +kernel
theorem dX7_on_4 : decode cX7_on 4 = .ok (.istore_n 1, 1) := by decide +kernel
theorem dX7_on_5 : decode cX7_on 5 = .ok (.aload_n 0, 1) := by decide +kernel
theorem dX7_on_6 : decode cX7_on 6 = .ok (.getfield 34, 3) := by decide +kernel
theorem dX7_on_9 : decode cX7_on 9 = .ok (.ifCond .eq 11, 3) := by decide +kernel
theorem dX7_on_12 : decode cX7_on 12 = .ok (.aload_n 0, 1) := by decide +kernel
theorem dX7_on_13 : decode cX7_on 13 = .ok (.iload_n 1, 1) := by decide +kernel
theorem dX7_on_14 : decode cX7_on 14 = .ok (.invokevirtual 383, 3) := by decide +kernel
theorem dX7_on_17 : decode cX7_on 17 = .ok (.ifCond .ne 10, 3) := by decide +kernel
theorem dX7_on_20 : decode cX7_on 20 = .ok (.aload_n 0, 1) := by decide +kernel
theorem dX7_on_21 : decode cX7_on 21 = .ok (.iconst 5, 1) := by decide +kernel
theorem dX7_on_22 : decode cX7_on 22 = .ok (.invokevirtual 92, 3) := by decide +kernel
theorem dX7_on_25 : decode cX7_on 25 = .ok (.iconst 0, 1) := by decide +kernel
theorem dX7_on_26 : decode cX7_on 26 = .ok (.ireturn, 1) := by decide +kernel
theorem dX7_on_27 : decode cX7_on 27 = .ok (.aload_n 0, 1) := by decide +kernel
theorem dX7_on_28 : decode cX7_on 28 = .ok (.getfield 54, 3) := by decide +kernel
theorem dX7_on_31 : decode cX7_on 31 = .ok (.aload_n 0, 1) := by decide +kernel
theorem dX7_on_32 : decode cX7_on 32 = .ok (.iconst 0, 1) := by decide +kernel
theorem dX7_on_33 : decode cX7_on 33 = .ok (.invokevirtual 386, 3) := by decide +kernel
theorem dX7_on_36 : decode cX7_on 36 = .ok (.putfield 144, 3) := by decide +kernel
theorem dX7_on_39 : decode cX7_on 39 = .ok (.aload_n 0, 1) := by decide +kernel
theorem dX7_on_40 : decode cX7_on 40 = .ok (.getfield 54, 3) := by decide +kernel
theorem dX7_on_43 : decode cX7_on 43 = .ok (.aload_n 0, 1) := by decide +kernel
theorem dX7_on_44 : decode cX7_on 44 = .ok (.iconst 2, 1) := by decide +kernel
theorem dX7_on_45 : decode cX7_on 45 = .ok (.invokevirtual 386, 3) := by decide +kernel
theorem dX7_on_48 : decode cX7_on 48 = .ok (.putfield 147, 3) := by decide +kernel
theorem dX7_on_51 : decode cX7_on 51 = .ok (.iconst 0, 1) := by decide +kernel
theorem dX7_on_52 : decode cX7_on 52 = .ok (.istore_n 2, 1) := by decide +kernel
theorem dX7_on_53 : decode cX7_on 53 = .ok (.iload_n 2, 1) := by decide +kernel
theorem dX7_on_54 : decode cX7_on 54 = .ok (.aload_n 0, 1) := by decide +kernel
theorem dX7_on_55 : decode cX7_on 55 = .ok (.getfield 27, 3) := by decide +kernel
theorem dX7_on_58 : decode cX7_on 58 = .ok (.getfield 138, 3) := by decide +kernel
theorem dX7_on_61 : decode cX7_on 61 = .ok (.if_icmp .ge 97, 3) := by decide +kernel
theorem dX7_on_64 : decode cX7_on 64 = .ok (.iconst 4, 1) := by decide +kernel
theorem dX7_on_65 : decode cX7_on 65 = .ok (.bipush 8, 2) := by decide +kernel
theorem dX7_on_67 : decode cX7_on 67 = .ok (.iload_n 2, 1) := by decide +kernel
theorem dX7_on_68 : decode cX7_on 68 = .ok (.imul, 1) := by decide +kernel
theorem dX7_on_69 : decode cX7_on 69 = .ok (.iadd, 1) := by decide +kernel
theorem dX7_on_70 : decode cX7_on 70 = .ok (.istore_n 3, 1) := by decide +kernel
theorem dX7_on_71 : decode cX7_on 71 = .ok (.aload_n 0, 1) := by decide +kernel
theorem dX7_on_72 : decode cX7_on 72 = .ok (.getfield 54, 3) := by decide +kernel
theorem dX7_on_75 : decode cX7_on 75 = .ok (.getfield 206, 3) := by decide +kernel
theorem dX7_on_78 : decode cX7_on 78 = .ok (.iload_n 2, 1) := by decide +kernel
theorem dX7_on_79 : decode cX7_on 79 = .ok (.aload_n 0, 1) := by decide +kernel
theorem dX7_on_80 : decode cX7_on 80 = .ok (.iload_n 3, 1) := by decide +kernel
theorem dX7_on_81 : decode cX7_on 81 = .ok (.invokevirtual 99, 3) := by decide +kernel
theorem dX7_on_84 : decode cX7_on 84 = .ok (.iastore, 1) := by decide +kernel
theorem dX7_on_85 : decode cX7_on 85 = .ok (.aload_n 0, 1) := by decide +kernel
theorem dX7_on_86 : decode cX7_on 86 = .ok (.getfield 54, 3) := by decide +kernel
theorem dX7_on_89 : decode cX7_on 89 = .ok (.getfield 209, 3) := by decide +kernel
theorem dX7_on_92 : decode cX7_on 92 = .ok (.iload_n 2, 1) := by decide +kernel
theorem dX7_on_93 : decode cX7_on 93 = .ok (.aload_n 0, 1) := by decide +kernel
theorem dX7_on_94 : decode cX7_on 94 = .ok (.iload_n 3, 1) := by decide +kernel
theorem dX7_on_95 : decode cX7_on 95 = .ok (.iconst 1, 1) := by decide +kernel
theorem dX7_on_96 : decode cX7_on 96 = .ok (.iadd, 1) := by decide +kernel
theorem dX7_on_97 : decode cX7_on 97 = .ok (.invokevirtual 386, 3) := by decide +kernel
theorem dX7_on_100 : decode cX7_on 100 = .ok (.iastore, 1) := by decide +kernel
theorem dX7_on_101 : decode cX7_on 101 = .ok (.aload_n 0, 1) := by decide +kernel
theorem dX7_on_102 : decode cX7_on 102 = .ok (.getfield 54, 3) := by decide +kernel
theorem dX7_on_105 : decode cX7_on 105 = .ok (.getfield 175, 3) := by decide +kernel
theorem dX7_on_108 : decode cX7_on 108 = .ok (.iload_n 2, 1) := by decide +kernel
theorem dX7_on_109 : decode cX7_on 109 = .ok (.aload_n 0, 1) := by decide +kernel
theorem dX7_on_110 : decode cX7_on 110 = .ok (.iload_n 3, 1) := by decide +kernel
theorem dX7_on_111 : decode cX7_on 111 = .ok (.iconst 3, 1) := by decide +kernel
theorem dX7_on_112 : decode cX7_on 112 = .ok (.iadd, 1) := by decide +kernel
theorem dX7_on_113 : decode cX7_on 113 = .ok (.invokevirtual 99, 3) := by decide +kernel
theorem dX7_on_116 : decode cX7_on 116 = .ok (.iastore, 1) := by decide +kernel
theorem dX7_on_117 : decode cX7_on 117 = .ok (.aload_n 0, 1) := by decide +kernel
theorem dX7_on_118 : decode cX7_on 118 = .ok (.getfield 54, 3) := by decide +kernel
theorem dX7_on_121 : decode cX7_on 121 = .ok (.getfield 380, 3) := by decide +kernel
theorem dX7_on_124 : decode cX7_on 124 = .ok (.iload_n 2, 1) := by decide +kernel
theorem dX7_on_125 : decode cX7_on 125 = .ok (.aload_n 0, 1) := by decide +kernel
theorem dX7_on_126 : decode cX7_on 126 = .ok (.iload_n 3, 1) := by decide +kernel
theorem dX7_on_127 : decode cX7_on 127 = .ok (.iconst 4, 1) := by decide +kernel
theorem dX7_on_128 : decode cX7_on 128 = .ok (.iadd, 1) := by decide +kernel
theorem dX7_on_129 : decode cX7_on 129 = .ok (.invokevirtual 386, 3) := by decide +kernel
theorem dX7_on_132 : decode cX7_on 132 = .ok (.iconst 1, 1) := by decide +kernel
theorem dX7_on_133 : decode cX7_on 133 = .ok (.isub, 1) := by decide +kernel
theorem dX7_on_134 : decode cX7_on 134 = .ok (.iastore, 1) := by decide +kernel
theorem dX7_on_135 : decode cX7_on 135 = .ok (.aload_n 0, 1) := by decide +kernel
theorem dX7_on_136 : decode cX7_on 136 = .ok (.getfield 54, 3) := by decide +kernel
theorem dX7_on_139 : decode cX7_on 139 = .ok (.getfield 212, 3) := by decide +kernel
theorem dX7_on_142 : decode cX7_on 142 = .ok (.iload_n 2, 1) := by decide +kernel
theorem dX7_on_143 : decode cX7_on 143 = .ok (.aload_n 0, 1) := by decide +kernel
theorem dX7_on_144 : decode cX7_on 144 = .ok (.iload_n 3, 1) := by decide +kernel
theorem dX7_on_145 : decode cX7_on 145 = .ok (.bipush 6, 2) := by decide +kernel
theorem dX7_on_147 : decode cX7_on 147 = .ok (.iadd, 1) := by decide +kernel
theorem dX7_on_148 : decode cX7_on 148 = .ok (.invokevirtual 386, 3) := by decide +kernel
theorem dX7_on_151 : decode cX7_on 151 = .ok (.iastore, 1) := by decide +kernel
theorem dX7_on_152 : decode cX7_on 152 = .ok (.iinc 2 1, 3) := by decide +kernel
theorem dX7_on_155 : decode cX7_on 155 = .ok (.goto (-102), 3) := by decide +kernel
theorem dX7_on_158 : decode cX7_on 158 = .ok (.aload_n 0, 1) := by decide +kernel
theorem dX7_on_159 : decode cX7_on 159 = .ok (.getfield 54, 3) := by decide +kernel
theorem dX7_on_162 : decode cX7_on 162 = .ok (.iconst 0, 1) := by decide +kernel
theorem dX7_on_163 : decode cX7_on 163 = .ok (.putfield 165, 3) := by decide +kernel
theorem dX7_on_166 : decode cX7_on 166 = .ok (.aload_n 0, 1) := by decide +kernel
theorem dX7_on_167 : decode cX7_on 167 = .ok (.getfield 64, 3) := by decide +kernel
theorem dX7_on_170 : decode cX7_on 170 = .ok (.invokevirtual 118, 3) := by decide +kernel
theorem dX7_on_173 : decode cX7_on 173 = .ok (.iconst 1, 1) := by decide +kernel
theorem dX7_on_174 : decode cX7_on 174 = .ok (.ireturn, 1) := by decide +kernel
theorem dX7_isImageTape_0 : decode cX7_isImageTape 0 = .ok (.iload_n 1, 1) := by decide +kernel
theorem dX7_isImageTape_1 : decode cX7_isImageTape 1 = .ok (.iconst 4, 1) := by decide +kernel
theorem dX7_isImageTape_2 : decode cX7_isImageTape 2 = .ok (.bipush 8, 2) := by decide +kernel
theorem dX7_isImageTape_4 : decode cX7_isImageTape 4 = .ok (.aload_n 0, 1) := by decide +kernel
theorem dX7_isImageTape_5 : decode cX7_isImageTape 5 = .ok (.getfield 27, 3) := by decide +kernel
theorem dX7_isImageTape_8 : decode cX7_isImageTape 8 = .ok (.getfield 138, 3) := by decide +kernel
theorem dX7_isImageTape_11 : decode cX7_isImageTape 11 = .ok (.imul, 1) := by decide +kernel
theorem dX7_isImageTape_12 : decode cX7_isImageTape 12 = .ok (.iadd, 1) := by decide +kernel
theorem dX7_isImageTape_13 : decode cX7_isImageTape 13 = .ok (.iconst 1, 1) := by decide +kernel
theorem dX7_isImageTape_14 : decode cX7_isImageTape 14 = .ok (.iadd, 1) := by decide +kernel
theorem dX7_isImageTape_15 : decode cX7_isImageTape 15 = .ok (.if_icmp .eq 5, 3) := by decide +kernel
theorem dX7_isImageTape_18 : decode cX7_isImageTape 18 = .ok (.iconst 0, 1) := by decide +kernel
theorem dX7_isImageTape_19 : decode cX7_isImageTape 19 = .ok (.ireturn, 1) := by decide +kernel
theorem dX7_isImageTape_20 : decode cX7_isImageTape 20 = .ok (.sipush 151, 3) := by decide +kernel
theorem dX7_isImageTape_23 : decode cX7_isImageTape 23 = .ok (.istore_n 2, 1) := by decide +kernel
theorem dX7_isImageTape_24 : decode cX7_isImageTape 24 = .ok (.iconst 0, 1) := by decide +kernel
theorem dX7_isImageTape_25 : decode cX7_isImageTape 25 = .ok (.istore_n 3, 1) := by decide +kernel
theorem dX7_isImageTape_26 : decode cX7_isImageTape 26 = .ok (.iload_n 3, 1) := by decide +kernel
theorem dX7_isImageTape_27 : decode cX7_isImageTape 27 = .ok (.iload_n 1, 1) := by decide +kernel
theorem dX7_isImageTape_28 : decode cX7_isImageTape 28 = .ok (.iconst 1, 1) := by decide +kernel
theorem dX7_isImageTape_29 : decode cX7_isImageTape 29 = .ok (.isub, 1) := by decide +kernel
theorem dX7_isImageTape_30 : decode cX7_isImageTape 30 = .ok (.if_icmp .ge 23, 3) := by decide +kernel
theorem dX7_isImageTape_33 : decode cX7_isImageTape 33 = .ok (.iconst 3, 1) := by decide +kernel
theorem dX7_isImageTape_34 : decode cX7_isImageTape 34 = .ok (.iload_n 2, 1) := by decide +kernel
theorem dX7_isImageTape_35 : decode cX7_isImageTape 35 = .ok (.imul, 1) := by decide +kernel
theorem dX7_isImageTape_36 : decode cX7_isImageTape 36 = .ok (.aload_n 0, 1) := by decide +kernel
theorem dX7_isImageTape_37 : decode cX7_isImageTape 37 = .ok (.iload_n 3, 1) := by decide +kernel
theorem dX7_isImageTape_38 : decode cX7_isImageTape 38 = .ok (.invokevirtual 99, 3) := by decide +kernel
theorem dX7_isImageTape_41 : decode cX7_isImageTape 41 = .ok (.iadd, 1) := by decide +kernel
theorem dX7_isImageTape_42 : decode cX7_isImageTape 42 = .ok (.sipush 251, 3) := by decide +kernel
theorem dX7_isImageTape_45 : decode cX7_isImageTape 45 = .ok (.irem, 1) := by decide +kernel
theorem dX7_isImageTape_46 : decode cX7_isImageTape 46 = .ok (.istore_n 2, 1) := by decide +kernel
theorem dX7_isImageTape_47 : decode cX7_isImageTape 47 = .ok (.iinc 3 1, 3) := by decide +kernel
theorem dX7_isImageTape_50 : decode cX7_isImageTape 50 = .ok (.goto (-24), 3) := by decide +kernel
theorem dX7_isImageTape_53 : decode cX7_isImageTape 53 = .ok (.iload_n 2, 1) := by decide +kernel
theorem dX7_isImageTape_54 : decode cX7_isImageTape 54 = .ok (.aload_n 0, 1) := by decide +kernel
theorem dX7_isImageTape_55 : decode cX7_isImageTape 55 = .ok (.iload_n 1, 1) := by decide +kernel
theorem dX7_isImageTape_56 : decode cX7_isImageTape 56 = .ok (.iconst 1, 1) := by decide +kernel
theorem dX7_isImageTape_57 : decode cX7_isImageTape 57 = .ok (.isub, 1) := by decide +kernel
theorem dX7_isImageTape_58 : decode cX7_isImageTape 58 = .ok (.invokevirtual 99, 3) := by decide +kernel
theorem dX7_isImageTape_61 : decode cX7_isImageTape 61 = .ok (.if_icmp .ne 25, 3) := by decide +kernel
theorem dX7_isImageTape_64 : decode cX7_isImageTape 64 = .ok (.aload_n 0, 1) := by decide +kernel
theorem dX7_isImageTape_65 : decode cX7_isImageTape 65 = .ok (.iconst 0, 1) := by decide +kernel
theorem dX7_isImageTape_66 : decode cX7_isImageTape 66 = .ok (.invokevirtual 386, 3) := by decide +kernel
theorem dX7_isImageTape_69 : decode cX7_isImageTape 69 = .ok (.sipush 999, 3) := by decide +kernel
theorem dX7_isImageTape_72 : decode cX7_isImageTape 72 = .ok (.if_icmp .gt 14, 3) := by decide +kernel
theorem dX7_isImageTape_75 : decode cX7_isImageTape 75 = .ok (.aload_n 0, 1) := by decide +kernel
theorem dX7_isImageTape_76 : decode cX7_isImageTape 76 = .ok (.iconst 2, 1) := by decide +kernel
theorem dX7_isImageTape_77 : decode cX7_isImageTape 77 = .ok (.invokevirtual 386, 3) := by decide +kernel
theorem dX7_isImageTape_80 : decode cX7_isImageTape 80 = .ok (.sipush 999, 3) := by decide +kernel
theorem dX7_isImageTape_83 : decode cX7_isImageTape 83 = .ok (.if_icmp .le 5, 3) := by decide +kernel
theorem dX7_isImageTape_86 : decode cX7_isImageTape 86 = .ok (.iconst 0, 1) := by decide +kernel
theorem dX7_isImageTape_87 : decode cX7_isImageTape 87 = .ok (.ireturn, 1) := by decide +kernel
theorem dX7_isImageTape_88 : decode cX7_isImageTape 88 = .ok (.iconst 0, 1) := by decide +kernel
theorem dX7_isImageTape_89 : decode cX7_isImageTape 89 = .ok (.istore_n 3, 1) := by decide +kernel
theorem dX7_isImageTape_90 : decode cX7_isImageTape 90 = .ok (.iload_n 3, 1) := by decide +kernel
theorem dX7_isImageTape_91 : decode cX7_isImageTape 91 = .ok (.aload_n 0, 1) := by decide +kernel
theorem dX7_isImageTape_92 : decode cX7_isImageTape 92 = .ok (.getfield 27, 3) := by decide +kernel
theorem dX7_isImageTape_95 : decode cX7_isImageTape 95 = .ok (.getfield 138, 3) := by decide +kernel
theorem dX7_isImageTape_98 : decode cX7_isImageTape 98 = .ok (.if_icmp .ge 92, 3) := by decide +kernel
theorem dX7_isImageTape_101 : decode cX7_isImageTape 101 = .ok (.iconst 4, 1) := by decide +kernel
theorem dX7_isImageTape_102 : decode cX7_isImageTape 102 = .ok (.bipush 8, 2) := by decide +kernel
theorem dX7_isImageTape_104 : decode cX7_isImageTape 104 = .ok (.iload_n 3, 1) := by decide +kernel
theorem dX7_isImageTape_105 : decode cX7_isImageTape 105 = .ok (.imul, 1) := by decide +kernel
theorem dX7_isImageTape_106 : decode cX7_isImageTape 106 = .ok (.iadd, 1) := by decide +kernel
theorem dX7_isImageTape_107 : decode cX7_isImageTape 107 = .ok (.istore 4, 2) := by decide +kernel
theorem dX7_isImageTape_109 : decode cX7_isImageTape 109 = .ok (.aload_n 0, 1) := by decide +kernel
theorem dX7_isImageTape_110 : decode cX7_isImageTape 110 = .ok (.aload_n 0, 1) := by decide +kernel
theorem dX7_isImageTape_111 : decode cX7_isImageTape 111 = .ok (.iload 4, 2) := by decide +kernel
theorem dX7_isImageTape_113 : decode cX7_isImageTape 113 = .ok (.invokevirtual 99, 3) := by decide +kernel
theorem dX7_isImageTape_116 : decode cX7_isImageTape 116 = .ok (.invokevirtual 178, 3) := by decide +kernel
theorem dX7_isImageTape_119 : decode cX7_isImageTape 119 = .ok (.ifCond .eq 63, 3) := by decide +kernel
theorem dX7_isImageTape_122 : decode cX7_isImageTape 122 = .ok (.aload_n 0, 1) := by decide +kernel
theorem dX7_isImageTape_123 : decode cX7_isImageTape 123 = .ok (.iload 4, 2) := by decide +kernel
theorem dX7_isImageTape_125 : decode cX7_isImageTape 125 = .ok (.iconst 1, 1) := by decide +kernel
theorem dX7_isImageTape_126 : decode cX7_isImageTape 126 = .ok (.iadd, 1) := by decide +kernel
theorem dX7_isImageTape_127 : decode cX7_isImageTape 127 = .ok (.invokevirtual 386, 3) := by decide +kernel
theorem dX7_isImageTape_130 : decode cX7_isImageTape 130 = .ok (.sipush 999, 3) := by decide +kernel
theorem dX7_isImageTape_133 : decode cX7_isImageTape 133 = .ok (.if_icmp .gt 49, 3) := by decide +kernel
theorem dX7_isImageTape_136 : decode cX7_isImageTape 136 = .ok (.aload_n 0, 1) := by decide +kernel
theorem dX7_isImageTape_137 : decode cX7_isImageTape 137 = .ok (.iload 4, 2) := by decide +kernel
theorem dX7_isImageTape_139 : decode cX7_isImageTape 139 = .ok (.iconst 3, 1) := by decide +kernel
theorem dX7_isImageTape_140 : decode cX7_isImageTape 140 = .ok (.iadd, 1) := by decide +kernel
theorem dX7_isImageTape_141 : decode cX7_isImageTape 141 = .ok (.invokevirtual 99, 3) := by decide +kernel
theorem dX7_isImageTape_144 : decode cX7_isImageTape 144 = .ok (.bipush 99, 2) := by decide +kernel
theorem dX7_isImageTape_146 : decode cX7_isImageTape 146 = .ok (.if_icmp .gt 36, 3) := by decide +kernel
theorem dX7_isImageTape_149 : decode cX7_isImageTape 149 = .ok (.aload_n 0, 1) := by decide +kernel
theorem dX7_isImageTape_150 : decode cX7_isImageTape 150 = .ok (.iload 4, 2) := by decide +kernel
theorem dX7_isImageTape_152 : decode cX7_isImageTape 152 = .ok (.iconst 4, 1) := by decide +kernel
theorem dX7_isImageTape_153 : decode cX7_isImageTape 153 = .ok (.iadd, 1) := by decide +kernel
theorem dX7_isImageTape_154 : decode cX7_isImageTape 154 = .ok (.invokevirtual 386, 3) := by decide +kernel
theorem dX7_isImageTape_157 : decode cX7_isImageTape 157 = .ok (.iconst 1, 1) := by decide +kernel
theorem dX7_isImageTape_158 : decode cX7_isImageTape 158 = .ok (.isub, 1) := by decide +kernel
theorem dX7_isImageTape_159 : decode cX7_isImageTape 159 = .ok (.aload_n 0, 1) := by decide +kernel
theorem dX7_isImageTape_160 : decode cX7_isImageTape 160 = .ok (.iconst 0, 1) := by decide +kernel
theorem dX7_isImageTape_161 : decode cX7_isImageTape 161 = .ok (.invokevirtual 386, 3) := by decide +kernel
theorem dX7_isImageTape_164 : decode cX7_isImageTape 164 = .ok (.if_icmp .gt 18, 3) := by decide +kernel
theorem dX7_isImageTape_167 : decode cX7_isImageTape 167 = .ok (.aload_n 0, 1) := by decide +kernel
theorem dX7_isImageTape_168 : decode cX7_isImageTape 168 = .ok (.iload 4, 2) := by decide +kernel
theorem dX7_isImageTape_170 : decode cX7_isImageTape 170 = .ok (.bipush 6, 2) := by decide +kernel
theorem dX7_isImageTape_172 : decode cX7_isImageTape 172 = .ok (.iadd, 1) := by decide +kernel
theorem dX7_isImageTape_173 : decode cX7_isImageTape 173 = .ok (.invokevirtual 386, 3) := by decide +kernel
theorem dX7_isImageTape_176 : decode cX7_isImageTape 176 = .ok (.sipush 999, 3) := by decide +kernel
theorem dX7_isImageTape_179 : decode cX7_isImageTape 179 = .ok (.if_icmp .le 5, 3) := by decide +kernel
theorem dX7_isImageTape_182 : decode cX7_isImageTape 182 = .ok (.iconst 0, 1) := by decide +kernel
theorem dX7_isImageTape_183 : decode cX7_isImageTape 183 = .ok (.ireturn, 1) := by decide +kernel
theorem dX7_isImageTape_184 : decode cX7_isImageTape 184 = .ok (.iinc 3 1, 3) := by decide +kernel
theorem dX7_isImageTape_187 : decode cX7_isImageTape 187 = .ok (.goto (-97), 3) := by decide +kernel
theorem dX7_isImageTape_190 : decode cX7_isImageTape 190 = .ok (.iconst 1, 1) := by decide +kernel
theorem dX7_isImageTape_191 : decode cX7_isImageTape 191 = .ok (.ireturn, 1) := by decide +kernel
theorem dX7_status_0 : decode cX7_status 0 = .ok (.iload_n 1, 1) := by decide +kernel
theorem dX7_status_1 : decode cX7_status 1 = .ok (.ifCond .lt 18, 3) := by decide +kernel
theorem dX7_status_4 : decode cX7_status 4 = .ok (.iload_n 1, 1) := by decide +kernel
theorem dX7_status_5 : decode cX7_status 5 = .ok (.bipush 6, 2) := by decide +kernel
theorem dX7_status_7 : decode cX7_status 7 = .ok (.if_icmp .ge 12, 3) := by decide +kernel
theorem dX7_status_10 : decode cX7_status 10 = .ok (.aload_n 0, 1) := by decide +kernel
theorem dX7_status_11 : decode cX7_status 11 = .ok (.getfield 86, 3) := by decide +kernel
theorem dX7_status_14 : decode cX7_status 14 = .ok (.iload_n 1, 1) := by decide +kernel
theorem dX7_status_15 : decode cX7_status 15 = .ok (.iaload, 1) := by decide +kernel
theorem dX7_status_16 : decode cX7_status 16 = .ok (.goto 4, 3) := by decide +kernel
theorem dX7_status_19 : decode cX7_status 19 = .ok (.iconst (-1), 1) := by decide +kernel
theorem dX7_status_20 : decode cX7_status 20 = .ok (.ireturn, 1) := by decide +kernel
theorem dX8_init_0 : decode cX8_init 0 = .ok (.aload_n 0, 1) := by decide +kernel
theorem dX8_init_1 : decode cX8_init 1 = .ok (.invokespecial 1, 3) := by decide +kernel
theorem dX8_init_4 : decode cX8_init 4 = .ok (.aload_n 0, 1) := by decide +kernel
theorem dX8_init_5 : decode cX8_init 5 = .ok (.sipush 1600, 3) := by decide +kernel
theorem dX8_init_8 : decode cX8_init 8 = .ok (.newarray .int, 2) := by decide +kernel
theorem dX8_init_10 : decode cX8_init 10 = .ok (.putfield 7, 3) := by decide +kernel
theorem dX8_init_13 : decode cX8_init 13 = .ok (.aload_n 0, 1) := by decide +kernel
theorem dX8_init_14 : decode cX8_init 14 = .ok (.iconst (-1), 1) := by decide +kernel
theorem dX8_init_15 : decode cX8_init 15 = .ok (.putfield 13, 3) := by decide +kernel
theorem dX8_init_18 : decode cX8_init 18 = .ok (.aload_n 0, 1) := by decide +kernel
theorem dX8_init_19 : decode cX8_init 19 = .ok (.bipush 6, 2) := by decide +kernel
theorem dX8_init_21 : decode cX8_init 21 = .ok (.newarray .int, 2) := by decide +kernel
theorem dX8_init_23 : decode cX8_init 23 = .ok (.putfield 17, 3) := by decide +kernel
theorem dX8_init_26 : decode cX8_init 26 = .ok (.aload_n 0, 1) := by decide +kernel
theorem dX8_init_27 : decode cX8_init 27 = .ok (.iconst 4, 1) := by decide +kernel
theorem dX8_init_28 : decode cX8_init 28 = .ok (.newarray .char, 2) := by decide +kernel
theorem dX8_init_30 : decode cX8_init 30 = .ok (.dup, 1) := by decide +kernel
theorem dX8_init_31 : decode cX8_init 31 = .ok (.iconst 0, 1) := by decide +kernel
theorem dX8_init_32 : decode cX8_init 32 = .ok (.bipush 104, 2) := by decide +kernel
theorem dX8_init_34 : decode cX8_init 34 = .ok (.castore, 1) := by decide +kernel
theorem dX8_init_35 : decode cX8_init 35 = .ok (.dup, 1) := by decide +kernel
theorem dX8_init_36 : decode cX8_init 36 = .ok (.iconst 1, 1) := by decide +kernel
theorem dX8_init_37 : decode cX8_init 37 = .ok (.bipush 111, 2) := by decide +kernel
theorem dX8_init_39 : decode cX8_init 39 = .ok (.castore, 1) := by decide +kernel
theorem dX8_init_40 : decode cX8_init 40 = .ok (.dup, 1) := by decide +kernel
theorem dX8_init_41 : decode cX8_init 41 = .ok (.iconst 2, 1) := by decide +kernel
theorem dX8_init_42 : decode cX8_init 42 = .ok (.bipush 117, 2) := by decide +kernel
theorem dX8_init_44 : decode cX8_init 44 = .ok (.castore, 1) := by decide +kernel
theorem dX8_init_45 : decode cX8_init 45 = .ok (.dup, 1) := by decide +kernel
theorem dX8_init_46 : decode cX8_init 46 = .ok (.iconst 3, 1) := by decide +kernel
theorem dX8_init_47 : decode cX8_init 47 = .ok (.bipush 114, 2) := by decide +kernel
theorem dX8_init_49 : decode cX8_init 49 = .ok (.castore, 1) := by decide +kernel
theorem dX8_init_50 : decode cX8_init 50 = .ok (.putfield 20, 3) := by decide +kernel
theorem dX8_init_53 : decode cX8_init 53 = .ok (.aload_n 0, 1) := by decide +kernel
theorem dX8_init_54 : decode cX8_init 54 = .ok (.iconst 4, 1) := by decide +kernel
theorem dX8_init_55 : decode cX8_init 55 = .ok (.newarray .char, 2) := by decide +kernel
theorem dX8_init_57 : decode cX8_init 57 = .ok (.dup, 1) := by decide +kernel
theorem dX8_init_58 : decode cX8_init 58 = .ok (.iconst 0, 1) := by decide +kernel
theorem dX8_init_59 : decode cX8_init 59 = .ok (.bipush 115, 2) := by decide +kernel
theorem dX8_init_61 : decode cX8_init 61 = .ok (.castore, 1) := by decide +kernel
theorem dX8_init_62 : decode cX8_init 62 = .ok (.dup, 1) := by decide +kernel
theorem dX8_init_63 : decode cX8_init 63 = .ok (.iconst 1, 1) := by decide +kernel
theorem dX8_init_64 : decode cX8_init 64 = .ok (.bipush 111, 2) := by decide +kernel
theorem dX8_init_66 : decode cX8_init 66 = .ok (.castore, 1) := by decide +kernel
theorem dX8_init_67 : decode cX8_init 67 = .ok (.dup, 1) := by decide +kernel
theorem dX8_init_68 : decode cX8_init 68 = .ok (.iconst 2, 1) := by decide +kernel
theorem dX8_init_69 : decode cX8_init 69 = .ok (.bipush 110, 2) := by decide +kernel
theorem dX8_init_71 : decode cX8_init 71 = .ok (.castore, 1) := by decide +kernel
theorem dX8_init_72 : decode cX8_init 72 = .ok (.dup, 1) := by decide +kernel
theorem dX8_init_73 : decode cX8_init 73 = .ok (.iconst 3, 1) := by decide +kernel
theorem dX8_init_74 : decode cX8_init 74 = .ok (.bipush 103, 2) := by decide +kernel
theorem dX8_init_76 : decode cX8_init 76 = .ok (.castore, 1) := by decide +kernel
theorem dX8_init_77 : decode cX8_init 77 = .ok (.putfield 24, 3) := by decide +kernel
theorem dX8_init_80 : decode cX8_init 80 = .ok (.aload_n 0, 1) := by decide +kernel
theorem dX8_init_81 : decode cX8_init 81 = .ok (.iconst 4, 1) := by decide +kernel
theorem dX8_init_82 : decode cX8_init 82 = .ok (.newarray .char, 2) := by decide +kernel
theorem dX8_init_84 : decode cX8_init 84 = .ok (.dup, 1) := by decide +kernel
theorem dX8_init_85 : decode cX8_init 85 = .ok (.iconst 0, 1) := by decide +kernel
theorem dX8_init_86 : decode cX8_init 86 = .ok (.bipush 108, 2) := by decide +kernel
theorem dX8_init_88 : decode cX8_init 88 = .ok (.castore, 1) := by decide +kernel
theorem dX8_init_89 : decode cX8_init 89 = .ok (.dup, 1) := by decide +kernel
theorem dX8_init_90 : decode cX8_init 90 = .ok (.iconst 1, 1) := by decide +kernel
theorem dX8_init_91 : decode cX8_init 91 = .ok (.bipush 111, 2) := by decide +kernel
theorem dX8_init_93 : decode cX8_init 93 = .ok (.castore, 1) := by decide +kernel
theorem dX8_init_94 : decode cX8_init 94 = .ok (.dup, 1) := by decide +kernel
theorem dX8_init_95 : decode cX8_init 95 = .ok (.iconst 2, 1) := by decide +kernel
theorem dX8_init_96 : decode cX8_init 96 = .ok (.bipush 110, 2) := by decide +kernel
theorem dX8_init_98 : decode cX8_init 98 = .ok (.castore, 1) := by decide +kernel
theorem dX8_init_99 : decode cX8_init 99 = .ok (.dup, 1) := by decide +kernel
theorem dX8_init_100 : decode cX8_init 100 = .ok (.iconst 3, 1) := by decide +kernel
theorem dX8_init_101 : decode cX8_init 101 = .ok (.bipush 103, 2) := by decide +kernel
theorem dX8_init_103 : decode cX8_init 103 = .ok (.castore, 1) := by decide +kernel
theorem dX8_init_104 : decode cX8_init 104 = .ok (.putfield 27, 3) := by decide +kernel
theorem dX8_init_107 : decode cX8_init 107 = .ok (.aload_n 0, 1) := by decide +kernel
theorem dX8_init_108 : decode cX8_init 108 = .ok (.iconst 5, 1) := by decide +kernel
theorem dX8_init_109 : decode cX8_init 109 = .ok (.newarray .char, 2) := by decide +kernel
theorem dX8_init_111 : decode cX8_init 111 = .ok (.dup, 1) := by decide +kernel
theorem dX8_init_112 : decode cX8_init 112 = .ok (.iconst 0, 1) := by decide +kernel
theorem dX8_init_113 : decode cX8_init 113 = .ok (.bipush 115, 2) := by decide +kernel
theorem dX8_init_115 : decode cX8_init 115 = .ok (.castore, 1) := by decide +kernel
theorem dX8_init_116 : decode cX8_init 116 = .ok (.dup, 1) := by decide +kernel
theorem dX8_init_117 : decode cX8_init 117 = .ok (.iconst 1, 1) := by decide +kernel
theorem dX8_init_118 : decode cX8_init 118 = .ok (.bipush 116, 2) := by decide +kernel
theorem dX8_init_120 : decode cX8_init 120 = .ok (.castore, 1) := by decide +kernel
theorem dX8_init_121 : decode cX8_init 121 = .ok (.dup, 1) := by decide +kernel
theorem dX8_init_122 : decode cX8_init 122 = .ok (.iconst 2, 1) := by decide +kernel
theorem dX8_init_123 : decode cX8_init 123 = .ok (.bipush 121, 2) := by decide +kernel
theorem dX8_init_125 : decode cX8_init 125 = .ok (.castore, 1) := by decide +kernel
theorem dX8_init_126 : decode cX8_init 126 = .ok (.dup, 1) := by decide +kernel
theorem dX8_init_127 : decode cX8_init 127 = .ok (.iconst 3, 1) := by decide +kernel
theorem dX8_init_128 : decode cX8_init 128 = .ok (.bipush 108, 2) := by decide +kernel
theorem dX8_init_130 : decode cX8_init 130 = .ok (.castore, 1) := by decide +kernel
theorem dX8_init_131 : decode cX8_init 131 = .ok (.dup, 1) := by decide +kernel
theorem dX8_init_132 : decode cX8_init 132 = .ok (.iconst 4, 1) := by decide +kernel
theorem dX8_init_133 : decode cX8_init 133 = .ok (.bipush 101, 2) := by decide +kernel
theorem dX8_init_135 : decode cX8_init 135 = .ok (.castore, 1) := by decide +kernel
theorem dX8_init_136 : decode cX8_init 136 = .ok (.putfield 30, 3) := by decide +kernel
theorem dX8_init_139 : decode cX8_init 139 = .ok (.aload_n 0, 1) := by decide +kernel
theorem dX8_init_140 : decode cX8_init 140 = .ok (.iconst 5, 1) := by decide +kernel
theorem dX8_init_141 : decode cX8_init 141 = .ok (.newarray .char, 2) := by decide +kernel
theorem dX8_init_143 : decode cX8_init 143 = .ok (.dup, 1) := by decide +kernel
theorem dX8_init_144 : decode cX8_init 144 = .ok (.iconst 0, 1) := by decide +kernel
theorem dX8_init_145 : decode cX8_init 145 = .ok (.bipush 97, 2) := by decide +kernel
theorem dX8_init_147 : decode cX8_init 147 = .ok (.castore, 1) := by decide +kernel
theorem dX8_init_148 : decode cX8_init 148 = .ok (.dup, 1) := by decide +kernel
theorem dX8_init_149 : decode cX8_init 149 = .ok (.iconst 1, 1) := by decide +kernel
theorem dX8_init_150 : decode cX8_init 150 = .ok (.bipush 115, 2) := by decide +kernel
theorem dX8_init_152 : decode cX8_init 152 = .ok (.castore, 1) := by decide +kernel
theorem dX8_init_153 : decode cX8_init 153 = .ok (.dup, 1) := by decide +kernel
theorem dX8_init_154 : decode cX8_init 154 = .ok (.iconst 2, 1) := by decide +kernel
theorem dX8_init_155 : decode cX8_init 155 = .ok (.bipush 107, 2) := by decide +kernel
theorem dX8_init_157 : decode cX8_init 157 = .ok (.castore, 1) := by decide +kernel
theorem dX8_init_158 : decode cX8_init 158 = .ok (.dup, 1) := by decide +kernel
theorem dX8_init_159 : decode cX8_init 159 = .ok (.iconst 3, 1) := by decide +kernel
theorem dX8_init_160 : decode cX8_init 160 = .ok (.bipush 101, 2) := by decide +kernel
theorem dX8_init_162 : decode cX8_init 162 = .ok (.castore, 1) := by decide +kernel
theorem dX8_init_163 : decode cX8_init 163 = .ok (.dup, 1) := by decide +kernel
theorem dX8_init_164 : decode cX8_init 164 = .ok (.iconst 4, 1) := by decide +kernel
theorem dX8_init_165 : decode cX8_init 165 = .ok (.bipush 114, 2) := by decide +kernel
theorem dX8_init_167 : decode cX8_init 167 = .ok (.castore, 1) := by decide +kernel
theorem dX8_init_168 : decode cX8_init 168 = .ok (.putfield 33, 3) := by decide +kernel
theorem dX8_init_171 : decode cX8_init 171 = .ok (.aload_n 0, 1) := by decide +kernel
theorem dX8_init_172 : decode cX8_init 172 = .ok (.iconst 5, 1) := by decide +kernel
theorem dX8_init_173 : decode cX8_init 173 = .ok (.newarray .char, 2) := by decide +kernel
theorem dX8_init_175 : decode cX8_init 175 = .ok (.dup, 1) := by decide +kernel
theorem dX8_init_176 : decode cX8_init 176 = .ok (.iconst 0, 1) := by decide +kernel
theorem dX8_init_177 : decode cX8_init 177 = .ok (.bipush 119, 2) := by decide +kernel
theorem dX8_init_179 : decode cX8_init 179 = .ok (.castore, 1) := by decide +kernel
theorem dX8_init_180 : decode cX8_init 180 = .ok (.dup, 1) := by decide +kernel
theorem dX8_init_181 : decode cX8_init 181 = .ok (.iconst 1, 1) := by decide +kernel
theorem dX8_init_182 : decode cX8_init 182 = .ok (.bipush 97, 2) := by decide +kernel
theorem dX8_init_184 : decode cX8_init 184 = .ok (.castore, 1) := by decide +kernel
theorem dX8_init_185 : decode cX8_init 185 = .ok (.dup, 1) := by decide +kernel
theorem dX8_init_186 : decode cX8_init 186 = .ok (.iconst 2, 1) := by decide +kernel
theorem dX8_init_187 : decode cX8_init 187 = .ok (.bipush 110, 2) := by decide +kernel
theorem dX8_init_189 : decode cX8_init 189 = .ok (.castore, 1) := by decide +kernel
theorem dX8_init_190 : decode cX8_init 190 = .ok (.dup, 1) := by decide +kernel
theorem dX8_init_191 : decode cX8_init 191 = .ok (.iconst 3, 1) := by decide +kernel
theorem dX8_init_192 : decode cX8_init 192 = .ok (.bipush 116, 2) := by decide +kernel
theorem dX8_init_194 : decode cX8_init 194 = .ok (.castore, 1) := by decide +kernel
theorem dX8_init_195 : decode cX8_init 195 = .ok (.dup, 1) := by decide +kernel
theorem dX8_init_196 : decode cX8_init 196 = .ok (.iconst 4, 1) := by decide +kernel
theorem dX8_init_197 : decode cX8_init 197 = .ok (.bipush 115, 2) := by decide +kernel
theorem dX8_init_199 : decode cX8_init 199 = .ok (.castore, 1) := by decide +kernel
theorem dX8_init_200 : decode cX8_init 200 = .ok (.putfield 36, 3) := by decide +kernel
theorem dX8_init_203 : decode cX8_init 203 = .ok (.aload_n 0, 1) := by decide +kernel
theorem dX8_init_204 : decode cX8_init 204 = .ok (.iconst 4, 1) := by decide +kernel
theorem dX8_init_205 : decode cX8_init 205 = .ok (.newarray .char, 2) := by decide +kernel
theorem dX8_init_207 : decode cX8_init 207 = .ok (.dup, 1) := by decide +kernel
theorem dX8_init_208 : decode cX8_init 208 = .ok (.iconst 0, 1) := by decide +kernel
theorem dX8_init_209 : decode cX8_init 209 = .ok (.bipush 100, 2) := by decide +kernel
theorem dX8_init_211 : decode cX8_init 211 = .ok (.castore, 1) := by decide +kernel
theorem dX8_init_212 : decode cX8_init 212 = .ok (.dup, 1) := by decide +kernel
theorem dX8_init_213 : decode cX8_init 213 = .ok (.iconst 1, 1) := by decide +kernel
theorem dX8_init_214 : decode cX8_init 214 = .ok (.bipush 105, 2) := by decide +kernel
theorem dX8_init_216 : decode cX8_init 216 = .ok (.castore, 1) := by decide +kernel
theorem dX8_init_217 : decode cX8_init 217 = .ok (.dup, 1) := by decide +kernel
theorem dX8_init_218 : decode cX8_init 218 = .ok (.iconst 2, 1) := by decide +kernel
theorem dX8_init_219 : decode cX8_init 219 = .ok (.bipush 101, 2) := by decide +kernel
theorem dX8_init_221 : decode cX8_init 221 = .ok (.castore, 1) := by decide +kernel
theorem dX8_init_222 : decode cX8_init 222 = .ok (.dup, 1) := by decide +kernel
theorem dX8_init_223 : decode cX8_init 223 = .ok (.iconst 3, 1) := by decide +kernel
theorem dX8_init_224 : decode cX8_init 224 = .ok (.bipush 115, 2) := by decide +kernel
theorem dX8_init_226 : decode cX8_init 226 = .ok (.castore, 1) := by decide +kernel
theorem dX8_init_227 : decode cX8_init 227 = .ok (.putfield 39, 3) := by decide +kernel
theorem dX8_init_230 : decode cX8_init 230 = .ok (.aload_n 0, 1) := by decide +kernel
theorem dX8_init_231 : decode cX8_init 231 = .ok (.iconst 5, 1) := by decide +kernel
theorem dX8_init_232 : decode cX8_init 232 = .ok (.newarray .char, 2) := by decide +kernel
theorem dX8_init_234 : decode cX8_init 234 = .ok (.dup, 1) := by decide +kernel
theorem dX8_init_235 : decode cX8_init 235 = .ok (.iconst 0, 1) := by decide +kernel
theorem dX8_init_236 : decode cX8_init 236 = .ok (.bipush 109, 2) := by decide +kernel
theorem dX8_init_238 : decode cX8_init 238 = .ok (.castore, 1) := by decide +kernel
theorem dX8_init_239 : decode cX8_init 239 = .ok (.dup, 1) := by decide +kernel
theorem dX8_init_240 : decode cX8_init 240 = .ok (.iconst 1, 1) := by decide +kernel
theorem dX8_init_241 : decode cX8_init 241 = .ok (.bipush 105, 2) := by decide +kernel
theorem dX8_init_243 : decode cX8_init 243 = .ok (.castore, 1) := by decide +kernel
theorem dX8_init_244 : decode cX8_init 244 = .ok (.dup, 1) := by decide +kernel
theorem dX8_init_245 : decode cX8_init 245 = .ok (.iconst 2, 1) := by decide +kernel
theorem dX8_init_246 : decode cX8_init 246 = .ok (.bipush 110, 2) := by decide +kernel
theorem dX8_init_248 : decode cX8_init 248 = .ok (.castore, 1) := by decide +kernel
theorem dX8_init_249 : decode cX8_init 249 = .ok (.dup, 1) := by decide +kernel
theorem dX8_init_250 : decode cX8_init 250 = .ok (.iconst 3, 1) := by decide +kernel
theorem dX8_init_251 : decode cX8_init 251 = .ok (.bipush 100, 2) := by decide +kernel
theorem dX8_init_253 : decode cX8_init 253 = .ok (.castore, 1) := by decide +kernel
theorem dX8_init_254 : decode cX8_init 254 = .ok (.dup, 1) := by decide +kernel
theorem dX8_init_255 : decode cX8_init 255 = .ok (.iconst 4, 1) := by decide +kernel
theorem dX8_init_256 : decode cX8_init 256 = .ok (.bipush 115, 2) := by decide +kernel
theorem dX8_init_258 : decode cX8_init 258 = .ok (.castore, 1) := by decide +kernel
theorem dX8_init_259 : decode cX8_init 259 = .ok (.putfield 42, 3) := by decide +kernel
theorem dX8_init_262 : decode cX8_init 262 = .ok (.aload_n 0, 1) := by decide +kernel
theorem dX8_init_263 : decode cX8_init 263 = .ok (.iconst 3, 1) := by decide +kernel
theorem dX8_init_264 : decode cX8_init 264 = .ok (.newarray .char, 2) := by decide +kernel
theorem dX8_init_266 : decode cX8_init 266 = .ok (.dup, 1) := by decide +kernel
theorem dX8_init_267 : decode cX8_init 267 = .ok (.iconst 0, 1) := by decide +kernel
theorem dX8_init_268 : decode cX8_init 268 = .ok (.bipush 101, 2) := by decide +kernel
theorem dX8_init_270 : decode cX8_init 270 = .ok (.castore, 1) := by decide +kernel
theorem dX8_init_271 : decode cX8_init 271 = .ok (.dup, 1) := by decide +kernel
theorem dX8_init_272 : decode cX8_init 272 = .ok (.iconst 1, 1) := by decide +kernel
theorem dX8_init_273 : decode cX8_init 273 = .ok (.bipush 97, 2) := by decide +kernel
theorem dX8_init_275 : decode cX8_init 275 = .ok (.castore, 1) := by decide +kernel
theorem dX8_init_276 : decode cX8_init 276 = .ok (.dup, 1) := by decide +kernel
theorem dX8_init_277 : decode cX8_init 277 = .ok (.iconst 2, 1) := by decide +kernel
theorem dX8_init_278 : decode cX8_init 278 = .ok (.bipush 114, 2) := by decide +kernel
theorem dX8_init_280 : decode cX8_init 280 = .ok (.castore, 1) := by decide +kernel
theorem dX8_init_281 : decode cX8_init 281 = .ok (.putfield 45, 3) := by decide +kernel
theorem dX8_init_284 : decode cX8_init 284 = .ok (.aload_n 0, 1) := by decide +kernel
theorem dX8_init_285 : decode cX8_init 285 = .ok (.iconst 5, 1) := by decide +kernel
theorem dX8_init_286 : decode cX8_init 286 = .ok (.newarray .char, 2) := by decide +kernel
theorem dX8_init_288 : decode cX8_init 288 = .ok (.dup, 1) := by decide +kernel
theorem dX8_init_289 : decode cX8_init 289 = .ok (.iconst 0, 1) := by decide +kernel
theorem dX8_init_290 : decode cX8_init 290 = .ok (.bipush 116, 2) := by decide +kernel
theorem dX8_init_292 : decode cX8_init 292 = .ok (.castore, 1) := by decide +kernel
theorem dX8_init_293 : decode cX8_init 293 = .ok (.dup, 1) := by decide +kernel
theorem dX8_init_294 : decode cX8_init 294 = .ok (.iconst 1, 1) := by decide +kernel
theorem dX8_init_295 : decode cX8_init 295 = .ok (.bipush 97, 2) := by decide +kernel
theorem dX8_init_297 : decode cX8_init 297 = .ok (.castore, 1) := by decide +kernel
theorem dX8_init_298 : decode cX8_init 298 = .ok (.dup, 1) := by decide +kernel
theorem dX8_init_299 : decode cX8_init 299 = .ok (.iconst 2, 1) := by decide +kernel
theorem dX8_init_300 : decode cX8_init 300 = .ok (.bipush 115, 2) := by decide +kernel
theorem dX8_init_302 : decode cX8_init 302 = .ok (.castore, 1) := by decide +kernel
theorem dX8_init_303 : decode cX8_init 303 = .ok (.dup, 1) := by decide +kernel
theorem dX8_init_304 : decode cX8_init 304 = .ok (.iconst 3, 1) := by decide +kernel
theorem dX8_init_305 : decode cX8_init 305 = .ok (.bipush 116, 2) := by decide +kernel
theorem dX8_init_307 : decode cX8_init 307 = .ok (.castore, 1) := by decide +kernel
theorem dX8_init_308 : decode cX8_init 308 = .ok (.dup, 1) := by decide +kernel
theorem dX8_init_309 : decode cX8_init 309 = .ok (.iconst 4, 1) := by decide +kernel
theorem dX8_init_310 : decode cX8_init 310 = .ok (.bipush 101, 2) := by decide +kernel
theorem dX8_init_312 : decode cX8_init 312 = .ok (.castore, 1) := by decide +kernel
theorem dX8_init_313 : decode cX8_init 313 = .ok (.putfield 48, 3) := by decide +kernel
theorem dX8_init_316 : decode cX8_init 316 = .ok (.aload_n 0, 1) := by decide +kernel
theorem dX8_init_317 : decode cX8_init 317 = .ok (.iconst 5, 1) := by decide +kernel
theorem dX8_init_318 : decode cX8_init 318 = .ok (.newarray .char, 2) := by decide +kernel
theorem dX8_init_320 : decode cX8_init 320 = .ok (.dup, 1) := by decide +kernel
theorem dX8_init_321 : decode cX8_init 321 = .ok (.iconst 0, 1) := by decide +kernel
theorem dX8_init_322 : decode cX8_init 322 = .ok (.bipush 102, 2) := by decide +kernel
theorem dX8_init_324 : decode cX8_init 324 = .ok (.castore, 1) := by decide +kernel
theorem dX8_init_325 : decode cX8_init 325 = .ok (.dup, 1) := by decide +kernel
theorem dX8_init_326 : decode cX8_init 326 = .ok (.iconst 1, 1) := by decide +kernel
theorem dX8_init_327 : decode cX8_init 327 = .ok (.bipush 97, 2) := by decide +kernel
theorem dX8_init_329 : decode cX8_init 329 = .ok (.castore, 1) := by decide +kernel
theorem dX8_init_330 : decode cX8_init 330 = .ok (.dup, 1) := by decide +kernel
theorem dX8_init_331 : decode cX8_init 331 = .ok (.iconst 2, 1) := by decide +kernel
theorem dX8_init_332 : decode cX8_init 332 = .ok (.bipush 100, 2) := by decide +kernel
theorem dX8_init_334 : decode cX8_init 334 = .ok (.castore, 1) := by decide +kernel
theorem dX8_init_335 : decode cX8_init 335 = .ok (.dup, 1) := by decide +kernel
theorem dX8_init_336 : decode cX8_init 336 = .ok (.iconst 3, 1) := by decide +kernel
theorem dX8_init_337 : decode cX8_init 337 = .ok (.bipush 101, 2) := by decide +kernel
theorem dX8_init_339 : decode cX8_init 339 = .ok (.castore, 1) := by decide +kernel
theorem dX8_init_340 : decode cX8_init 340 = .ok (.dup, 1) := by decide +kernel
theorem dX8_init_341 : decode cX8_init 341 = .ok (.iconst 4, 1) := by decide +kernel
theorem dX8_init_342 : decode cX8_init 342 = .ok (.bipush 115, 2) := by decide +kernel
theorem dX8_init_344 : decode cX8_init 344 = .ok (.castore, 1) := by decide +kernel
theorem dX8_init_345 : decode cX8_init 345 = .ok (.putfield 51, 3) := by decide +kernel
theorem dX8_init_348 : decode cX8_init 348 = .ok (.aload_n 0, 1) := by decide +kernel
theorem dX8_init_349 : decode cX8_init 349 = .ok (.iconst 5, 1) := by decide +kernel
theorem dX8_init_350 : decode cX8_init 350 = .ok (.newarray .char, 2) := by decide +kernel
theorem dX8_init_352 : decode cX8_init 352 = .ok (.dup, 1) := by decide +kernel
theorem dX8_init_353 : decode cX8_init 353 = .ok (.iconst 0, 1) := by decide +kernel
theorem dX8_init_354 : decode cX8_init 354 = .ok (.bipush 112, 2) := by decide +kernel
theorem dX8_init_356 : decode cX8_init 356 = .ok (.castore, 1) := by decide +kernel
theorem dX8_init_357 : decode cX8_init 357 = .ok (.dup, 1) := by decide +kernel
theorem dX8_init_358 : decode cX8_init 358 = .ok (.iconst 1, 1) := by decide +kernel
theorem dX8_init_359 : decode cX8_init 359 = .ok (.bipush 108, 2) := by decide +kernel
theorem dX8_init_361 : decode cX8_init 361 = .ok (.castore, 1) := by decide +kernel
theorem dX8_init_362 : decode cX8_init 362 = .ok (.dup, 1) := by decide +kernel
theorem dX8_init_363 : decode cX8_init 363 = .ok (.iconst 2, 1) := by decide +kernel
theorem dX8_init_364 : decode cX8_init 364 = .ok (.bipush 97, 2) := by decide +kernel
theorem dX8_init_366 : decode cX8_init 366 = .ok (.castore, 1) := by decide +kernel
theorem dX8_init_367 : decode cX8_init 367 = .ok (.dup, 1) := by decide +kernel
theorem dX8_init_368 : decode cX8_init 368 = .ok (.iconst 3, 1) := by decide +kernel
theorem dX8_init_369 : decode cX8_init 369 = .ok (.bipush 121, 2) := by decide +kernel
theorem dX8_init_371 : decode cX8_init 371 = .ok (.castore, 1) := by decide +kernel
theorem dX8_init_372 : decode cX8_init 372 = .ok (.dup, 1) := by decide +kernel
theorem dX8_init_373 : decode cX8_init 373 = .ok (.iconst 4, 1) := by decide +kernel
theorem dX8_init_374 : decode cX8_init 374 = .ok (.bipush 115, 2) := by decide +kernel
theorem dX8_init_376 : decode cX8_init 376 = .ok (.castore, 1) := by decide +kernel
theorem dX8_init_377 : decode cX8_init 377 = .ok (.putfield 54, 3) := by decide +kernel
theorem dX8_init_380 : decode cX8_init 380 = .ok (.aload_n 0, 1) := by decide +kernel
theorem dX8_init_381 : decode cX8_init 381 = .ok (.iconst 5, 1) := by decide +kernel
theorem dX8_init_382 : decode cX8_init 382 = .ok (.newarray .char, 2) := by decide +kernel
theorem dX8_init_384 : decode cX8_init 384 = .ok (.dup, 1) := by decide +kernel
theorem dX8_init_385 : decode cX8_init 385 = .ok (.iconst 0, 1) := by decide +kernel
theorem dX8_init_386 : decode cX8_init 386 = .ok (.bipush 119, 2) := by decide +kernel
theorem dX8_init_388 : decode cX8_init 388 = .ok (.castore, 1) := by decide +kernel
theorem dX8_init_389 : decode cX8_init 389 = .ok (.dup, 1) := by decide +kernel
theorem dX8_init_390 : decode cX8_init 390 = .ok (.iconst 1, 1) := by decide +kernel
theorem dX8_init_391 : decode cX8_init 391 = .ok (.bipush 111, 2) := by decide +kernel
theorem dX8_init_393 : decode cX8_init 393 = .ok (.castore, 1) := by decide +kernel
theorem dX8_init_394 : decode cX8_init 394 = .ok (.dup, 1) := by decide +kernel
theorem dX8_init_395 : decode cX8_init 395 = .ok (.iconst 2, 1) := by decide +kernel
theorem dX8_init_396 : decode cX8_init 396 = .ok (.bipush 114, 2) := by decide +kernel
theorem dX8_init_398 : decode cX8_init 398 = .ok (.castore, 1) := by decide +kernel
theorem dX8_init_399 : decode cX8_init 399 = .ok (.dup, 1) := by decide +kernel
theorem dX8_init_400 : decode cX8_init 400 = .ok (.iconst 3, 1) := by decide +kernel
theorem dX8_init_401 : decode cX8_init 401 = .ok (.bipush 116, 2) := by decide +kernel
theorem dX8_init_403 : decode cX8_init 403 = .ok (.castore, 1) := by decide +kernel
theorem dX8_init_404 : decode cX8_init 404 = .ok (.dup, 1) := by decide +kernel
theorem dX8_init_405 : decode cX8_init 405 = .ok (.iconst 4, 1) := by decide +kernel
theorem dX8_init_406 : decode cX8_init 406 = .ok (.bipush 104, 2) := by decide +kernel
theorem dX8_init_408 : decode cX8_init 408 = .ok (.castore, 1) := by decide +kernel
theorem dX8_init_409 : decode cX8_init 409 = .ok (.putfield 57, 3) := by decide +kernel
theorem dX8_init_412 : decode cX8_init 412 = .ok (.aload_n 0, 1) := by decide +kernel
theorem dX8_init_413 : decode cX8_init 413 = .ok (.iconst 4, 1) := by decide +kernel
theorem dX8_init_414 : decode cX8_init 414 = .ok (.newarray .char, 2) := by decide +kernel
theorem dX8_init_416 : decode cX8_init 416 = .ok (.dup, 1) := by decide +kernel
theorem dX8_init_417 : decode cX8_init 417 = .ok (.iconst 0, 1) := by decide +kernel
theorem dX8_init_418 : decode cX8_init 418 = .ok (.bipush 104, 2) := by decide +kernel
theorem dX8_init_420 : decode cX8_init 420 = .ok (.castore, 1) := by decide +kernel
theorem dX8_init_421 : decode cX8_init 421 = .ok (.dup, 1) := by decide +kernel
theorem dX8_init_422 : decode cX8_init 422 = .ok (.iconst 1, 1) := by decide +kernel
theorem dX8_init_423 : decode cX8_init 423 = .ok (.bipush 117, 2) := by decide +kernel
theorem dX8_init_425 : decode cX8_init 425 = .ok (.castore, 1) := by decide +kernel
theorem dX8_init_426 : decode cX8_init 426 = .ok (.dup, 1) := by decide +kernel
theorem dX8_init_427 : decode cX8_init 427 = .ok (.iconst 2, 1) := by decide +kernel
theorem dX8_init_428 : decode cX8_init 428 = .ok (.bipush 115, 2) := by decide +kernel
theorem dX8_init_430 : decode cX8_init 430 = .ok (.castore, 1) := by decide +kernel
theorem dX8_init_431 : decode cX8_init 431 = .ok (.dup, 1) := by decide +kernel
theorem dX8_init_432 : decode cX8_init 432 = .ok (.iconst 3, 1) := by decide +kernel
theorem dX8_init_433 : decode cX8_init 433 = .ok (.bipush 104, 2) := by decide +kernel
theorem dX8_init_435 : decode cX8_init 435 = .ok (.castore, 1) := by decide +kernel
theorem dX8_init_436 : decode cX8_init 436 = .ok (.putfield 60, 3) := by decide +kernel
theorem dX8_init_439 : decode cX8_init 439 = .ok (.aload_n 0, 1) := by decide +kernel
theorem dX8_init_440 : decode cX8_init 440 = .ok (.iconst 4, 1) := by decide +kernel
theorem dX8_init_441 : decode cX8_init 441 = .ok (.newarray .char, 2) := by decide +kernel
theorem dX8_init_443 : decode cX8_init 443 = .ok (.dup, 1) := by decide +kernel
theorem dX8_init_444 : decode cX8_init 444 = .ok (.iconst 0, 1) := by decide +kernel
theorem dX8_init_445 : decode cX8_init 445 = .ok (.bipush 116, 2) := by decide +kernel
theorem dX8_init_447 : decode cX8_init 447 = .ok (.castore, 1) := by decide +kernel
theorem dX8_init_448 : decode cX8_init 448 = .ok (.dup, 1) := by decide +kernel
theorem dX8_init_449 : decode cX8_init 449 = .ok (.iconst 1, 1) := by decide +kernel
theorem dX8_init_450 : decode cX8_init 450 = .ok (.bipush 111, 2) := by decide +kernel
theorem dX8_init_452 : decode cX8_init 452 = .ok (.castore, 1) := by decide +kernel
theorem dX8_init_453 : decode cX8_init 453 = .ok (.dup, 1) := by decide +kernel
theorem dX8_init_454 : decode cX8_init 454 = .ok (.iconst 2, 1) := by decide +kernel
theorem dX8_init_455 : decode cX8_init 455 = .ok (.bipush 108, 2) := by decide +kernel
theorem dX8_init_457 : decode cX8_init 457 = .ok (.castore, 1) := by decide +kernel
theorem dX8_init_458 : decode cX8_init 458 = .ok (.dup, 1) := by decide +kernel
theorem dX8_init_459 : decode cX8_init 459 = .ok (.iconst 3, 1) := by decide +kernel
theorem dX8_init_460 : decode cX8_init 460 = .ok (.bipush 108, 2) := by decide +kernel
theorem dX8_init_462 : decode cX8_init 462 = .ok (.castore, 1) := by decide +kernel
theorem dX8_init_463 : decode cX8_init 463 = .ok (.putfield 63, 3) := by decide +kernel
theorem dX8_init_466 : decode cX8_init 466 = .ok (.aload_n 0, 1) := by decide +kernel
theorem dX8_init_467 : decode cX8_init 467 = .ok (.iconst 3, 1) := by decide +kernel
theorem dX8_init_468 : decode cX8_init 468 = .ok (.newarray .char, 2) := by decide +kernel
theorem dX8_init_470 : decode cX8_init 470 = .ok (.dup, 1) := by decide +kernel
theorem dX8_init_471 : decode cX8_init 471 = .ok (.iconst 0, 1) := by decide +kernel
theorem dX8_init_472 : decode cX8_init 472 = .ok (.bipush 97, 2) := by decide +kernel
theorem dX8_init_474 : decode cX8_init 474 = .ok (.castore, 1) := by decide +kernel
theorem dX8_init_475 : decode cX8_init 475 = .ok (.dup, 1) := by decide +kernel
theorem dX8_init_476 : decode cX8_init 476 = .ok (.iconst 1, 1) := by decide +kernel
theorem dX8_init_477 : decode cX8_init 477 = .ok (.bipush 103, 2) := by decide +kernel
theorem dX8_init_479 : decode cX8_init 479 = .ok (.castore, 1) := by decide +kernel
theorem dX8_init_480 : decode cX8_init 480 = .ok (.dup, 1) := by decide +kernel
theorem dX8_init_481 : decode cX8_init 481 = .ok (.iconst 2, 1) := by decide +kernel
theorem dX8_init_482 : decode cX8_init 482 = .ok (.bipush 101, 2) := by decide +kernel
theorem dX8_init_484 : decode cX8_init 484 = .ok (.castore, 1) := by decide +kernel
theorem dX8_init_485 : decode cX8_init 485 = .ok (.putfield 66, 3) := by decide +kernel
theorem dX8_init_488 : decode cX8_init 488 = .ok (.aload_n 0, 1) := by decide +kernel
theorem dX8_init_489 : decode cX8_init 489 = .ok (.iconst 5, 1) := by decide +kernel
theorem dX8_init_490 : decode cX8_init 490 = .ok (.newarray .char, 2) := by decide +kernel
theorem dX8_init_492 : decode cX8_init 492 = .ok (.dup, 1) := by decide +kernel
theorem dX8_init_493 : decode cX8_init 493 = .ok (.iconst 0, 1) := by decide +kernel
theorem dX8_init_494 : decode cX8_init 494 = .ok (.bipush 115, 2) := by decide +kernel
theorem dX8_init_496 : decode cX8_init 496 = .ok (.castore, 1) := by decide +kernel
theorem dX8_init_497 : decode cX8_init 497 = .ok (.dup, 1) := by decide +kernel
theorem dX8_init_498 : decode cX8_init 498 = .ok (.iconst 1, 1) := by decide +kernel
theorem dX8_init_499 : decode cX8_init 499 = .ok (.bipush 105, 2) := by decide +kernel
theorem dX8_init_501 : decode cX8_init 501 = .ok (.castore, 1) := by decide +kernel
theorem dX8_init_502 : decode cX8_init 502 = .ok (.dup, 1) := by decide +kernel
theorem dX8_init_503 : decode cX8_init 503 = .ok (.iconst 2, 1) := by decide +kernel
theorem dX8_init_504 : decode cX8_init 504 = .ok (.bipush 110, 2) := by decide +kernel
theorem dX8_init_506 : decode cX8_init 506 = .ok (.castore, 1) := by decide +kernel
theorem dX8_init_507 : decode cX8_init 507 = .ok (.dup, 1) := by decide +kernel
theorem dX8_init_508 : decode cX8_init 508 = .ok (.iconst 3, 1) := by decide +kernel
theorem dX8_init_509 : decode cX8_init 509 = .ok (.bipush 99, 2) := by decide +kernel
theorem dX8_init_511 : decode cX8_init 511 = .ok (.castore, 1) := by decide +kernel
theorem dX8_init_512 : decode cX8_init 512 = .ok (.dup, 1) := by decide +kernel
theorem dX8_init_513 : decode cX8_init 513 = .ok (.iconst 4, 1) := by decide +kernel
theorem dX8_init_514 : decode cX8_init 514 = .ok (.bipush 101, 2) := by decide +kernel
theorem dX8_init_516 : decode cX8_init 516 = .ok (.castore, 1) := by decide +kernel
theorem dX8_init_517 : decode cX8_init 517 = .ok (.putfield 69, 3) := by decide +kernel
theorem dX8_init_520 : decode cX8_init 520 = .ok (.aload_n 0, 1) := by decide +kernel
theorem dX8_init_521 : decode cX8_init 521 = .ok (.bipush 6, 2) := by decide +kernel
theorem dX8_init_523 : decode cX8_init 523 = .ok (.newarray .char, 2) := by decide +kernel
theorem dX8_init_525 : decode cX8_init 525 = .ok (.dup, 1) := by decide +kernel
theorem dX8_init_526 : decode cX8_init 526 = .ok (.iconst 0, 1) := by decide +kernel
theorem dX8_init_527 : decode cX8_init 527 = .ok (.bipush 112, 2) := by decide +kernel
theorem dX8_init_529 : decode cX8_init 529 = .ok (.castore, 1) := by decide +kernel
theorem dX8_init_530 : decode cX8_init 530 = .ok (.dup, 1) := by decide +kernel
theorem dX8_init_531 : decode cX8_init 531 = .ok (.iconst 1, 1) := by decide +kernel
theorem dX8_init_532 : decode cX8_init 532 = .ok (.bipush 108, 2) := by decide +kernel
theorem dX8_init_534 : decode cX8_init 534 = .ok (.castore, 1) := by decide +kernel
theorem dX8_init_535 : decode cX8_init 535 = .ok (.dup, 1) := by decide +kernel
theorem dX8_init_536 : decode cX8_init 536 = .ok (.iconst 2, 1) := by decide +kernel
theorem dX8_init_537 : decode cX8_init 537 = .ok (.bipush 97, 2) := by decide +kernel
theorem dX8_init_539 : decode cX8_init 539 = .ok (.castore, 1) := by decide +kernel
theorem dX8_init_540 : decode cX8_init 540 = .ok (.dup, 1) := by decide +kernel
theorem dX8_init_541 : decode cX8_init 541 = .ok (.iconst 3, 1) := by decide +kernel
theorem dX8_init_542 : decode cX8_init 542 = .ok (.bipush 121, 2) := by decide +kernel
theorem dX8_init_544 : decode cX8_init 544 = .ok (.castore, 1) := by decide +kernel
theorem dX8_init_545 : decode cX8_init 545 = .ok (.dup, 1) := by decide +kernel
theorem dX8_init_546 : decode cX8_init 546 = .ok (.iconst 4, 1) := by decide +kernel
theorem dX8_init_547 : decode cX8_init 547 = .ok (.bipush 101, 2) := by decide +kernel
theorem dX8_init_549 : decode cX8_init 549 = .ok (.castore, 1) := by decide +kernel
theorem dX8_init_550 : decode cX8_init 550 = .ok (.dup, 1) := by decide +kernel
theorem dX8_init_551 : decode cX8_init 551 = .ok (.iconst 5, 1) := by decide +kernel
theorem dX8_init_552 : decode cX8_init 552 = .ok (.bipush 100, 2) := by decide +kernel
theorem dX8_init_554 : decode cX8_init 554 = .ok (.castore, 1) := by decide +kernel
theorem dX8_init_555 : decode cX8_init 555 = .ok (.putfield 72, 3) := by decide +kernel
theorem dX8_init_558 : decode cX8_init 558 = .ok (.aload_n 0, 1) := by decide +kernel
theorem dX8_init_559 : decode cX8_init 559 = .ok (.iconst 3, 1) := by decide +kernel
theorem dX8_init_560 : decode cX8_init 560 = .ok (.newarray .char, 2) := by decide +kernel
theorem dX8_init_562 : decode cX8_init 562 = .ok (.dup, 1) := by decide +kernel
theorem dX8_init_563 : decode cX8_init 563 = .ok (.iconst 0, 1) := by decide +kernel
theorem dX8_init_564 : decode cX8_init 564 = .ok (.bipush 100, 2) := by decide +kernel
theorem dX8_init_566 : decode cX8_init 566 = .ok (.castore, 1) := by decide +kernel
theorem dX8_init_567 : decode cX8_init 567 = .ok (.dup, 1) := by decide +kernel
theorem dX8_init_568 : decode cX8_init 568 = .ok (.iconst 1, 1) := by decide +kernel
theorem dX8_init_569 : decode cX8_init 569 = .ok (.bipush 97, 2) := by decide +kernel
theorem dX8_init_571 : decode cX8_init 571 = .ok (.castore, 1) := by decide +kernel
theorem dX8_init_572 : decode cX8_init 572 = .ok (.dup, 1) := by decide +kernel
theorem dX8_init_573 : decode cX8_init 573 = .ok (.iconst 2, 1) := by decide +kernel
theorem dX8_init_574 : decode cX8_init 574 = .ok (.bipush 121, 2) := by decide +kernel
theorem dX8_init_576 : decode cX8_init 576 = .ok (.castore, 1) := by decide +kernel
theorem dX8_init_577 : decode cX8_init 577 = .ok (.putfield 75, 3) := by decide +kernel
theorem dX8_init_580 : decode cX8_init 580 = .ok (.aload_n 0, 1) := by decide +kernel
theorem dX8_init_581 : decode cX8_init 581 = .ok (.bipush 6, 2) := by decide +kernel
theorem dX8_init_583 : decode cX8_init 583 = .ok (.newarray .char, 2) := by decide +kernel
theorem dX8_init_585 : decode cX8_init 585 = .ok (.dup, 1) := by decide +kernel
theorem dX8_init_586 : decode cX8_init 586 = .ok (.iconst 0, 1) := by decide +kernel
theorem dX8_init_587 : decode cX8_init 587 = .ok (.bipush 110, 2) := by decide +kernel
theorem dX8_init_589 : decode cX8_init 589 = .ok (.castore, 1) := by decide +kernel
theorem dX8_init_590 : decode cX8_init 590 = .ok (.dup, 1) := by decide +kernel
theorem dX8_init_591 : decode cX8_init 591 = .ok (.iconst 1, 1) := by decide +kernel
theorem dX8_init_592 : decode cX8_init 592 = .ok (.bipush 117, 2) := by decide +kernel
theorem dX8_init_594 : decode cX8_init 594 = .ok (.castore, 1) := by decide +kernel
theorem dX8_init_595 : decode cX8_init 595 = .ok (.dup, 1) := by decide +kernel
theorem dX8_init_596 : decode cX8_init 596 = .ok (.iconst 2, 1) := by decide +kernel
theorem dX8_init_597 : decode cX8_init 597 = .ok (.bipush 109, 2) := by decide +kernel
theorem dX8_init_599 : decode cX8_init 599 = .ok (.castore, 1) := by decide +kernel
theorem dX8_init_600 : decode cX8_init 600 = .ok (.dup, 1) := by decide +kernel
theorem dX8_init_601 : decode cX8_init 601 = .ok (.iconst 3, 1) := by decide +kernel
theorem dX8_init_602 : decode cX8_init 602 = .ok (.bipush 98, 2) := by decide +kernel
theorem dX8_init_604 : decode cX8_init 604 = .ok (.castore, 1) := by decide +kernel
theorem dX8_init_605 : decode cX8_init 605 = .ok (.dup, 1) := by decide +kernel
theorem dX8_init_606 : decode cX8_init 606 = .ok (.iconst 4, 1) := by decide +kernel
theorem dX8_init_607 : decode cX8_init 607 = .ok (.bipush 101, 2) := by decide +kernel
theorem dX8_init_609 : decode cX8_init 609 = .ok (.castore, 1) := by decide +kernel
theorem dX8_init_610 : decode cX8_init 610 = .ok (.dup, 1) := by decide +kernel
theorem dX8_init_611 : decode cX8_init 611 = .ok (.iconst 5, 1) := by decide +kernel
theorem dX8_init_612 : decode cX8_init 612 = .ok (.bipush 114, 2) := by decide +kernel
theorem dX8_init_614 : decode cX8_init 614 = .ok (.castore, 1) := by decide +kernel
theorem dX8_init_615 : decode cX8_init 615 = .ok (.putfield 78, 3) := by decide +kernel
theorem dX8_init_618 : decode cX8_init 618 = .ok (.aload_n 0, 1) := by decide +kernel
theorem dX8_init_619 : decode cX8_init 619 = .ok (.iconst 5, 1) := by decide +kernel
theorem dX8_init_620 : decode cX8_init 620 = .ok (.newarray .char, 2) := by decide +kernel
theorem dX8_init_622 : decode cX8_init 622 = .ok (.dup, 1) := by decide +kernel
theorem dX8_init_623 : decode cX8_init 623 = .ok (.iconst 0, 1) := by decide +kernel
theorem dX8_init_624 : decode cX8_init 624 = .ok (.bipush 97, 2) := by decide +kernel
theorem dX8_init_626 : decode cX8_init 626 = .ok (.castore, 1) := by decide +kernel
theorem dX8_init_627 : decode cX8_init 627 = .ok (.dup, 1) := by decide +kernel
theorem dX8_init_628 : decode cX8_init 628 = .ok (.iconst 1, 1) := by decide +kernel
theorem dX8_init_629 : decode cX8_init 629 = .ok (.bipush 108, 2) := by decide +kernel
theorem dX8_init_631 : decode cX8_init 631 = .ok (.castore, 1) := by decide +kernel
theorem dX8_init_632 : decode cX8_init 632 = .ok (.dup, 1) := by decide +kernel
theorem dX8_init_633 : decode cX8_init 633 = .ok (.iconst 2, 1) := by decide +kernel
theorem dX8_init_634 : decode cX8_init 634 = .ok (.bipush 105, 2) := by decide +kernel
theorem dX8_init_636 : decode cX8_init 636 = .ok (.castore, 1) := by decide +kernel
theorem dX8_init_637 : decode cX8_init 637 = .ok (.dup, 1) := by decide +kernel
theorem dX8_init_638 : decode cX8_init 638 = .ok (.iconst 3, 1) := by decide +kernel
theorem dX8_init_639 : decode cX8_init 639 = .ok (.bipush 118, 2) := by decide +kernel
theorem dX8_init_641 : decode cX8_init 641 = .ok (.castore, 1) := by decide +kernel
theorem dX8_init_642 : decode cX8_init 642 = .ok (.dup, 1) := by decide +kernel
theorem dX8_init_643 : decode cX8_init 643 = .ok (.iconst 4, 1) := by decide +kernel
theorem dX8_init_644 : decode cX8_init 644 = .ok (.bipush 101, 2) := by decide +kernel
theorem dX8_init_646 : decode cX8_init 646 = .ok (.castore, 1) := by decide +kernel
theorem dX8_init_647 : decode cX8_init 647 = .ok (.putfield 81, 3) := by decide +kernel
theorem dX8_init_650 : decode cX8_init 650 = .ok (.aload_n 0, 1) := by decide +kernel
theorem dX8_init_651 : decode cX8_init 651 = .ok (.iconst 2, 1) := by decide +kernel
theorem dX8_init_652 : decode cX8_init 652 = .ok (.newarray .char, 2) := by decide +kernel
theorem dX8_init_654 : decode cX8_init 654 = .ok (.dup, 1) := by decide +kernel
theorem dX8_init_655 : decode cX8_init 655 = .ok (.iconst 0, 1) := by decide +kernel
theorem dX8_init_656 : decode cX8_init 656 = .ok (.bipush 111, 2) := by decide +kernel
theorem dX8_init_658 : decode cX8_init 658 = .ok (.castore, 1) := by decide +kernel
theorem dX8_init_659 : decode cX8_init 659 = .ok (.dup, 1) := by decide +kernel
theorem dX8_init_660 : decode cX8_init 660 = .ok (.iconst 1, 1) := by decide +kernel
theorem dX8_init_661 : decode cX8_init 661 = .ok (.bipush 110, 2) := by decide +kernel
theorem dX8_init_663 : decode cX8_init 663 = .ok (.castore, 1) := by decide +kernel
theorem dX8_init_664 : decode cX8_init 664 = .ok (.putfield 84, 3) := by decide +kernel
theorem dX8_init_667 : decode cX8_init 667 = .ok (.aload_n 0, 1) := by decide +kernel
theorem dX8_init_668 : decode cX8_init 668 = .ok (.iconst 2, 1) := by decide +kernel
theorem dX8_init_669 : decode cX8_init 669 = .ok (.newarray .char, 2) := by decide +kernel
theorem dX8_init_671 : decode cX8_init 671 = .ok (.dup, 1) := by decide +kernel
theorem dX8_init_672 : decode cX8_init 672 = .ok (.iconst 0, 1) := by decide +kernel
theorem dX8_init_673 : decode cX8_init 673 = .ok (.bipush 111, 2) := by decide +kernel
theorem dX8_init_675 : decode cX8_init 675 = .ok (.castore, 1) := by decide +kernel
theorem dX8_init_676 : decode cX8_init 676 = .ok (.dup, 1) := by decide +kernel
theorem dX8_init_677 : decode cX8_init 677 = .ok (.iconst 1, 1) := by decide +kernel
theorem dX8_init_678 : decode cX8_init 678 = .ok (.bipush 114, 2) := by decide +kernel
theorem dX8_init_680 : decode cX8_init 680 = .ok (.castore, 1) := by decide +kernel
theorem dX8_init_681 : decode cX8_init 681 = .ok (.putfield 87, 3) := by decide +kernel
theorem dX8_init_684 : decode cX8_init 684 = .ok (.aload_n 0, 1) := by decide +kernel
theorem dX8_init_685 : decode cX8_init 685 = .ok (.iconst 3, 1) := by decide +kernel
theorem dX8_init_686 : decode cX8_init 686 = .ok (.newarray .char, 2) := by decide +kernel
theorem dX8_init_688 : decode cX8_init 688 = .ok (.dup, 1) := by decide +kernel
theorem dX8_init_689 : decode cX8_init 689 = .ok (.iconst 0, 1) := by decide +kernel
theorem dX8_init_690 : decode cX8_init 690 = .ok (.bipush 97, 2) := by decide +kernel
theorem dX8_init_692 : decode cX8_init 692 = .ok (.castore, 1) := by decide +kernel
theorem dX8_init_693 : decode cX8_init 693 = .ok (.dup, 1) := by decide +kernel
theorem dX8_init_694 : decode cX8_init 694 = .ok (.iconst 1, 1) := by decide +kernel
theorem dX8_init_695 : decode cX8_init 695 = .ok (.bipush 110, 2) := by decide +kernel
theorem dX8_init_697 : decode cX8_init 697 = .ok (.castore, 1) := by decide +kernel
theorem dX8_init_698 : decode cX8_init 698 = .ok (.dup, 1) := by decide +kernel
theorem dX8_init_699 : decode cX8_init 699 = .ok (.iconst 2, 1) := by decide +kernel
theorem dX8_init_700 : decode cX8_init 700 = .ok (.bipush 100, 2) := by decide +kernel
theorem dX8_init_702 : decode cX8_init 702 = .ok (.castore, 1) := by decide +kernel
theorem dX8_init_703 : decode cX8_init 703 = .ok (.putfield 90, 3) := by decide +kernel
theorem dX8_init_706 : decode cX8_init 706 = .ok (.aload_n 0, 1) := by decide +kernel
theorem dX8_init_707 : decode cX8_init 707 = .ok (.iconst 3, 1) := by decide +kernel
theorem dX8_init_708 : decode cX8_init 708 = .ok (.newarray .char, 2) := by decide +kernel
theorem dX8_init_710 : decode cX8_init 710 = .ok (.dup, 1) := by decide +kernel
theorem dX8_init_711 : decode cX8_init 711 = .ok (.iconst 0, 1) := by decide +kernel
theorem dX8_init_712 : decode cX8_init 712 = .ok (.bipush 110, 2) := by decide +kernel
theorem dX8_init_714 : decode cX8_init 714 = .ok (.castore, 1) := by decide +kernel
theorem dX8_init_715 : decode cX8_init 715 = .ok (.dup, 1) := by decide +kernel
theorem dX8_init_716 : decode cX8_init 716 = .ok (.iconst 1, 1) := by decide +kernel
theorem dX8_init_717 : decode cX8_init 717 = .ok (.bipush 111, 2) := by decide +kernel
theorem dX8_init_719 : decode cX8_init 719 = .ok (.castore, 1) := by decide +kernel
theorem dX8_init_720 : decode cX8_init 720 = .ok (.dup, 1) := by decide +kernel
theorem dX8_init_721 : decode cX8_init 721 = .ok (.iconst 2, 1) := by decide +kernel
theorem dX8_init_722 : decode cX8_init 722 = .ok (.bipush 116, 2) := by decide +kernel
theorem dX8_init_724 : decode cX8_init 724 = .ok (.castore, 1) := by decide +kernel
theorem dX8_init_725 : decode cX8_init 725 = .ok (.putfield 93, 3) := by decide +kernel
theorem dX8_init_728 : decode cX8_init 728 = .ok (.aload_n 0, 1) := by decide +kernel
