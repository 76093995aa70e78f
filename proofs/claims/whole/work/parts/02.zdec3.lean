/-! what the bytes of the methods decode to -/
theorem dX8_asker_74 : decode cX8_asker 74 = .ok (.invokevirtual 510, 3) := by decide +kernel
theorem dX8_asker_77 : decode cX8_asker 77 = .ok (.ireturn, 1) := by decide +kernel
theorem dX8_asker_78 : decode cX8_asker 78 = .ok (.aload_n 0, 1) := by decide +kernel
theorem dX8_asker_79 : decode cX8_asker 79 = .ok (.iload_n 1, 1) := by decide +kernel
theorem dX8_asker_80 : decode cX8_asker 80 = .ok (.invokevirtual 436, 3) := by decide +kernel
theorem dX8_asker_83 : decode cX8_asker 83 = .ok (.ifCond .eq 7, 3) := by decide +kernel
theorem dX8_asker_86 : decode cX8_asker 86 = .ok (.iconst 1, 1) := by decide +kernel
theorem dX8_asker_87 : decode cX8_asker 87 = .ok (.goto 4, 3) := by decide +kernel
theorem dX8_asker_90 : decode cX8_asker 90 = .ok (.iconst 0, 1) := by decide +kernel
theorem dX8_asker_91 : decode cX8_asker 91 = .ok (.ireturn, 1) := by decide +kernel
theorem dX8_asker_92 : decode cX8_asker 92 = .ok (.iconst (-1), 1) := by decide +kernel
theorem dX8_asker_93 : decode cX8_asker 93 = .ok (.ireturn, 1) := by decide +kernel
theorem dX8_worth_0 : decode cX8_worth 0 = .ok (.aload_n 0, 1) := by decide +kernel
theorem dX8_worth_1 : decode cX8_worth 1 = .ok (.iload_n 1, 1) := by decide +kernel
theorem dX8_worth_2 : decode cX8_worth 2 = .ok (.invokevirtual 507, 3) := by decide +kernel
theorem dX8_worth_5 : decode cX8_worth 5 = .ok (.ifCond .eq 11, 3) := by decide +kernel
theorem dX8_worth_8 : decode cX8_worth 8 = .ok (.aload_n 0, 1) := by decide +kernel
theorem dX8_worth_9 : decode cX8_worth 9 = .ok (.iload_n 1, 1) := by decide +kernel
theorem dX8_worth_10 : decode cX8_worth 10 = .ok (.invokevirtual 439, 3) := by decide +kernel
theorem dX8_worth_13 : decode cX8_worth 13 = .ok (.goto 6, 3) := by decide +kernel
theorem dX8_worth_16 : decode cX8_worth 16 = .ok (.ldc2_w 513, 3) := by decide +kernel
theorem dX8_worth_19 : decode cX8_worth 19 = .ok (.lreturn, 1) := by decide +kernel
theorem dX8_best_0 : decode cX8_best 0 = .ok (.aload_n 0, 1) := by decide +kernel
theorem dX8_best_1 : decode cX8_best 1 = .ok (.getfield 385, 3) := by decide +kernel
theorem dX8_best_4 : decode cX8_best 4 = .ok (.ifCond .eq 13, 3) := by decide +kernel
theorem dX8_best_7 : decode cX8_best 7 = .ok (.iload_n 1, 1) := by decide +kernel
theorem dX8_best_8 : decode cX8_best 8 = .ok (.i2l, 1) := by decide +kernel
theorem dX8_best_9 : decode cX8_best 9 = .ok (.lconst 0, 1) := by decide +kernel
theorem dX8_best_10 : decode cX8_best 10 = .ok (.lconst 1, 1) := by decide +kernel
theorem dX8_best_11 : decode cX8_best 11 = .ok (.invokestatic 289, 3) := by decide +kernel
theorem dX8_best_14 : decode cX8_best 14 = .ok (.ifCond .ne 5, 3) := by decide +kernel
theorem dX8_best_17 : decode cX8_best 17 = .ok (.iconst (-1), 1) := by decide +kernel
theorem dX8_best_18 : decode cX8_best 18 = .ok (.ireturn, 1) := by decide +kernel
theorem dX8_best_19 : decode cX8_best 19 = .ok (.aload_n 0, 1) := by decide +kernel
theorem dX8_best_20 : decode cX8_best 20 = .ok (.invokevirtual 479, 3) := by decide +kernel
theorem dX8_best_23 : decode cX8_best 23 = .ok (.iload_n 1, 1) := by decide +kernel
theorem dX8_best_24 : decode cX8_best 24 = .ok (.ifCond .ne 10, 3) := by decide +kernel
theorem dX8_best_27 : decode cX8_best 27 = .ok (.aload_n 0, 1) := by decide +kernel
theorem dX8_best_28 : decode cX8_best 28 = .ok (.getfield 449, 3) := by decide +kernel
theorem dX8_best_31 : decode cX8_best 31 = .ok (.goto 7, 3) := by decide +kernel
theorem dX8_best_34 : decode cX8_best 34 = .ok (.aload_n 0, 1) := by decide +kernel
theorem dX8_best_35 : decode cX8_best 35 = .ok (.getfield 452, 3) := by decide +kernel
theorem dX8_best_38 : decode cX8_best 38 = .ok (.ireturn, 1) := by decide +kernel
theorem dX8_kept_0 : decode cX8_kept 0 = .ok (.iload_n 1, 1) := by decide +kernel
theorem dX8_kept_1 : decode cX8_kept 1 = .ok (.i2l, 1) := by decide +kernel
theorem dX8_kept_2 : decode cX8_kept 2 = .ok (.lconst 0, 1) := by decide +kernel
theorem dX8_kept_3 : decode cX8_kept 3 = .ok (.aload_n 0, 1) := by decide +kernel
theorem dX8_kept_4 : decode cX8_kept 4 = .ok (.getfield 133, 3) := by decide +kernel
theorem dX8_kept_7 : decode cX8_kept 7 = .ok (.bipush 42, 2) := by decide +kernel
theorem dX8_kept_9 : decode cX8_kept 9 = .ok (.iaload, 1) := by decide +kernel
theorem dX8_kept_10 : decode cX8_kept 10 = .ok (.iconst 1, 1) := by decide +kernel
theorem dX8_kept_11 : decode cX8_kept 11 = .ok (.isub, 1) := by decide +kernel
theorem dX8_kept_12 : decode cX8_kept 12 = .ok (.i2l, 1) := by decide +kernel
theorem dX8_kept_13 : decode cX8_kept 13 = .ok (.invokestatic 289, 3) := by decide +kernel
theorem dX8_kept_16 : decode cX8_kept 16 = .ok (.ifCond .eq 31, 3) := by decide +kernel
theorem dX8_kept_19 : decode cX8_kept 19 = .ok (.iload_n 2, 1) := by decide +kernel
theorem dX8_kept_20 : decode cX8_kept 20 = .ok (.i2l, 1) := by decide +kernel
theorem dX8_kept_21 : decode cX8_kept 21 = .ok (.lconst 0, 1) := by decide +kernel
theorem dX8_kept_22 : decode cX8_kept 22 = .ok (.ldc2_w 500, 3) := by decide +kernel
theorem dX8_kept_25 : decode cX8_kept 25 = .ok (.invokestatic 289, 3) := by decide +kernel
theorem dX8_kept_28 : decode cX8_kept 28 = .ok (.ifCond .eq 19, 3) := by decide +kernel
theorem dX8_kept_31 : decode cX8_kept 31 = .ok (.aload_n 0, 1) := by decide +kernel
theorem dX8_kept_32 : decode cX8_kept 32 = .ok (.getfield 133, 3) := by decide +kernel
theorem dX8_kept_35 : decode cX8_kept 35 = .ok (.bipush 43, 2) := by decide +kernel
theorem dX8_kept_37 : decode cX8_kept 37 = .ok (.iconst 3, 1) := by decide +kernel
theorem dX8_kept_38 : decode cX8_kept 38 = .ok (.iload_n 1, 1) := by decide +kernel
theorem dX8_kept_39 : decode cX8_kept 39 = .ok (.imul, 1) := by decide +kernel
theorem dX8_kept_40 : decode cX8_kept 40 = .ok (.iadd, 1) := by decide +kernel
theorem dX8_kept_41 : decode cX8_kept 41 = .ok (.iload_n 2, 1) := by decide +kernel
theorem dX8_kept_42 : decode cX8_kept 42 = .ok (.iadd, 1) := by decide +kernel
theorem dX8_kept_43 : decode cX8_kept 43 = .ok (.iaload, 1) := by decide +kernel
theorem dX8_kept_44 : decode cX8_kept 44 = .ok (.goto 4, 3) := by decide +kernel
theorem dX8_kept_47 : decode cX8_kept 47 = .ok (.iconst (-1), 1) := by decide +kernel
theorem dX8_kept_48 : decode cX8_kept 48 = .ok (.ireturn, 1) := by decide +kernel
theorem dX8_later_0 : decode cX8_later 0 = .ok (.aload_n 0, 1) := by decide +kernel
theorem dX8_later_1 : decode cX8_later 1 = .ok (.iload_n 1, 1) := by decide +kernel
theorem dX8_later_2 : decode cX8_later 2 = .ok (.iconst 0, 1) := by decide +kernel
theorem dX8_later_3 : decode cX8_later 3 = .ok (.bipush 60, 2) := by decide +kernel
theorem dX8_later_5 : decode cX8_later 5 = .ok (.invokevirtual 515, 3) := by decide +kernel
theorem dX8_later_8 : decode cX8_later 8 = .ok (.ifCond .ne 5, 3) := by decide +kernel
theorem dX8_later_11 : decode cX8_later 11 = .ok (.iconst (-1), 1) := by decide +kernel
theorem dX8_later_12 : decode cX8_later 12 = .ok (.ireturn, 1) := by decide +kernel
theorem dX8_later_13 : decode cX8_later 13 = .ok (.aload_n 0, 1) := by decide +kernel
theorem dX8_later_14 : decode cX8_later 14 = .ok (.invokevirtual 518, 3) := by decide +kernel
theorem dX8_later_17 : decode cX8_later 17 = .ok (.aload_n 0, 1) := by decide +kernel
theorem dX8_later_18 : decode cX8_later 18 = .ok (.iload_n 1, 1) := by decide +kernel
theorem dX8_later_19 : decode cX8_later 19 = .ok (.invokevirtual 521, 3) := by decide +kernel
theorem dX8_later_22 : decode cX8_later 22 = .ok (.aload_n 0, 1) := by decide +kernel
theorem dX8_later_23 : decode cX8_later 23 = .ok (.invokevirtual 479, 3) := by decide +kernel
theorem dX8_later_26 : decode cX8_later 26 = .ok (.aload_n 0, 1) := by decide +kernel
theorem dX8_later_27 : decode cX8_later 27 = .ok (.invokevirtual 524, 3) := by decide +kernel
theorem dX8_later_30 : decode cX8_later 30 = .ok (.aload_n 0, 1) := by decide +kernel
theorem dX8_later_31 : decode cX8_later 31 = .ok (.getfield 449, 3) := by decide +kernel
theorem dX8_later_34 : decode cX8_later 34 = .ok (.ireturn, 1) := by decide +kernel
theorem dX8_minded_0 : decode cX8_minded 0 = .ok (.aload_n 0, 1) := by decide +kernel
theorem dX8_minded_1 : decode cX8_minded 1 = .ok (.iload_n 1, 1) := by decide +kernel
theorem dX8_minded_2 : decode cX8_minded 2 = .ok (.invokevirtual 507, 3) := by decide +kernel
theorem dX8_minded_5 : decode cX8_minded 5 = .ok (.ifCond .eq 14, 3) := by decide +kernel
theorem dX8_minded_8 : decode cX8_minded 8 = .ok (.aload_n 0, 1) := by decide +kernel
theorem dX8_minded_9 : decode cX8_minded 9 = .ok (.iload_n 2, 1) := by decide +kernel
theorem dX8_minded_10 : decode cX8_minded 10 = .ok (.iconst 0, 1) := by decide +kernel
theorem dX8_minded_11 : decode cX8_minded 11 = .ok (.bipush 60, 2) := by decide +kernel
theorem dX8_minded_13 : decode cX8_minded 13 = .ok (.invokevirtual 515, 3) := by decide +kernel
theorem dX8_minded_16 : decode cX8_minded 16 = .ok (.ifCond .ne 5, 3) := by decide +kernel
theorem dX8_minded_19 : decode cX8_minded 19 = .ok (.iconst (-1), 1) := by decide +kernel
theorem dX8_minded_20 : decode cX8_minded 20 = .ok (.ireturn, 1) := by decide +kernel
theorem dX8_minded_21 : decode cX8_minded 21 = .ok (.aload_n 0, 1) := by decide +kernel
theorem dX8_minded_22 : decode cX8_minded 22 = .ok (.invokevirtual 518, 3) := by decide +kernel
theorem dX8_minded_25 : decode cX8_minded 25 = .ok (.aload_n 0, 1) := by decide +kernel
theorem dX8_minded_26 : decode cX8_minded 26 = .ok (.iload_n 2, 1) := by decide +kernel
theorem dX8_minded_27 : decode cX8_minded 27 = .ok (.invokevirtual 521, 3) := by decide +kernel
theorem dX8_minded_30 : decode cX8_minded 30 = .ok (.aload_n 0, 1) := by decide +kernel
theorem dX8_minded_31 : decode cX8_minded 31 = .ok (.iload_n 1, 1) := by decide +kernel
theorem dX8_minded_32 : decode cX8_minded 32 = .ok (.invokevirtual 425, 3) := by decide +kernel
theorem dX8_minded_35 : decode cX8_minded 35 = .ok (.istore_n 3, 1) := by decide +kernel
theorem dX8_minded_36 : decode cX8_minded 36 = .ok (.aload_n 0, 1) := by decide +kernel
theorem dX8_minded_37 : decode cX8_minded 37 = .ok (.invokevirtual 524, 3) := by decide +kernel
theorem dX8_minded_40 : decode cX8_minded 40 = .ok (.iload_n 3, 1) := by decide +kernel
theorem dX8_minded_41 : decode cX8_minded 41 = .ok (.ireturn, 1) := by decide +kernel
theorem dX8_nothing_0 : decode cX8_nothing 0 = .ok (.aload_n 0, 1) := by decide +kernel
theorem dX8_nothing_1 : decode cX8_nothing 1 = .ok (.getfield 385, 3) := by decide +kernel
theorem dX8_nothing_4 : decode cX8_nothing 4 = .ok (.ifCond .ne 5, 3) := by decide +kernel
theorem dX8_nothing_7 : decode cX8_nothing 7 = .ok (.iconst (-1), 1) := by decide +kernel
theorem dX8_nothing_8 : decode cX8_nothing 8 = .ok (.ireturn, 1) := by decide +kernel
theorem dX8_nothing_9 : decode cX8_nothing 9 = .ok (.iconst (-1), 1) := by decide +kernel
theorem dX8_nothing_10 : decode cX8_nothing 10 = .ok (.istore_n 1, 1) := by decide +kernel
theorem dX8_nothing_11 : decode cX8_nothing 11 = .ok (.aload_n 0, 1) := by decide +kernel
theorem dX8_nothing_12 : decode cX8_nothing 12 = .ok (.invokevirtual 518, 3) := by decide +kernel
theorem dX8_nothing_15 : decode cX8_nothing 15 = .ok (.iconst 0, 1) := by decide +kernel
theorem dX8_nothing_16 : decode cX8_nothing 16 = .ok (.istore_n 2, 1) := by decide +kernel
theorem dX8_nothing_17 : decode cX8_nothing 17 = .ok (.iload_n 2, 1) := by decide +kernel
theorem dX8_nothing_18 : decode cX8_nothing 18 = .ok (.bipush 60, 2) := by decide +kernel
theorem dX8_nothing_20 : decode cX8_nothing 20 = .ok (.if_icmp .gt 39, 3) := by decide +kernel
theorem dX8_nothing_23 : decode cX8_nothing 23 = .ok (.iload_n 1, 1) := by decide +kernel
theorem dX8_nothing_24 : decode cX8_nothing 24 = .ok (.iconst (-1), 1) := by decide +kernel
theorem dX8_nothing_25 : decode cX8_nothing 25 = .ok (.if_icmp .ne 34, 3) := by decide +kernel
theorem dX8_nothing_28 : decode cX8_nothing 28 = .ok (.aload_n 0, 1) := by decide +kernel
theorem dX8_nothing_29 : decode cX8_nothing 29 = .ok (.getfield 133, 3) := by decide +kernel
theorem dX8_nothing_32 : decode cX8_nothing 32 = .ok (.iconst 0, 1) := by decide +kernel
theorem dX8_nothing_33 : decode cX8_nothing 33 = .ok (.iaload, 1) := by decide +kernel
theorem dX8_nothing_34 : decode cX8_nothing 34 = .ok (.sipush 999, 3) := by decide +kernel
theorem dX8_nothing_37 : decode cX8_nothing 37 = .ok (.if_icmp .gt 22, 3) := by decide +kernel
theorem dX8_nothing_40 : decode cX8_nothing 40 = .ok (.aload_n 0, 1) := by decide +kernel
theorem dX8_nothing_41 : decode cX8_nothing 41 = .ok (.invokevirtual 485, 3) := by decide +kernel
theorem dX8_nothing_44 : decode cX8_nothing 44 = .ok (.aload_n 0, 1) := by decide +kernel
theorem dX8_nothing_45 : decode cX8_nothing 45 = .ok (.getfield 449, 3) := by decide +kernel
theorem dX8_nothing_48 : decode cX8_nothing 48 = .ok (.ifCond .ne 5, 3) := by decide +kernel
theorem dX8_nothing_51 : decode cX8_nothing 51 = .ok (.iload_n 2, 1) := by decide +kernel
theorem dX8_nothing_52 : decode cX8_nothing 52 = .ok (.istore_n 1, 1) := by decide +kernel
theorem dX8_nothing_53 : decode cX8_nothing 53 = .ok (.iinc 2 1, 3) := by decide +kernel
theorem dX8_nothing_56 : decode cX8_nothing 56 = .ok (.goto (-39), 3) := by decide +kernel
theorem dX8_nothing_59 : decode cX8_nothing 59 = .ok (.aload_n 0, 1) := by decide +kernel
theorem dX8_nothing_60 : decode cX8_nothing 60 = .ok (.invokevirtual 524, 3) := by decide +kernel
theorem dX8_nothing_63 : decode cX8_nothing 63 = .ok (.iload_n 1, 1) := by decide +kernel
theorem dX8_nothing_64 : decode cX8_nothing 64 = .ok (.ireturn, 1) := by decide +kernel
theorem dX8_hushed_0 : decode cX8_hushed 0 = .ok (.aload_n 0, 1) := by decide +kernel
theorem dX8_hushed_1 : decode cX8_hushed 1 = .ok (.getfield 385, 3) := by decide +kernel
theorem dX8_hushed_4 : decode cX8_hushed 4 = .ok (.ifCond .ne 5, 3) := by decide +kernel
theorem dX8_hushed_7 : decode cX8_hushed 7 = .ok (.iconst (-1), 1) := by decide +kernel
theorem dX8_hushed_8 : decode cX8_hushed 8 = .ok (.ireturn, 1) := by decide +kernel
theorem dX8_hushed_9 : decode cX8_hushed 9 = .ok (.iconst 0, 1) := by decide +kernel
theorem dX8_hushed_10 : decode cX8_hushed 10 = .ok (.istore_n 1, 1) := by decide +kernel
theorem dX8_hushed_11 : decode cX8_hushed 11 = .ok (.aload_n 0, 1) := by decide +kernel
theorem dX8_hushed_12 : decode cX8_hushed 12 = .ok (.invokevirtual 518, 3) := by decide +kernel
theorem dX8_hushed_15 : decode cX8_hushed 15 = .ok (.aload_n 0, 1) := by decide +kernel
theorem dX8_hushed_16 : decode cX8_hushed 16 = .ok (.getfield 133, 3) := by decide +kernel
theorem dX8_hushed_19 : decode cX8_hushed 19 = .ok (.iconst 1, 1) := by decide +kernel
theorem dX8_hushed_20 : decode cX8_hushed 20 = .ok (.iaload, 1) := by decide +kernel
theorem dX8_hushed_21 : decode cX8_hushed 21 = .ok (.ifCond .le 31, 3) := by decide +kernel
theorem dX8_hushed_24 : decode cX8_hushed 24 = .ok (.iload_n 1, 1) := by decide +kernel
theorem dX8_hushed_25 : decode cX8_hushed 25 = .ok (.bipush 60, 2) := by decide +kernel
theorem dX8_hushed_27 : decode cX8_hushed 27 = .ok (.if_icmp .ge 25, 3) := by decide +kernel
theorem dX8_hushed_30 : decode cX8_hushed 30 = .ok (.aload_n 0, 1) := by decide +kernel
theorem dX8_hushed_31 : decode cX8_hushed 31 = .ok (.getfield 133, 3) := by decide +kernel
theorem dX8_hushed_34 : decode cX8_hushed 34 = .ok (.iconst 0, 1) := by decide +kernel
theorem dX8_hushed_35 : decode cX8_hushed 35 = .ok (.iaload, 1) := by decide +kernel
theorem dX8_hushed_36 : decode cX8_hushed 36 = .ok (.sipush 999, 3) := by decide +kernel
theorem dX8_hushed_39 : decode cX8_hushed 39 = .ok (.if_icmp .ge 13, 3) := by decide +kernel
theorem dX8_hushed_42 : decode cX8_hushed 42 = .ok (.aload_n 0, 1) := by decide +kernel
theorem dX8_hushed_43 : decode cX8_hushed 43 = .ok (.invokevirtual 485, 3) := by decide +kernel
theorem dX8_hushed_46 : decode cX8_hushed 46 = .ok (.iinc 1 1, 3) := by decide +kernel
theorem dX8_hushed_49 : decode cX8_hushed 49 = .ok (.goto (-34), 3) := by decide +kernel
theorem dX8_hushed_52 : decode cX8_hushed 52 = .ok (.aload_n 0, 1) := by decide +kernel
theorem dX8_hushed_53 : decode cX8_hushed 53 = .ok (.getfield 133, 3) := by decide +kernel
theorem dX8_hushed_56 : decode cX8_hushed 56 = .ok (.iconst 1, 1) := by decide +kernel
theorem dX8_hushed_57 : decode cX8_hushed 57 = .ok (.iaload, 1) := by decide +kernel
theorem dX8_hushed_58 : decode cX8_hushed 58 = .ok (.ifCond .ne 7, 3) := by decide +kernel
theorem dX8_hushed_61 : decode cX8_hushed 61 = .ok (.iconst 1, 1) := by decide +kernel
theorem dX8_hushed_62 : decode cX8_hushed 62 = .ok (.goto 4, 3) := by decide +kernel
theorem dX8_hushed_65 : decode cX8_hushed 65 = .ok (.iconst 0, 1) := by decide +kernel
theorem dX8_hushed_66 : decode cX8_hushed 66 = .ok (.istore_n 2, 1) := by decide +kernel
theorem dX8_hushed_67 : decode cX8_hushed 67 = .ok (.aload_n 0, 1) := by decide +kernel
theorem dX8_hushed_68 : decode cX8_hushed 68 = .ok (.invokevirtual 524, 3) := by decide +kernel
theorem dX8_hushed_71 : decode cX8_hushed 71 = .ok (.iload_n 2, 1) := by decide +kernel
theorem dX8_hushed_72 : decode cX8_hushed 72 = .ok (.ifCond .eq 7, 3) := by decide +kernel
theorem dX8_hushed_75 : decode cX8_hushed 75 = .ok (.iload_n 1, 1) := by decide +kernel
theorem dX8_hushed_76 : decode cX8_hushed 76 = .ok (.goto 4, 3) := by decide +kernel
theorem dX8_hushed_79 : decode cX8_hushed 79 = .ok (.iconst (-1), 1) := by decide +kernel
theorem dX8_hushed_80 : decode cX8_hushed 80 = .ok (.ireturn, 1) := by decide +kernel
theorem dX8_canBeFull_0 : decode cX8_canBeFull 0 = .ok (.iconst 1, 1) := by decide +kernel
theorem dX8_canBeFull_1 : decode cX8_canBeFull 1 = .ok (.istore_n 1, 1) := by decide +kernel
theorem dX8_canBeFull_2 : decode cX8_canBeFull 2 = .ok (.iload_n 1, 1) := by decide +kernel
theorem dX8_canBeFull_3 : decode cX8_canBeFull 3 = .ok (.iconst 1, 1) := by decide +kernel
theorem dX8_canBeFull_4 : decode cX8_canBeFull 4 = .ok (.aload_n 0, 1) := by decide +kernel
theorem dX8_canBeFull_5 : decode cX8_canBeFull 5 = .ok (.invokevirtual 395, 3) := by decide +kernel
theorem dX8_canBeFull_8 : decode cX8_canBeFull 8 = .ok (.ishl, 1) := by decide +kernel
theorem dX8_canBeFull_9 : decode cX8_canBeFull 9 = .ok (.if_icmp .ge 36, 3) := by decide +kernel
theorem dX8_canBeFull_12 : decode cX8_canBeFull 12 = .ok (.iload_n 1, 1) := by decide +kernel
theorem dX8_canBeFull_13 : decode cX8_canBeFull 13 = .ok (.aload_n 0, 1) := by decide +kernel
theorem dX8_canBeFull_14 : decode cX8_canBeFull 14 = .ok (.getfield 433, 3) := by decide +kernel
theorem dX8_canBeFull_17 : decode cX8_canBeFull 17 = .ok (.iconst (-1), 1) := by decide +kernel
theorem dX8_canBeFull_18 : decode cX8_canBeFull 18 = .ok (.ixor, 1) := by decide +kernel
theorem dX8_canBeFull_19 : decode cX8_canBeFull 19 = .ok (.iand, 1) := by decide +kernel
theorem dX8_canBeFull_20 : decode cX8_canBeFull 20 = .ok (.ifCond .ne 19, 3) := by decide +kernel
theorem dX8_canBeFull_23 : decode cX8_canBeFull 23 = .ok (.aload_n 0, 1) := by decide +kernel
theorem dX8_canBeFull_24 : decode cX8_canBeFull 24 = .ok (.iload_n 1, 1) := by decide +kernel
theorem dX8_canBeFull_25 : decode cX8_canBeFull 25 = .ok (.invokevirtual 455, 3) := by decide +kernel
theorem dX8_canBeFull_28 : decode cX8_canBeFull 28 = .ok (.aload_n 0, 1) := by decide +kernel
theorem dX8_canBeFull_29 : decode cX8_canBeFull 29 = .ok (.getfield 105, 3) := by decide +kernel
theorem dX8_canBeFull_32 : decode cX8_canBeFull 32 = .ok (.iconst 3, 1) := by decide +kernel
theorem dX8_canBeFull_33 : decode cX8_canBeFull 33 = .ok (.iaload, 1) := by decide +kernel
theorem dX8_canBeFull_34 : decode cX8_canBeFull 34 = .ok (.if_icmp .ne 5, 3) := by decide +kernel
theorem dX8_canBeFull_37 : decode cX8_canBeFull 37 = .ok (.iconst 1, 1) := by decide +kernel
theorem dX8_canBeFull_38 : decode cX8_canBeFull 38 = .ok (.ireturn, 1) := by decide +kernel
theorem dX8_canBeFull_39 : decode cX8_canBeFull 39 = .ok (.iinc 1 1, 3) := by decide +kernel
theorem dX8_canBeFull_42 : decode cX8_canBeFull 42 = .ok (.goto (-40), 3) := by decide +kernel
theorem dX8_canBeFull_45 : decode cX8_canBeFull 45 = .ok (.iconst 0, 1) := by decide +kernel
theorem dX8_canBeFull_46 : decode cX8_canBeFull 46 = .ok (.ireturn, 1) := by decide +kernel
theorem dX8_full_0 : decode cX8_full 0 = .ok (.aload_n 0, 1) := by decide +kernel
theorem dX8_full_1 : decode cX8_full 1 = .ok (.iconst 1, 1) := by decide +kernel
theorem dX8_full_2 : decode cX8_full 2 = .ok (.iconst 1, 1) := by decide +kernel
theorem dX8_full_3 : decode cX8_full 3 = .ok (.iconst 1, 1) := by decide +kernel
theorem dX8_full_4 : decode cX8_full 4 = .ok (.invokevirtual 515, 3) := by decide +kernel
theorem dX8_full_7 : decode cX8_full 7 = .ok (.ifCond .ne 5, 3) := by decide +kernel
theorem dX8_full_10 : decode cX8_full 10 = .ok (.iconst (-1), 1) := by decide +kernel
theorem dX8_full_11 : decode cX8_full 11 = .ok (.ireturn, 1) := by decide +kernel
theorem dX8_full_12 : decode cX8_full 12 = .ok (.iconst 0, 1) := by decide +kernel
theorem dX8_full_13 : decode cX8_full 13 = .ok (.istore_n 1, 1) := by decide +kernel
theorem dX8_full_14 : decode cX8_full 14 = .ok (.aload_n 0, 1) := by decide +kernel
theorem dX8_full_15 : decode cX8_full 15 = .ok (.invokevirtual 518, 3) := by decide +kernel
theorem dX8_full_18 : decode cX8_full 18 = .ok (.aload_n 0, 1) := by decide +kernel
theorem dX8_full_19 : decode cX8_full 19 = .ok (.invokevirtual 446, 3) := by decide +kernel
theorem dX8_full_22 : decode cX8_full 22 = .ok (.aload_n 0, 1) := by decide +kernel
theorem dX8_full_23 : decode cX8_full 23 = .ok (.getfield 433, 3) := by decide +kernel
theorem dX8_full_26 : decode cX8_full 26 = .ok (.istore_n 2, 1) := by decide +kernel
theorem dX8_full_27 : decode cX8_full 27 = .ok (.iconst 0, 1) := by decide +kernel
theorem dX8_full_28 : decode cX8_full 28 = .ok (.istore_n 3, 1) := by decide +kernel
theorem dX8_full_29 : decode cX8_full 29 = .ok (.iload_n 3, 1) := by decide +kernel
theorem dX8_full_30 : decode cX8_full 30 = .ok (.iconst 1, 1) := by decide +kernel
theorem dX8_full_31 : decode cX8_full 31 = .ok (.aload_n 0, 1) := by decide +kernel
theorem dX8_full_32 : decode cX8_full 32 = .ok (.invokevirtual 395, 3) := by decide +kernel
theorem dX8_full_35 : decode cX8_full 35 = .ok (.ishl, 1) := by decide +kernel
theorem dX8_full_36 : decode cX8_full 36 = .ok (.if_icmp .ge 94, 3) := by decide +kernel
theorem dX8_full_39 : decode cX8_full 39 = .ok (.iload_n 3, 1) := by decide +kernel
theorem dX8_full_40 : decode cX8_full 40 = .ok (.iload_n 2, 1) := by decide +kernel
theorem dX8_full_41 : decode cX8_full 41 = .ok (.iconst (-1), 1) := by decide +kernel
theorem dX8_full_42 : decode cX8_full 42 = .ok (.ixor, 1) := by decide +kernel
theorem dX8_full_43 : decode cX8_full 43 = .ok (.iand, 1) := by decide +kernel
theorem dX8_full_44 : decode cX8_full 44 = .ok (.ifCond .eq 6, 3) := by decide +kernel
theorem dX8_full_47 : decode cX8_full 47 = .ok (.goto 77, 3) := by decide +kernel
theorem dX8_full_50 : decode cX8_full 50 = .ok (.aload_n 0, 1) := by decide +kernel
theorem dX8_full_51 : decode cX8_full 51 = .ok (.iload_n 3, 1) := by decide +kernel
theorem dX8_full_52 : decode cX8_full 52 = .ok (.invokevirtual 455, 3) := by decide +kernel
theorem dX8_full_55 : decode cX8_full 55 = .ok (.istore 4, 2) := by decide +kernel
theorem dX8_full_57 : decode cX8_full 57 = .ok (.iload 4, 2) := by decide +kernel
theorem dX8_full_59 : decode cX8_full 59 = .ok (.aload_n 0, 1) := by decide +kernel
theorem dX8_full_60 : decode cX8_full 60 = .ok (.getfield 105, 3) := by decide +kernel
theorem dX8_full_63 : decode cX8_full 63 = .ok (.iconst 3, 1) := by decide +kernel
theorem dX8_full_64 : decode cX8_full 64 = .ok (.iaload, 1) := by decide +kernel
theorem dX8_full_65 : decode cX8_full 65 = .ok (.if_icmp .le 6, 3) := by decide +kernel
theorem dX8_full_68 : decode cX8_full 68 = .ok (.goto 56, 3) := by decide +kernel
theorem dX8_full_71 : decode cX8_full 71 = .ok (.aload_n 0, 1) := by decide +kernel
theorem dX8_full_72 : decode cX8_full 72 = .ok (.iload_n 3, 1) := by decide +kernel
theorem dX8_full_73 : decode cX8_full 73 = .ok (.invokevirtual 482, 3) := by decide +kernel
theorem dX8_full_76 : decode cX8_full 76 = .ok (.aload_n 0, 1) := by decide +kernel
theorem dX8_full_77 : decode cX8_full 77 = .ok (.invokevirtual 446, 3) := by decide +kernel
theorem dX8_full_80 : decode cX8_full 80 = .ok (.iload 4, 2) := by decide +kernel
theorem dX8_full_82 : decode cX8_full 82 = .ok (.aload_n 0, 1) := by decide +kernel
theorem dX8_full_83 : decode cX8_full 83 = .ok (.getfield 105, 3) := by decide +kernel
theorem dX8_full_86 : decode cX8_full 86 = .ok (.iconst 3, 1) := by decide +kernel
theorem dX8_full_87 : decode cX8_full 87 = .ok (.iaload, 1) := by decide +kernel
theorem dX8_full_88 : decode cX8_full 88 = .ok (.if_icmp .ne 7, 3) := by decide +kernel
theorem dX8_full_91 : decode cX8_full 91 = .ok (.iconst 1, 1) := by decide +kernel
theorem dX8_full_92 : decode cX8_full 92 = .ok (.goto 4, 3) := by decide +kernel
theorem dX8_full_95 : decode cX8_full 95 = .ok (.iconst 0, 1) := by decide +kernel
theorem dX8_full_96 : decode cX8_full 96 = .ok (.aload_n 0, 1) := by decide +kernel
theorem dX8_full_97 : decode cX8_full 97 = .ok (.invokevirtual 527, 3) := by decide +kernel
theorem dX8_full_100 : decode cX8_full 100 = .ok (.ifCond .eq 7, 3) := by decide +kernel
theorem dX8_full_103 : decode cX8_full 103 = .ok (.iconst 1, 1) := by decide +kernel
theorem dX8_full_104 : decode cX8_full 104 = .ok (.goto 4, 3) := by decide +kernel
theorem dX8_full_107 : decode cX8_full 107 = .ok (.iconst 0, 1) := by decide +kernel
theorem dX8_full_108 : decode cX8_full 108 = .ok (.iadd, 1) := by decide +kernel
theorem dX8_full_109 : decode cX8_full 109 = .ok (.istore 5, 2) := by decide +kernel
theorem dX8_full_111 : decode cX8_full 111 = .ok (.aload_n 0, 1) := by decide +kernel
theorem dX8_full_112 : decode cX8_full 112 = .ok (.invokevirtual 488, 3) := by decide +kernel
theorem dX8_full_115 : decode cX8_full 115 = .ok (.iload 5, 2) := by decide +kernel
theorem dX8_full_117 : decode cX8_full 117 = .ok (.iload_n 1, 1) := by decide +kernel
theorem dX8_full_118 : decode cX8_full 118 = .ok (.if_icmp .le 6, 3) := by decide +kernel
theorem dX8_full_121 : decode cX8_full 121 = .ok (.iload 5, 2) := by decide +kernel
theorem dX8_full_123 : decode cX8_full 123 = .ok (.istore_n 1, 1) := by decide +kernel
theorem dX8_full_124 : decode cX8_full 124 = .ok (.iinc 3 1, 3) := by decide +kernel
theorem dX8_full_127 : decode cX8_full 127 = .ok (.goto (-98), 3) := by decide +kernel
theorem dX8_full_130 : decode cX8_full 130 = .ok (.aload_n 0, 1) := by decide +kernel
theorem dX8_full_131 : decode cX8_full 131 = .ok (.invokevirtual 524, 3) := by decide +kernel
theorem dX8_full_134 : decode cX8_full 134 = .ok (.iload_n 1, 1) := by decide +kernel
theorem dX8_full_135 : decode cX8_full 135 = .ok (.ireturn, 1) := by decide +kernel
theorem dX8_often_0 : decode cX8_often 0 = .ok (.iconst 0, 1) := by decide +kernel
theorem dX8_often_1 : decode cX8_often 1 = .ok (.istore_n 3, 1) := by decide +kernel
theorem dX8_often_2 : decode cX8_often 2 = .ok (.iconst 0, 1) := by decide +kernel
theorem dX8_often_3 : decode cX8_often 3 = .ok (.istore 4, 2) := by decide +kernel
theorem dX8_often_5 : decode cX8_often 5 = .ok (.iload 4, 2) := by decide +kernel
theorem dX8_often_7 : decode cX8_often 7 = .ok (.iload_n 2, 1) := by decide +kernel
theorem dX8_often_8 : decode cX8_often 8 = .ok (.if_icmp .ge 24, 3) := by decide +kernel
theorem dX8_often_11 : decode cX8_often 11 = .ok (.aload_n 0, 1) := by decide +kernel
theorem dX8_often_12 : decode cX8_often 12 = .ok (.invokevirtual 485, 3) := by decide +kernel
theorem dX8_often_15 : decode cX8_often 15 = .ok (.iload_n 3, 1) := by decide +kernel
theorem dX8_often_16 : decode cX8_often 16 = .ok (.aload_n 0, 1) := by decide +kernel
theorem dX8_often_17 : decode cX8_often 17 = .ok (.getfield 449, 3) := by decide +kernel
theorem dX8_often_20 : decode cX8_often 20 = .ok (.iload_n 1, 1) := by decide +kernel
theorem dX8_often_21 : decode cX8_often 21 = .ok (.ishr, 1) := by decide +kernel
theorem dX8_often_22 : decode cX8_often 22 = .ok (.iconst 1, 1) := by decide +kernel
theorem dX8_often_23 : decode cX8_often 23 = .ok (.iand, 1) := by decide +kernel
theorem dX8_often_24 : decode cX8_often 24 = .ok (.iadd, 1) := by decide +kernel
theorem dX8_often_25 : decode cX8_often 25 = .ok (.istore_n 3, 1) := by decide +kernel
theorem dX8_often_26 : decode cX8_often 26 = .ok (.iinc 4 1, 3) := by decide +kernel
theorem dX8_often_29 : decode cX8_often 29 = .ok (.goto (-24), 3) := by decide +kernel
theorem dX8_often_32 : decode cX8_often 32 = .ok (.iload_n 3, 1) := by decide +kernel
theorem dX8_often_33 : decode cX8_often 33 = .ok (.ireturn, 1) := by decide +kernel
theorem dX8_fame_0 : decode cX8_fame 0 = .ok (.aload_n 0, 1) := by decide +kernel
theorem dX8_fame_1 : decode cX8_fame 1 = .ok (.iload_n 1, 1) := by decide +kernel
theorem dX8_fame_2 : decode cX8_fame 2 = .ok (.invokevirtual 507, 3) := by decide +kernel
theorem dX8_fame_5 : decode cX8_fame 5 = .ok (.ifCond .eq 24, 3) := by decide +kernel
theorem dX8_fame_8 : decode cX8_fame 8 = .ok (.aload_n 0, 1) := by decide +kernel
theorem dX8_fame_9 : decode cX8_fame 9 = .ok (.iload_n 2, 1) := by decide +kernel
theorem dX8_fame_10 : decode cX8_fame 10 = .ok (.iconst 1, 1) := by decide +kernel
theorem dX8_fame_11 : decode cX8_fame 11 = .ok (.bipush 30, 2) := by decide +kernel
theorem dX8_fame_13 : decode cX8_fame 13 = .ok (.invokevirtual 515, 3) := by decide +kernel
theorem dX8_fame_16 : decode cX8_fame 16 = .ok (.ifCond .eq 13, 3) := by decide +kernel
theorem dX8_fame_19 : decode cX8_fame 19 = .ok (.iload_n 3, 1) := by decide +kernel
theorem dX8_fame_20 : decode cX8_fame 20 = .ok (.i2l, 1) := by decide +kernel
theorem dX8_fame_21 : decode cX8_fame 21 = .ok (.lconst 0, 1) := by decide +kernel
theorem dX8_fame_22 : decode cX8_fame 22 = .ok (.lconst 1, 1) := by decide +kernel
theorem dX8_fame_23 : decode cX8_fame 23 = .ok (.invokestatic 289, 3) := by decide +kernel
theorem dX8_fame_26 : decode cX8_fame 26 = .ok (.ifCond .ne 5, 3) := by decide +kernel
theorem dX8_fame_29 : decode cX8_fame 29 = .ok (.iconst (-1), 1) := by decide +kernel
theorem dX8_fame_30 : decode cX8_fame 30 = .ok (.ireturn, 1) := by decide +kernel
theorem dX8_fame_31 : decode cX8_fame 31 = .ok (.iconst (-1), 1) := by decide +kernel
theorem dX8_fame_32 : decode cX8_fame 32 = .ok (.istore 4, 2) := by decide +kernel
theorem dX8_fame_34 : decode cX8_fame 34 = .ok (.iconst 0, 1) := by decide +kernel
theorem dX8_fame_35 : decode cX8_fame 35 = .ok (.istore 5, 2) := by decide +kernel
theorem dX8_fame_37 : decode cX8_fame 37 = .ok (.aload_n 0, 1) := by decide +kernel
theorem dX8_fame_38 : decode cX8_fame 38 = .ok (.invokevirtual 518, 3) := by decide +kernel
theorem dX8_fame_41 : decode cX8_fame 41 = .ok (.iconst 0, 1) := by decide +kernel
theorem dX8_fame_42 : decode cX8_fame 42 = .ok (.istore 6, 2) := by decide +kernel
theorem dX8_fame_44 : decode cX8_fame 44 = .ok (.iload 6, 2) := by decide +kernel
theorem dX8_fame_46 : decode cX8_fame 46 = .ok (.aload_n 0, 1) := by decide +kernel
theorem dX8_fame_47 : decode cX8_fame 47 = .ok (.invokevirtual 504, 3) := by decide +kernel
theorem dX8_fame_50 : decode cX8_fame 50 = .ok (.if_icmp .ge 57, 3) := by decide +kernel
theorem dX8_fame_53 : decode cX8_fame 53 = .ok (.aload_n 0, 1) := by decide +kernel
theorem dX8_fame_54 : decode cX8_fame 54 = .ok (.getfield 133, 3) := by decide +kernel
theorem dX8_fame_57 : decode cX8_fame 57 = .ok (.iconst 2, 1) := by decide +kernel
theorem dX8_fame_58 : decode cX8_fame 58 = .ok (.iconst 5, 1) := by decide +kernel
theorem dX8_fame_59 : decode cX8_fame 59 = .ok (.iload_n 1, 1) := by decide +kernel
theorem dX8_fame_60 : decode cX8_fame 60 = .ok (.imul, 1) := by decide +kernel
theorem dX8_fame_61 : decode cX8_fame 61 = .ok (.iadd, 1) := by decide +kernel
theorem dX8_fame_62 : decode cX8_fame 62 = .ok (.iload 6, 2) := by decide +kernel
theorem dX8_fame_64 : decode cX8_fame 64 = .ok (.iastore, 1) := by decide +kernel
theorem dX8_fame_65 : decode cX8_fame 65 = .ok (.aload_n 0, 1) := by decide +kernel
theorem dX8_fame_66 : decode cX8_fame 66 = .ok (.iload_n 1, 1) := by decide +kernel
theorem dX8_fame_67 : decode cX8_fame 67 = .ok (.iload_n 2, 1) := by decide +kernel
theorem dX8_fame_68 : decode cX8_fame 68 = .ok (.invokevirtual 530, 3) := by decide +kernel
theorem dX8_fame_71 : decode cX8_fame 71 = .ok (.istore 7, 2) := by decide +kernel
theorem dX8_fame_73 : decode cX8_fame 73 = .ok (.aload_n 0, 1) := by decide +kernel
theorem dX8_fame_74 : decode cX8_fame 74 = .ok (.invokevirtual 488, 3) := by decide +kernel
theorem dX8_fame_77 : decode cX8_fame 77 = .ok (.iload 4, 2) := by decide +kernel
theorem dX8_fame_79 : decode cX8_fame 79 = .ok (.iconst (-1), 1) := by decide +kernel
theorem dX8_fame_80 : decode cX8_fame 80 = .ok (.if_icmp .eq 13, 3) := by decide +kernel
theorem dX8_fame_83 : decode cX8_fame 83 = .ok (.iload 7, 2) := by decide +kernel
theorem dX8_fame_85 : decode cX8_fame 85 = .ok (.iload 5, 2) := by decide +kernel
theorem dX8_fame_87 : decode cX8_fame 87 = .ok (.if_icmp .gt 6, 3) := by decide +kernel
theorem dX8_fame_90 : decode cX8_fame 90 = .ok (.goto 11, 3) := by decide +kernel
theorem dX8_fame_93 : decode cX8_fame 93 = .ok (.iload 6, 2) := by decide +kernel
theorem dX8_fame_95 : decode cX8_fame 95 = .ok (.istore 4, 2) := by decide +kernel
theorem dX8_fame_97 : decode cX8_fame 97 = .ok (.iload 7, 2) := by decide +kernel
theorem dX8_fame_99 : decode cX8_fame 99 = .ok (.istore 5, 2) := by decide +kernel
theorem dX8_fame_101 : decode cX8_fame 101 = .ok (.iinc 6 1, 3) := by decide +kernel
theorem dX8_fame_104 : decode cX8_fame 104 = .ok (.goto (-60), 3) := by decide +kernel
theorem dX8_fame_107 : decode cX8_fame 107 = .ok (.aload_n 0, 1) := by decide +kernel
theorem dX8_fame_108 : decode cX8_fame 108 = .ok (.invokevirtual 524, 3) := by decide +kernel
theorem dX8_fame_111 : decode cX8_fame 111 = .ok (.iload_n 3, 1) := by decide +kernel
theorem dX8_fame_112 : decode cX8_fame 112 = .ok (.ifCond .ne 8, 3) := by decide +kernel
theorem dX8_fame_115 : decode cX8_fame 115 = .ok (.iload 4, 2) := by decide +kernel
theorem dX8_fame_117 : decode cX8_fame 117 = .ok (.goto 5, 3) := by decide +kernel
theorem dX8_fame_120 : decode cX8_fame 120 = .ok (.iload 5, 2) := by decide +kernel
theorem dX8_fame_122 : decode cX8_fame 122 = .ok (.ireturn, 1) := by decide +kernel
theorem dX8_shared_0 : decode cX8_shared 0 = .ok (.aload_n 0, 1) := by decide +kernel
theorem dX8_shared_1 : decode cX8_shared 1 = .ok (.invokevirtual 446, 3) := by decide +kernel
theorem dX8_shared_4 : decode cX8_shared 4 = .ok (.aload_n 0, 1) := by decide +kernel
theorem dX8_shared_5 : decode cX8_shared 5 = .ok (.aload_n 0, 1) := by decide +kernel
theorem dX8_shared_6 : decode cX8_shared 6 = .ok (.getfield 433, 3) := by decide +kernel
theorem dX8_shared_9 : decode cX8_shared 9 = .ok (.invokevirtual 458, 3) := by decide +kernel
theorem dX8_shared_12 : decode cX8_shared 12 = .ok (.lstore_n 1, 1) := by decide +kernel
theorem dX8_shared_13 : decode cX8_shared 13 = .ok (.iconst (-1), 1) := by decide +kernel
theorem dX8_shared_14 : decode cX8_shared 14 = .ok (.istore_n 3, 1) := by decide +kernel
theorem dX8_shared_15 : decode cX8_shared 15 = .ok (.lconst 0, 1) := by decide +kernel
theorem dX8_shared_16 : decode cX8_shared 16 = .ok (.lstore 4, 2) := by decide +kernel
theorem dX8_shared_18 : decode cX8_shared 18 = .ok (.iconst 0, 1) := by decide +kernel
theorem dX8_shared_19 : decode cX8_shared 19 = .ok (.istore 6, 2) := by decide +kernel
theorem dX8_shared_21 : decode cX8_shared 21 = .ok (.iload 6, 2) := by decide +kernel
theorem dX8_shared_23 : decode cX8_shared 23 = .ok (.iconst 1, 1) := by decide +kernel
theorem dX8_shared_24 : decode cX8_shared 24 = .ok (.aload_n 0, 1) := by decide +kernel
theorem dX8_shared_25 : decode cX8_shared 25 = .ok (.invokevirtual 395, 3) := by decide +kernel
theorem dX8_shared_28 : decode cX8_shared 28 = .ok (.ishl, 1) := by decide +kernel
theorem dX8_shared_29 : decode cX8_shared 29 = .ok (.if_icmp .ge 76, 3) := by decide +kernel
theorem dX8_shared_32 : decode cX8_shared 32 = .ok (.iload 6, 2) := by decide +kernel
theorem dX8_shared_34 : decode cX8_shared 34 = .ok (.aload_n 0, 1) := by decide +kernel
theorem dX8_shared_35 : decode cX8_shared 35 = .ok (.getfield 433, 3) := by decide +kernel
theorem dX8_shared_38 : decode cX8_shared 38 = .ok (.iconst (-1), 1) := by decide +kernel
theorem dX8_shared_39 : decode cX8_shared 39 = .ok (.ixor, 1) := by decide +kernel
theorem dX8_shared_40 : decode cX8_shared 40 = .ok (.iand, 1) := by decide +kernel
theorem dX8_shared_41 : decode cX8_shared 41 = .ok (.ifCond .eq 6, 3) := by decide +kernel
theorem dX8_shared_44 : decode cX8_shared 44 = .ok (.goto 55, 3) := by decide +kernel
theorem dX8_shared_47 : decode cX8_shared 47 = .ok (.aload_n 0, 1) := by decide +kernel
theorem dX8_shared_48 : decode cX8_shared 48 = .ok (.iload 6, 2) := by decide +kernel
theorem dX8_shared_50 : decode cX8_shared 50 = .ok (.invokevirtual 458, 3) := by decide +kernel
theorem dX8_shared_53 : decode cX8_shared 53 = .ok (.lstore 7, 2) := by decide +kernel
theorem dX8_shared_55 : decode cX8_shared 55 = .ok (.lload 7, 2) := by decide +kernel
theorem dX8_shared_57 : decode cX8_shared 57 = .ok (.lload_n 1, 1) := by decide +kernel
theorem dX8_shared_58 : decode cX8_shared 58 = .ok (.lload 7, 2) := by decide +kernel
theorem dX8_shared_60 : decode cX8_shared 60 = .ok (.lsub, 1) := by decide +kernel
theorem dX8_shared_61 : decode cX8_shared 61 = .ok (.lcmp, 1) := by decide +kernel
theorem dX8_shared_62 : decode cX8_shared 62 = .ok (.ifCond .ge 8, 3) := by decide +kernel
theorem dX8_shared_65 : decode cX8_shared 65 = .ok (.lload 7, 2) := by decide +kernel
theorem dX8_shared_67 : decode cX8_shared 67 = .ok (.goto 7, 3) := by decide +kernel
theorem dX8_shared_70 : decode cX8_shared 70 = .ok (.lload_n 1, 1) := by decide +kernel
theorem dX8_shared_71 : decode cX8_shared 71 = .ok (.lload 7, 2) := by decide +kernel
theorem dX8_shared_73 : decode cX8_shared 73 = .ok (.lsub, 1) := by decide +kernel
theorem dX8_shared_74 : decode cX8_shared 74 = .ok (.lstore 9, 2) := by decide +kernel
theorem dX8_shared_76 : decode cX8_shared 76 = .ok (.iload_n 3, 1) := by decide +kernel
theorem dX8_shared_77 : decode cX8_shared 77 = .ok (.iconst (-1), 1) := by decide +kernel
theorem dX8_shared_78 : decode cX8_shared 78 = .ok (.if_icmp .eq 14, 3) := by decide +kernel
theorem dX8_shared_81 : decode cX8_shared 81 = .ok (.lload 9, 2) := by decide +kernel
theorem dX8_shared_83 : decode cX8_shared 83 = .ok (.lload 4, 2) := by decide +kernel
theorem dX8_shared_85 : decode cX8_shared 85 = .ok (.lcmp, 1) := by decide +kernel
theorem dX8_shared_86 : decode cX8_shared 86 = .ok (.ifCond .gt 6, 3) := by decide +kernel
theorem dX8_shared_89 : decode cX8_shared 89 = .ok (.goto 10, 3) := by decide +kernel
theorem dX8_shared_92 : decode cX8_shared 92 = .ok (.iload 6, 2) := by decide +kernel
theorem dX8_shared_94 : decode cX8_shared 94 = .ok (.istore_n 3, 1) := by decide +kernel
theorem dX8_shared_95 : decode cX8_shared 95 = .ok (.lload 9, 2) := by decide +kernel
theorem dX8_shared_97 : decode cX8_shared 97 = .ok (.lstore 4, 2) := by decide +kernel
theorem dX8_shared_99 : decode cX8_shared 99 = .ok (.iinc 6 1, 3) := by decide +kernel
theorem dX8_shared_102 : decode cX8_shared 102 = .ok (.goto (-81), 3) := by decide +kernel
theorem dX8_shared_105 : decode cX8_shared 105 = .ok (.iload_n 3, 1) := by decide +kernel
theorem dX8_shared_106 : decode cX8_shared 106 = .ok (.ireturn, 1) := by decide +kernel
theorem dX8_isNextRow_0 : decode cX8_isNextRow 0 = .ok (.aload_n 0, 1) := by decide +kernel
theorem dX8_isNextRow_1 : decode cX8_isNextRow 1 = .ok (.invokevirtual 533, 3) := by decide +kernel
theorem dX8_isNextRow_4 : decode cX8_isNextRow 4 = .ok (.iconst 1, 1) := by decide +kernel
theorem dX8_isNextRow_5 : decode cX8_isNextRow 5 = .ok (.isub, 1) := by decide +kernel
theorem dX8_isNextRow_6 : decode cX8_isNextRow 6 = .ok (.istore_n 1, 1) := by decide +kernel
theorem dX8_isNextRow_7 : decode cX8_isNextRow 7 = .ok (.iload_n 1, 1) := by decide +kernel
theorem dX8_isNextRow_8 : decode cX8_isNextRow 8 = .ok (.ifCond .lt 29, 3) := by decide +kernel
theorem dX8_isNextRow_11 : decode cX8_isNextRow 11 = .ok (.aload_n 0, 1) := by decide +kernel
theorem dX8_isNextRow_12 : decode cX8_isNextRow 12 = .ok (.getfield 142, 3) := by decide +kernel
theorem dX8_isNextRow_15 : decode cX8_isNextRow 15 = .ok (.iload_n 1, 1) := by decide +kernel
theorem dX8_isNextRow_16 : decode cX8_isNextRow 16 = .ok (.iaload, 1) := by decide +kernel
theorem dX8_isNextRow_17 : decode cX8_isNextRow 17 = .ok (.aload_n 0, 1) := by decide +kernel
theorem dX8_isNextRow_18 : decode cX8_isNextRow 18 = .ok (.invokevirtual 395, 3) := by decide +kernel
theorem dX8_isNextRow_21 : decode cX8_isNextRow 21 = .ok (.if_icmp .ne 16, 3) := by decide +kernel
theorem dX8_isNextRow_24 : decode cX8_isNextRow 24 = .ok (.aload_n 0, 1) := by decide +kernel
theorem dX8_isNextRow_25 : decode cX8_isNextRow 25 = .ok (.getfield 142, 3) := by decide +kernel
theorem dX8_isNextRow_28 : decode cX8_isNextRow 28 = .ok (.iload_n 1, 1) := by decide +kernel
theorem dX8_isNextRow_29 : decode cX8_isNextRow 29 = .ok (.iconst 0, 1) := by decide +kernel
theorem dX8_isNextRow_30 : decode cX8_isNextRow 30 = .ok (.iastore, 1) := by decide +kernel
theorem dX8_isNextRow_31 : decode cX8_isNextRow 31 = .ok (.iinc 1 (-1), 3) := by decide +kernel
theorem dX8_isNextRow_34 : decode cX8_isNextRow 34 = .ok (.goto (-27), 3) := by decide +kernel
theorem dX8_isNextRow_37 : decode cX8_isNextRow 37 = .ok (.iload_n 1, 1) := by decide +kernel
theorem dX8_isNextRow_38 : decode cX8_isNextRow 38 = .ok (.ifCond .ge 5, 3) := by decide +kernel
theorem dX8_isNextRow_41 : decode cX8_isNextRow 41 = .ok (.iconst 0, 1) := by decide +kernel
theorem dX8_isNextRow_42 : decode cX8_isNextRow 42 = .ok (.ireturn, 1) := by decide +kernel
theorem dX8_isNextRow_43 : decode cX8_isNextRow 43 = .ok (.aload_n 0, 1) := by decide +kernel
theorem dX8_isNextRow_44 : decode cX8_isNextRow 44 = .ok (.getfield 142, 3) := by decide +kernel
theorem dX8_isNextRow_47 : decode cX8_isNextRow 47 = .ok (.iload_n 1, 1) := by decide +kernel
theorem dX8_isNextRow_48 : decode cX8_isNextRow 48 = .ok (.dup2, 1) := by decide +kernel
theorem dX8_isNextRow_49 : decode cX8_isNextRow 49 = .ok (.iaload, 1) := by decide +kernel
theorem dX8_isNextRow_50 : decode cX8_isNextRow 50 = .ok (.iconst 1, 1) := by decide +kernel
theorem dX8_isNextRow_51 : decode cX8_isNextRow 51 = .ok (.iadd, 1) := by decide +kernel
theorem dX8_isNextRow_52 : decode cX8_isNextRow 52 = .ok (.iastore, 1) := by decide +kernel
theorem dX8_isNextRow_53 : decode cX8_isNextRow 53 = .ok (.iconst 1, 1) := by decide +kernel
theorem dX8_isNextRow_54 : decode cX8_isNextRow 54 = .ok (.ireturn, 1) := by decide +kernel
theorem dX8_pleasedBy_0 : decode cX8_pleasedBy 0 = .ok (.iconst 0, 1) := by decide +kernel
theorem dX8_pleasedBy_1 : decode cX8_pleasedBy 1 = .ok (.istore_n 1, 1) := by decide +kernel
theorem dX8_pleasedBy_2 : decode cX8_pleasedBy 2 = .ok (.iconst 0, 1) := by decide +kernel
theorem dX8_pleasedBy_3 : decode cX8_pleasedBy 3 = .ok (.istore_n 2, 1) := by decide +kernel
theorem dX8_pleasedBy_4 : decode cX8_pleasedBy 4 = .ok (.iconst 0, 1) := by decide +kernel
theorem dX8_pleasedBy_5 : decode cX8_pleasedBy 5 = .ok (.istore_n 3, 1) := by decide +kernel
theorem dX8_pleasedBy_6 : decode cX8_pleasedBy 6 = .ok (.iload_n 3, 1) := by decide +kernel
theorem dX8_pleasedBy_7 : decode cX8_pleasedBy 7 = .ok (.aload_n 0, 1) := by decide +kernel
theorem dX8_pleasedBy_8 : decode cX8_pleasedBy 8 = .ok (.invokevirtual 533, 3) := by decide +kernel
theorem dX8_pleasedBy_11 : decode cX8_pleasedBy 11 = .ok (.if_icmp .ge 98, 3) := by decide +kernel
theorem dX8_pleasedBy_14 : decode cX8_pleasedBy 14 = .ok (.aload_n 0, 1) := by decide +kernel
theorem dX8_pleasedBy_15 : decode cX8_pleasedBy 15 = .ok (.getfield 142, 3) := by decide +kernel
theorem dX8_pleasedBy_18 : decode cX8_pleasedBy 18 = .ok (.iload_n 3, 1) := by decide +kernel
theorem dX8_pleasedBy_19 : decode cX8_pleasedBy 19 = .ok (.iaload, 1) := by decide +kernel
theorem dX8_pleasedBy_20 : decode cX8_pleasedBy 20 = .ok (.ifCond .ne 6, 3) := by decide +kernel
theorem dX8_pleasedBy_23 : decode cX8_pleasedBy 23 = .ok (.goto 80, 3) := by decide +kernel
theorem dX8_pleasedBy_26 : decode cX8_pleasedBy 26 = .ok (.aload_n 0, 1) := by decide +kernel
theorem dX8_pleasedBy_27 : decode cX8_pleasedBy 27 = .ok (.getfield 142, 3) := by decide +kernel
theorem dX8_pleasedBy_30 : decode cX8_pleasedBy 30 = .ok (.iload_n 3, 1) := by decide +kernel
theorem dX8_pleasedBy_31 : decode cX8_pleasedBy 31 = .ok (.iaload, 1) := by decide +kernel
theorem dX8_pleasedBy_32 : decode cX8_pleasedBy 32 = .ok (.iconst 1, 1) := by decide +kernel
theorem dX8_pleasedBy_33 : decode cX8_pleasedBy 33 = .ok (.isub, 1) := by decide +kernel
theorem dX8_pleasedBy_34 : decode cX8_pleasedBy 34 = .ok (.istore 4, 2) := by decide +kernel
theorem dX8_pleasedBy_36 : decode cX8_pleasedBy 36 = .ok (.aload_n 0, 1) := by decide +kernel
theorem dX8_pleasedBy_37 : decode cX8_pleasedBy 37 = .ok (.getfield 449, 3) := by decide +kernel
theorem dX8_pleasedBy_40 : decode cX8_pleasedBy 40 = .ok (.iload 4, 2) := by decide +kernel
theorem dX8_pleasedBy_42 : decode cX8_pleasedBy 42 = .ok (.ishr, 1) := by decide +kernel
theorem dX8_pleasedBy_43 : decode cX8_pleasedBy 43 = .ok (.iconst 1, 1) := by decide +kernel
theorem dX8_pleasedBy_44 : decode cX8_pleasedBy 44 = .ok (.iand, 1) := by decide +kernel
theorem dX8_pleasedBy_45 : decode cX8_pleasedBy 45 = .ok (.ifCond .eq 13, 3) := by decide +kernel
theorem dX8_pleasedBy_48 : decode cX8_pleasedBy 48 = .ok (.iload_n 2, 1) := by decide +kernel
theorem dX8_pleasedBy_49 : decode cX8_pleasedBy 49 = .ok (.iload 4, 2) := by decide +kernel
theorem dX8_pleasedBy_51 : decode cX8_pleasedBy 51 = .ok (.ishr, 1) := by decide +kernel
theorem dX8_pleasedBy_52 : decode cX8_pleasedBy 52 = .ok (.iconst 1, 1) := by decide +kernel
theorem dX8_pleasedBy_53 : decode cX8_pleasedBy 53 = .ok (.iand, 1) := by decide +kernel
theorem dX8_pleasedBy_54 : decode cX8_pleasedBy 54 = .ok (.iconst 1, 1) := by decide +kernel
theorem dX8_pleasedBy_55 : decode cX8_pleasedBy 55 = .ok (.if_icmp .ne 5, 3) := by decide +kernel
theorem dX8_pleasedBy_58 : decode cX8_pleasedBy 58 = .ok (.iconst (-1), 1) := by decide +kernel
theorem dX8_pleasedBy_59 : decode cX8_pleasedBy 59 = .ok (.ireturn, 1) := by decide +kernel
theorem dX8_pleasedBy_60 : decode cX8_pleasedBy 60 = .ok (.iload_n 2, 1) := by decide +kernel
theorem dX8_pleasedBy_61 : decode cX8_pleasedBy 61 = .ok (.iconst 1, 1) := by decide +kernel
theorem dX8_pleasedBy_62 : decode cX8_pleasedBy 62 = .ok (.iload 4, 2) := by decide +kernel
theorem dX8_pleasedBy_64 : decode cX8_pleasedBy 64 = .ok (.ishl, 1) := by decide +kernel
theorem dX8_pleasedBy_65 : decode cX8_pleasedBy 65 = .ok (.ior, 1) := by decide +kernel
theorem dX8_pleasedBy_66 : decode cX8_pleasedBy 66 = .ok (.istore_n 2, 1) := by decide +kernel
theorem dX8_pleasedBy_67 : decode cX8_pleasedBy 67 = .ok (.aload_n 0, 1) := by decide +kernel
theorem dX8_pleasedBy_68 : decode cX8_pleasedBy 68 = .ok (.iload 4, 2) := by decide +kernel
theorem dX8_pleasedBy_70 : decode cX8_pleasedBy 70 = .ok (.invokevirtual 536, 3) := by decide +kernel
theorem dX8_pleasedBy_73 : decode cX8_pleasedBy 73 = .ok (.aload_n 0, 1) := by decide +kernel
theorem dX8_pleasedBy_74 : decode cX8_pleasedBy 74 = .ok (.getfield 121, 3) := by decide +kernel
theorem dX8_pleasedBy_77 : decode cX8_pleasedBy 77 = .ok (.iconst 5, 1) := by decide +kernel
theorem dX8_pleasedBy_78 : decode cX8_pleasedBy 78 = .ok (.iload_n 3, 1) := by decide +kernel
theorem dX8_pleasedBy_79 : decode cX8_pleasedBy 79 = .ok (.iadd, 1) := by decide +kernel
theorem dX8_pleasedBy_80 : decode cX8_pleasedBy 80 = .ok (.iaload, 1) := by decide +kernel
theorem dX8_pleasedBy_81 : decode cX8_pleasedBy 81 = .ok (.isub, 1) := by decide +kernel
theorem dX8_pleasedBy_82 : decode cX8_pleasedBy 82 = .ok (.istore 5, 2) := by decide +kernel
theorem dX8_pleasedBy_84 : decode cX8_pleasedBy 84 = .ok (.iload_n 1, 1) := by decide +kernel
theorem dX8_pleasedBy_85 : decode cX8_pleasedBy 85 = .ok (.bipush 9, 2) := by decide +kernel
theorem dX8_pleasedBy_87 : decode cX8_pleasedBy 87 = .ok (.iload 5, 2) := by decide +kernel
theorem dX8_pleasedBy_89 : decode cX8_pleasedBy 89 = .ok (.ifCond .ge 9, 3) := by decide +kernel
theorem dX8_pleasedBy_92 : decode cX8_pleasedBy 92 = .ok (.iload 5, 2) := by decide +kernel
theorem dX8_pleasedBy_94 : decode cX8_pleasedBy 94 = .ok (.ineg, 1) := by decide +kernel
theorem dX8_pleasedBy_95 : decode cX8_pleasedBy 95 = .ok (.goto 5, 3) := by decide +kernel
theorem dX8_pleasedBy_98 : decode cX8_pleasedBy 98 = .ok (.iload 5, 2) := by decide +kernel
theorem dX8_pleasedBy_100 : decode cX8_pleasedBy 100 = .ok (.isub, 1) := by decide +kernel
theorem dX8_pleasedBy_101 : decode cX8_pleasedBy 101 = .ok (.iadd, 1) := by decide +kernel
theorem dX8_pleasedBy_102 : decode cX8_pleasedBy 102 = .ok (.istore_n 1, 1) := by decide +kernel
theorem dX8_pleasedBy_103 : decode cX8_pleasedBy 103 = .ok (.iinc 3 1, 3) := by decide +kernel
theorem dX8_pleasedBy_106 : decode cX8_pleasedBy 106 = .ok (.goto (-100), 3) := by decide +kernel
theorem dX8_pleasedBy_109 : decode cX8_pleasedBy 109 = .ok (.iload_n 1, 1) := by decide +kernel
theorem dX8_pleasedBy_110 : decode cX8_pleasedBy 110 = .ok (.ireturn, 1) := by decide +kernel
theorem dX8_laysRow_0 : decode cX8_laysRow 0 = .ok (.aload_n 0, 1) := by decide +kernel
theorem dX8_laysRow_1 : decode cX8_laysRow 1 = .ok (.invokevirtual 479, 3) := by decide +kernel
theorem dX8_laysRow_4 : decode cX8_laysRow 4 = .ok (.iconst 0, 1) := by decide +kernel
theorem dX8_laysRow_5 : decode cX8_laysRow 5 = .ok (.istore_n 1, 1) := by decide +kernel
theorem dX8_laysRow_6 : decode cX8_laysRow 6 = .ok (.iload_n 1, 1) := by decide +kernel
theorem dX8_laysRow_7 : decode cX8_laysRow 7 = .ok (.iconst 5, 1) := by decide +kernel
theorem dX8_laysRow_8 : decode cX8_laysRow 8 = .ok (.if_icmp .ge 23, 3) := by decide +kernel
theorem dX8_laysRow_11 : decode cX8_laysRow 11 = .ok (.aload_n 0, 1) := by decide +kernel
theorem dX8_laysRow_12 : decode cX8_laysRow 12 = .ok (.getfield 142, 3) := by decide +kernel
theorem dX8_laysRow_15 : decode cX8_laysRow 15 = .ok (.iload_n 1, 1) := by decide +kernel
theorem dX8_laysRow_16 : decode cX8_laysRow 16 = .ok (.iconst 0, 1) := by decide +kernel
theorem dX8_laysRow_17 : decode cX8_laysRow 17 = .ok (.iastore, 1) := by decide +kernel
theorem dX8_laysRow_18 : decode cX8_laysRow 18 = .ok (.aload_n 0, 1) := by decide +kernel
theorem dX8_laysRow_19 : decode cX8_laysRow 19 = .ok (.getfield 145, 3) := by decide +kernel
theorem dX8_laysRow_22 : decode cX8_laysRow 22 = .ok (.iload_n 1, 1) := by decide +kernel
theorem dX8_laysRow_23 : decode cX8_laysRow 23 = .ok (.iconst 0, 1) := by decide +kernel
theorem dX8_laysRow_24 : decode cX8_laysRow 24 = .ok (.iastore, 1) := by decide +kernel
theorem dX8_laysRow_25 : decode cX8_laysRow 25 = .ok (.iinc 1 1, 3) := by decide +kernel
theorem dX8_laysRow_28 : decode cX8_laysRow 28 = .ok (.goto (-22), 3) := by decide +kernel
theorem dX8_laysRow_31 : decode cX8_laysRow 31 = .ok (.aload_n 0, 1) := by decide +kernel
theorem dX8_laysRow_32 : decode cX8_laysRow 32 = .ok (.iconst 0, 1) := by decide +kernel
theorem dX8_laysRow_33 : decode cX8_laysRow 33 = .ok (.putfield 539, 3) := by decide +kernel
theorem dX8_laysRow_36 : decode cX8_laysRow 36 = .ok (.aload_n 0, 1) := by decide +kernel
theorem dX8_laysRow_37 : decode cX8_laysRow 37 = .ok (.invokevirtual 542, 3) := by decide +kernel
theorem dX8_laysRow_40 : decode cX8_laysRow 40 = .ok (.ifCond .eq 52, 3) := by decide +kernel
theorem dX8_laysRow_43 : decode cX8_laysRow 43 = .ok (.aload_n 0, 1) := by decide +kernel
theorem dX8_laysRow_44 : decode cX8_laysRow 44 = .ok (.invokevirtual 545, 3) := by decide +kernel
theorem dX8_laysRow_47 : decode cX8_laysRow 47 = .ok (.istore_n 1, 1) := by decide +kernel
theorem dX8_laysRow_48 : decode cX8_laysRow 48 = .ok (.iload_n 1, 1) := by decide +kernel
theorem dX8_laysRow_49 : decode cX8_laysRow 49 = .ok (.aload_n 0, 1) := by decide +kernel
theorem dX8_laysRow_50 : decode cX8_laysRow 50 = .ok (.getfield 539, 3) := by decide +kernel
theorem dX8_laysRow_53 : decode cX8_laysRow 53 = .ok (.if_icmp .gt 6, 3) := by decide +kernel
theorem dX8_laysRow_56 : decode cX8_laysRow 56 = .ok (.goto (-20), 3) := by decide +kernel
theorem dX8_laysRow_59 : decode cX8_laysRow 59 = .ok (.aload_n 0, 1) := by decide +kernel
theorem dX8_laysRow_60 : decode cX8_laysRow 60 = .ok (.iload_n 1, 1) := by decide +kernel
theorem dX8_laysRow_61 : decode cX8_laysRow 61 = .ok (.putfield 539, 3) := by decide +kernel
theorem dX8_laysRow_64 : decode cX8_laysRow 64 = .ok (.iconst 0, 1) := by decide +kernel
theorem dX8_laysRow_65 : decode cX8_laysRow 65 = .ok (.istore_n 2, 1) := by decide +kernel
theorem dX8_laysRow_66 : decode cX8_laysRow 66 = .ok (.iload_n 2, 1) := by decide +kernel
theorem dX8_laysRow_67 : decode cX8_laysRow 67 = .ok (.iconst 5, 1) := by decide +kernel
theorem dX8_laysRow_68 : decode cX8_laysRow 68 = .ok (.if_icmp .ge 21, 3) := by decide +kernel
theorem dX8_laysRow_71 : decode cX8_laysRow 71 = .ok (.aload_n 0, 1) := by decide +kernel
theorem dX8_laysRow_72 : decode cX8_laysRow 72 = .ok (.getfield 145, 3) := by decide +kernel
theorem dX8_laysRow_75 : decode cX8_laysRow 75 = .ok (.iload_n 2, 1) := by decide +kernel
theorem dX8_laysRow_76 : decode cX8_laysRow 76 = .ok (.aload_n 0, 1) := by decide +kernel
theorem dX8_laysRow_77 : decode cX8_laysRow 77 = .ok (.getfield 142, 3) := by decide +kernel
theorem dX8_laysRow_80 : decode cX8_laysRow 80 = .ok (.iload_n 2, 1) := by decide +kernel
theorem dX8_laysRow_81 : decode cX8_laysRow 81 = .ok (.iaload, 1) := by decide +kernel
theorem dX8_laysRow_82 : decode cX8_laysRow 82 = .ok (.iastore, 1) := by decide +kernel
theorem dX8_laysRow_83 : decode cX8_laysRow 83 = .ok (.iinc 2 1, 3) := by decide +kernel
theorem dX8_laysRow_86 : decode cX8_laysRow 86 = .ok (.goto (-20), 3) := by decide +kernel
theorem dX8_laysRow_89 : decode cX8_laysRow 89 = .ok (.goto (-53), 3) := by decide +kernel
theorem dX8_laysRow_92 : decode cX8_laysRow 92 = .ok (.return_, 1) := by decide +kernel
theorem dX8_heard_0 : decode cX8_heard 0 = .ok (.iload_n 1, 1) := by decide +kernel
theorem dX8_heard_1 : decode cX8_heard 1 = .ok (.iconst (-1), 1) := by decide +kernel
theorem dX8_heard_2 : decode cX8_heard 2 = .ok (.if_icmp .eq 21, 3) := by decide +kernel
theorem dX8_heard_5 : decode cX8_heard 5 = .ok (.iload_n 1, 1) := by decide +kernel
theorem dX8_heard_6 : decode cX8_heard 6 = .ok (.i2l, 1) := by decide +kernel
theorem dX8_heard_7 : decode cX8_heard 7 = .ok (.lconst 0, 1) := by decide +kernel
theorem dX8_heard_8 : decode cX8_heard 8 = .ok (.aload_n 0, 1) := by decide +kernel
theorem dX8_heard_9 : decode cX8_heard 9 = .ok (.invokevirtual 533, 3) := by decide +kernel
theorem dX8_heard_12 : decode cX8_heard 12 = .ok (.iconst 1, 1) := by decide +kernel
theorem dX8_heard_13 : decode cX8_heard 13 = .ok (.isub, 1) := by decide +kernel
theorem dX8_heard_14 : decode cX8_heard 14 = .ok (.i2l, 1) := by decide +kernel
theorem dX8_heard_15 : decode cX8_heard 15 = .ok (.invokestatic 289, 3) := by decide +kernel
theorem dX8_heard_18 : decode cX8_heard 18 = .ok (.ifCond .ne 5, 3) := by decide +kernel
theorem dX8_heard_21 : decode cX8_heard 21 = .ok (.iconst (-1), 1) := by decide +kernel
theorem dX8_heard_22 : decode cX8_heard 22 = .ok (.ireturn, 1) := by decide +kernel
theorem dX8_heard_23 : decode cX8_heard 23 = .ok (.aload_n 0, 1) := by decide +kernel
theorem dX8_heard_24 : decode cX8_heard 24 = .ok (.invokevirtual 548, 3) := by decide +kernel
theorem dX8_heard_27 : decode cX8_heard 27 = .ok (.iload_n 1, 1) := by decide +kernel
theorem dX8_heard_28 : decode cX8_heard 28 = .ok (.iconst (-1), 1) := by decide +kernel
theorem dX8_heard_29 : decode cX8_heard 29 = .ok (.if_icmp .ne 10, 3) := by decide +kernel
theorem dX8_heard_32 : decode cX8_heard 32 = .ok (.aload_n 0, 1) := by decide +kernel
theorem dX8_heard_33 : decode cX8_heard 33 = .ok (.getfield 539, 3) := by decide +kernel
theorem dX8_heard_36 : decode cX8_heard 36 = .ok (.goto 11, 3) := by decide +kernel
theorem dX8_heard_39 : decode cX8_heard 39 = .ok (.aload_n 0, 1) := by decide +kernel
theorem dX8_heard_40 : decode cX8_heard 40 = .ok (.getfield 145, 3) := by decide +kernel
theorem dX8_heard_43 : decode cX8_heard 43 = .ok (.iload_n 1, 1) := by decide +kernel
theorem dX8_heard_44 : decode cX8_heard 44 = .ok (.iaload, 1) := by decide +kernel
theorem dX8_heard_45 : decode cX8_heard 45 = .ok (.iconst 1, 1) := by decide +kernel
theorem dX8_heard_46 : decode cX8_heard 46 = .ok (.isub, 1) := by decide +kernel
theorem dX8_heard_47 : decode cX8_heard 47 = .ok (.ireturn, 1) := by decide +kernel
theorem dX8_refuses_0 : decode cX8_refuses 0 = .ok (.aload_n 0, 1) := by decide +kernel
theorem dX8_refuses_1 : decode cX8_refuses 1 = .ok (.getfield 17, 3) := by decide +kernel
theorem dX8_refuses_4 : decode cX8_refuses 4 = .ok (.iload_n 1, 1) := by decide +kernel
theorem dX8_refuses_5 : decode cX8_refuses 5 = .ok (.dup2, 1) := by decide +kernel
theorem dX8_refuses_6 : decode cX8_refuses 6 = .ok (.iaload, 1) := by decide +kernel
theorem dX8_refuses_7 : decode cX8_refuses 7 = .ok (.iconst 1, 1) := by decide +kernel
theorem dX8_refuses_8 : decode cX8_refuses 8 = .ok (.iadd, 1) := by decide +kernel
theorem dX8_refuses_9 : decode cX8_refuses 9 = .ok (.iastore, 1) := by decide +kernel
theorem dX8_refuses_10 : decode cX8_refuses 10 = .ok (.iconst (-1), 1) := by decide +kernel
theorem dX8_refuses_11 : decode cX8_refuses 11 = .ok (.ireturn, 1) := by decide +kernel
theorem dX8_see_0 : decode cX8_see 0 = .ok (.aload_n 0, 1) := by decide +kernel
theorem dX8_see_1 : decode cX8_see 1 = .ok (.getfield 246, 3) := by decide +kernel
theorem dX8_see_4 : decode cX8_see 4 = .ok (.istore_n 1, 1) := by decide +kernel
theorem dX8_see_5 : decode cX8_see 5 = .ok (.aload_n 0, 1) := by decide +kernel
theorem dX8_see_6 : decode cX8_see 6 = .ok (.iconst 0, 1) := by decide +kernel
theorem dX8_see_7 : decode cX8_see 7 = .ok (.putfield 246, 3) := by decide +kernel
theorem dX8_see_10 : decode cX8_see 10 = .ok (.aload_n 0, 1) := by decide +kernel
theorem dX8_see_11 : decode cX8_see 11 = .ok (.getfield 385, 3) := by decide +kernel
theorem dX8_see_14 : decode cX8_see 14 = .ok (.ifCond .eq 25, 3) := by decide +kernel
theorem dX8_see_17 : decode cX8_see 17 = .ok (.iload_n 1, 1) := by decide +kernel
theorem dX8_see_18 : decode cX8_see 18 = .ok (.ifCond .le 21, 3) := by decide +kernel
theorem dX8_see_21 : decode cX8_see 21 = .ok (.iload_n 1, 1) := by decide +kernel
theorem dX8_see_22 : decode cX8_see 22 = .ok (.iconst 3, 1) := by decide +kernel
theorem dX8_see_23 : decode cX8_see 23 = .ok (.irem, 1) := by decide +kernel
theorem dX8_see_24 : decode cX8_see 24 = .ok (.ifCond .ne 15, 3) := by decide +kernel
theorem dX8_see_27 : decode cX8_see 27 = .ok (.iload_n 1, 1) := by decide +kernel
theorem dX8_see_28 : decode cX8_see 28 = .ok (.iconst 3, 1) := by decide +kernel
theorem dX8_see_29 : decode cX8_see 29 = .ok (.idiv, 1) := by decide +kernel
theorem dX8_see_30 : decode cX8_see 30 = .ok (.bipush 16, 2) := by decide +kernel
theorem dX8_see_32 : decode cX8_see 32 = .ok (.if_icmp .gt 7, 3) := by decide +kernel
theorem dX8_see_35 : decode cX8_see 35 = .ok (.iconst 1, 1) := by decide +kernel
theorem dX8_see_36 : decode cX8_see 36 = .ok (.goto 4, 3) := by decide +kernel
theorem dX8_see_39 : decode cX8_see 39 = .ok (.iconst 0, 1) := by decide +kernel
theorem dX8_see_40 : decode cX8_see 40 = .ok (.istore_n 2, 1) := by decide +kernel
theorem dX8_see_41 : decode cX8_see 41 = .ok (.iconst 0, 1) := by decide +kernel
theorem dX8_see_42 : decode cX8_see 42 = .ok (.istore_n 3, 1) := by decide +kernel
theorem dX8_see_43 : decode cX8_see 43 = .ok (.iload_n 3, 1) := by decide +kernel
theorem dX8_see_44 : decode cX8_see 44 = .ok (.iload_n 1, 1) := by decide +kernel
theorem dX8_see_45 : decode cX8_see 45 = .ok (.if_icmp .ge 57, 3) := by decide +kernel
theorem dX8_see_48 : decode cX8_see 48 = .ok (.iload_n 2, 1) := by decide +kernel
theorem dX8_see_49 : decode cX8_see 49 = .ok (.ifCond .eq 53, 3) := by decide +kernel
theorem dX8_see_52 : decode cX8_see 52 = .ok (.aload_n 0, 1) := by decide +kernel
theorem dX8_see_53 : decode cX8_see 53 = .ok (.getfield 7, 3) := by decide +kernel
theorem dX8_see_56 : decode cX8_see 56 = .ok (.iload_n 3, 1) := by decide +kernel
theorem dX8_see_57 : decode cX8_see 57 = .ok (.iaload, 1) := by decide +kernel
theorem dX8_see_58 : decode cX8_see 58 = .ok (.bipush 30, 2) := by decide +kernel
theorem dX8_see_60 : decode cX8_see 60 = .ok (.if_icmp .gt 34, 3) := by decide +kernel
theorem dX8_see_63 : decode cX8_see 63 = .ok (.aload_n 0, 1) := by decide +kernel
theorem dX8_see_64 : decode cX8_see 64 = .ok (.aload_n 0, 1) := by decide +kernel
theorem dX8_see_65 : decode cX8_see 65 = .ok (.getfield 7, 3) := by decide +kernel
theorem dX8_see_68 : decode cX8_see 68 = .ok (.iload_n 3, 1) := by decide +kernel
theorem dX8_see_69 : decode cX8_see 69 = .ok (.iconst 1, 1) := by decide +kernel
theorem dX8_see_70 : decode cX8_see 70 = .ok (.iadd, 1) := by decide +kernel
theorem dX8_see_71 : decode cX8_see 71 = .ok (.iaload, 1) := by decide +kernel
theorem dX8_see_72 : decode cX8_see 72 = .ok (.invokevirtual 507, 3) := by decide +kernel
theorem dX8_see_75 : decode cX8_see 75 = .ok (.ifCond .eq 19, 3) := by decide +kernel
theorem dX8_see_78 : decode cX8_see 78 = .ok (.aload_n 0, 1) := by decide +kernel
theorem dX8_see_79 : decode cX8_see 79 = .ok (.getfield 7, 3) := by decide +kernel
theorem dX8_see_82 : decode cX8_see 82 = .ok (.iload_n 3, 1) := by decide +kernel
theorem dX8_see_83 : decode cX8_see 83 = .ok (.iconst 2, 1) := by decide +kernel
theorem dX8_see_84 : decode cX8_see 84 = .ok (.iadd, 1) := by decide +kernel
theorem dX8_see_85 : decode cX8_see 85 = .ok (.iaload, 1) := by decide +kernel
theorem dX8_see_86 : decode cX8_see 86 = .ok (.iconst 1, 1) := by decide +kernel
theorem dX8_see_87 : decode cX8_see 87 = .ok (.if_icmp .gt 7, 3) := by decide +kernel
theorem dX8_see_90 : decode cX8_see 90 = .ok (.iconst 1, 1) := by decide +kernel
theorem dX8_see_91 : decode cX8_see 91 = .ok (.goto 4, 3) := by decide +kernel
theorem dX8_see_94 : decode cX8_see 94 = .ok (.iconst 0, 1) := by decide +kernel
theorem dX8_see_95 : decode cX8_see 95 = .ok (.istore_n 2, 1) := by decide +kernel
theorem dX8_see_96 : decode cX8_see 96 = .ok (.iinc 3 3, 3) := by decide +kernel
theorem dX8_see_99 : decode cX8_see 99 = .ok (.goto (-56), 3) := by decide +kernel
theorem dX8_see_102 : decode cX8_see 102 = .ok (.iload_n 2, 1) := by decide +kernel
theorem dX8_see_103 : decode cX8_see 103 = .ok (.ifCond .ne 9, 3) := by decide +kernel
theorem dX8_see_106 : decode cX8_see 106 = .ok (.aload_n 0, 1) := by decide +kernel
theorem dX8_see_107 : decode cX8_see 107 = .ok (.iconst 1, 1) := by decide +kernel
theorem dX8_see_108 : decode cX8_see 108 = .ok (.invokevirtual 551, 3) := by decide +kernel
theorem dX8_see_111 : decode cX8_see 111 = .ok (.ireturn, 1) := by decide +kernel
theorem dX8_see_112 : decode cX8_see 112 = .ok (.iconst 0, 1) := by decide +kernel
theorem dX8_see_113 : decode cX8_see 113 = .ok (.istore_n 3, 1) := by decide +kernel
theorem dX8_see_114 : decode cX8_see 114 = .ok (.iload_n 3, 1) := by decide +kernel
theorem dX8_see_115 : decode cX8_see 115 = .ok (.iload_n 1, 1) := by decide +kernel
theorem dX8_see_116 : decode cX8_see 116 = .ok (.if_icmp .ge 21, 3) := by decide +kernel
theorem dX8_see_119 : decode cX8_see 119 = .ok (.aload_n 0, 1) := by decide +kernel
theorem dX8_see_120 : decode cX8_see 120 = .ok (.getfield 148, 3) := by decide +kernel
theorem dX8_see_123 : decode cX8_see 123 = .ok (.iload_n 3, 1) := by decide +kernel
theorem dX8_see_124 : decode cX8_see 124 = .ok (.aload_n 0, 1) := by decide +kernel
theorem dX8_see_125 : decode cX8_see 125 = .ok (.getfield 7, 3) := by decide +kernel
theorem dX8_see_128 : decode cX8_see 128 = .ok (.iload_n 3, 1) := by decide +kernel
theorem dX8_see_129 : decode cX8_see 129 = .ok (.iaload, 1) := by decide +kernel
theorem dX8_see_130 : decode cX8_see 130 = .ok (.iastore, 1) := by decide +kernel
theorem dX8_see_131 : decode cX8_see 131 = .ok (.iinc 3 1, 3) := by decide +kernel
theorem dX8_see_134 : decode cX8_see 134 = .ok (.goto (-20), 3) := by decide +kernel
theorem dX8_see_137 : decode cX8_see 137 = .ok (.aload_n 0, 1) := by decide +kernel
theorem dX8_see_138 : decode cX8_see 138 = .ok (.iload_n 1, 1) := by decide +kernel
theorem dX8_see_139 : decode cX8_see 139 = .ok (.iconst 3, 1) := by decide +kernel
theorem dX8_see_140 : decode cX8_see 140 = .ok (.idiv, 1) := by decide +kernel
theorem dX8_see_141 : decode cX8_see 141 = .ok (.putfield 392, 3) := by decide +kernel
theorem dX8_see_144 : decode cX8_see 144 = .ok (.aload_n 0, 1) := by decide +kernel
theorem dX8_see_145 : decode cX8_see 145 = .ok (.getfield 392, 3) := by decide +kernel
theorem dX8_see_148 : decode cX8_see 148 = .ok (.ireturn, 1) := by decide +kernel
theorem dX8_isAsSeen_0 : decode cX8_isAsSeen 0 = .ok (.iconst 0, 1) := by decide +kernel
theorem dX8_isAsSeen_1 : decode cX8_isAsSeen 1 = .ok (.istore_n 2, 1) := by decide +kernel
theorem dX8_isAsSeen_2 : decode cX8_isAsSeen 2 = .ok (.iload_n 2, 1) := by decide +kernel
theorem dX8_isAsSeen_3 : decode cX8_isAsSeen 3 = .ok (.aload_n 0, 1) := by decide +kernel
theorem dX8_isAsSeen_4 : decode cX8_isAsSeen 4 = .ok (.getfield 392, 3) := by decide +kernel
theorem dX8_isAsSeen_7 : decode cX8_isAsSeen 7 = .ok (.if_icmp .ge 65, 3) := by decide +kernel
theorem dX8_isAsSeen_10 : decode cX8_isAsSeen 10 = .ok (.aload_n 0, 1) := by decide +kernel
theorem dX8_isAsSeen_11 : decode cX8_isAsSeen 11 = .ok (.getfield 148, 3) := by decide +kernel
theorem dX8_isAsSeen_14 : decode cX8_isAsSeen 14 = .ok (.iconst 3, 1) := by decide +kernel
theorem dX8_isAsSeen_15 : decode cX8_isAsSeen 15 = .ok (.iload_n 2, 1) := by decide +kernel
theorem dX8_isAsSeen_16 : decode cX8_isAsSeen 16 = .ok (.imul, 1) := by decide +kernel
theorem dX8_isAsSeen_17 : decode cX8_isAsSeen 17 = .ok (.iaload, 1) := by decide +kernel
theorem dX8_isAsSeen_18 : decode cX8_isAsSeen 18 = .ok (.iload_n 1, 1) := by decide +kernel
theorem dX8_isAsSeen_19 : decode cX8_isAsSeen 19 = .ok (.if_icmp .ne 47, 3) := by decide +kernel
theorem dX8_isAsSeen_22 : decode cX8_isAsSeen 22 = .ok (.aload_n 0, 1) := by decide +kernel
theorem dX8_isAsSeen_23 : decode cX8_isAsSeen 23 = .ok (.getfield 133, 3) := by decide +kernel
theorem dX8_isAsSeen_26 : decode cX8_isAsSeen 26 = .ok (.iconst 0, 1) := by decide +kernel
theorem dX8_isAsSeen_27 : decode cX8_isAsSeen 27 = .ok (.iaload, 1) := by decide +kernel
theorem dX8_isAsSeen_28 : decode cX8_isAsSeen 28 = .ok (.sipush 999, 3) := by decide +kernel
theorem dX8_isAsSeen_31 : decode cX8_isAsSeen 31 = .ok (.if_icmp .gt 33, 3) := by decide +kernel
theorem dX8_isAsSeen_34 : decode cX8_isAsSeen 34 = .ok (.aload_n 0, 1) := by decide +kernel
theorem dX8_isAsSeen_35 : decode cX8_isAsSeen 35 = .ok (.getfield 449, 3) := by decide +kernel
theorem dX8_isAsSeen_38 : decode cX8_isAsSeen 38 = .ok (.aload_n 0, 1) := by decide +kernel
theorem dX8_isAsSeen_39 : decode cX8_isAsSeen 39 = .ok (.getfield 148, 3) := by decide +kernel
theorem dX8_isAsSeen_42 : decode cX8_isAsSeen 42 = .ok (.iconst 3, 1) := by decide +kernel
theorem dX8_isAsSeen_43 : decode cX8_isAsSeen 43 = .ok (.iload_n 2, 1) := by decide +kernel
theorem dX8_isAsSeen_44 : decode cX8_isAsSeen 44 = .ok (.imul, 1) := by decide +kernel
theorem dX8_isAsSeen_45 : decode cX8_isAsSeen 45 = .ok (.iconst 1, 1) := by decide +kernel
theorem dX8_isAsSeen_46 : decode cX8_isAsSeen 46 = .ok (.iadd, 1) := by decide +kernel
theorem dX8_isAsSeen_47 : decode cX8_isAsSeen 47 = .ok (.iaload, 1) := by decide +kernel
theorem dX8_isAsSeen_48 : decode cX8_isAsSeen 48 = .ok (.ishr, 1) := by decide +kernel
theorem dX8_isAsSeen_49 : decode cX8_isAsSeen 49 = .ok (.iconst 1, 1) := by decide +kernel
theorem dX8_isAsSeen_50 : decode cX8_isAsSeen 50 = .ok (.iand, 1) := by decide +kernel
theorem dX8_isAsSeen_51 : decode cX8_isAsSeen 51 = .ok (.aload_n 0, 1) := by decide +kernel
theorem dX8_isAsSeen_52 : decode cX8_isAsSeen 52 = .ok (.getfield 148, 3) := by decide +kernel
theorem dX8_isAsSeen_55 : decode cX8_isAsSeen 55 = .ok (.iconst 3, 1) := by decide +kernel
theorem dX8_isAsSeen_56 : decode cX8_isAsSeen 56 = .ok (.iload_n 2, 1) := by decide +kernel
theorem dX8_isAsSeen_57 : decode cX8_isAsSeen 57 = .ok (.imul, 1) := by decide +kernel
theorem dX8_isAsSeen_58 : decode cX8_isAsSeen 58 = .ok (.iconst 2, 1) := by decide +kernel
theorem dX8_isAsSeen_59 : decode cX8_isAsSeen 59 = .ok (.iadd, 1) := by decide +kernel
theorem dX8_isAsSeen_60 : decode cX8_isAsSeen 60 = .ok (.iaload, 1) := by decide +kernel
theorem dX8_isAsSeen_61 : decode cX8_isAsSeen 61 = .ok (.if_icmp .eq 5, 3) := by decide +kernel
theorem dX8_isAsSeen_64 : decode cX8_isAsSeen 64 = .ok (.iconst 0, 1) := by decide +kernel
theorem dX8_isAsSeen_65 : decode cX8_isAsSeen 65 = .ok (.ireturn, 1) := by decide +kernel
theorem dX8_isAsSeen_66 : decode cX8_isAsSeen 66 = .ok (.iinc 2 1, 3) := by decide +kernel
theorem dX8_isAsSeen_69 : decode cX8_isAsSeen 69 = .ok (.goto (-67), 3) := by decide +kernel
theorem dX8_isAsSeen_72 : decode cX8_isAsSeen 72 = .ok (.iconst 1, 1) := by decide +kernel
theorem dX8_isAsSeen_73 : decode cX8_isAsSeen 73 = .ok (.ireturn, 1) := by decide +kernel
theorem dX8_laysFits_0 : decode cX8_laysFits 0 = .ok (.aload_n 0, 1) := by decide +kernel
theorem dX8_laysFits_1 : decode cX8_laysFits 1 = .ok (.invokevirtual 518, 3) := by decide +kernel
theorem dX8_laysFits_4 : decode cX8_laysFits 4 = .ok (.aload_n 0, 1) := by decide +kernel
theorem dX8_laysFits_5 : decode cX8_laysFits 5 = .ok (.iconst 0, 1) := by decide +kernel
theorem dX8_laysFits_6 : decode cX8_laysFits 6 = .ok (.putfield 554, 3) := by decide +kernel
theorem dX8_laysFits_9 : decode cX8_laysFits 9 = .ok (.iconst 0, 1) := by decide +kernel
theorem dX8_laysFits_10 : decode cX8_laysFits 10 = .ok (.istore_n 2, 1) := by decide +kernel
theorem dX8_laysFits_11 : decode cX8_laysFits 11 = .ok (.iload_n 2, 1) := by decide +kernel
theorem dX8_laysFits_12 : decode cX8_laysFits 12 = .ok (.bipush 100, 2) := by decide +kernel
theorem dX8_laysFits_14 : decode cX8_laysFits 14 = .ok (.if_icmp .ge 123, 3) := by decide +kernel
theorem dX8_laysFits_17 : decode cX8_laysFits 17 = .ok (.aload_n 0, 1) := by decide +kernel
theorem dX8_laysFits_18 : decode cX8_laysFits 18 = .ok (.getfield 133, 3) := by decide +kernel
theorem dX8_laysFits_21 : decode cX8_laysFits 21 = .ok (.iconst 4, 1) := by decide +kernel
theorem dX8_laysFits_22 : decode cX8_laysFits 22 = .ok (.iconst 5, 1) := by decide +kernel
theorem dX8_laysFits_23 : decode cX8_laysFits 23 = .ok (.iload_n 1, 1) := by decide +kernel
theorem dX8_laysFits_24 : decode cX8_laysFits 24 = .ok (.imul, 1) := by decide +kernel
theorem dX8_laysFits_25 : decode cX8_laysFits 25 = .ok (.iadd, 1) := by decide +kernel
theorem dX8_laysFits_26 : decode cX8_laysFits 26 = .ok (.iload_n 2, 1) := by decide +kernel
theorem dX8_laysFits_27 : decode cX8_laysFits 27 = .ok (.iastore, 1) := by decide +kernel
theorem dX8_laysFits_28 : decode cX8_laysFits 28 = .ok (.iconst 1, 1) := by decide +kernel
theorem dX8_laysFits_29 : decode cX8_laysFits 29 = .ok (.istore_n 3, 1) := by decide +kernel
theorem dX8_laysFits_30 : decode cX8_laysFits 30 = .ok (.iconst 0, 1) := by decide +kernel
theorem dX8_laysFits_31 : decode cX8_laysFits 31 = .ok (.istore 4, 2) := by decide +kernel
theorem dX8_laysFits_33 : decode cX8_laysFits 33 = .ok (.iload 4, 2) := by decide +kernel
theorem dX8_laysFits_35 : decode cX8_laysFits 35 = .ok (.bipush 30, 2) := by decide +kernel
theorem dX8_laysFits_37 : decode cX8_laysFits 37 = .ok (.if_icmp .gt 69, 3) := by decide +kernel
theorem dX8_laysFits_40 : decode cX8_laysFits 40 = .ok (.aload_n 0, 1) := by decide +kernel
theorem dX8_laysFits_41 : decode cX8_laysFits 41 = .ok (.invokevirtual 479, 3) := by decide +kernel
theorem dX8_laysFits_44 : decode cX8_laysFits 44 = .ok (.iload_n 3, 1) := by decide +kernel
theorem dX8_laysFits_45 : decode cX8_laysFits 45 = .ok (.ifCond .eq 16, 3) := by decide +kernel
theorem dX8_laysFits_48 : decode cX8_laysFits 48 = .ok (.aload_n 0, 1) := by decide +kernel
theorem dX8_laysFits_49 : decode cX8_laysFits 49 = .ok (.iload 4, 2) := by decide +kernel
theorem dX8_laysFits_51 : decode cX8_laysFits 51 = .ok (.invokevirtual 557, 3) := by decide +kernel
theorem dX8_laysFits_54 : decode cX8_laysFits 54 = .ok (.ifCond .eq 7, 3) := by decide +kernel
theorem dX8_laysFits_57 : decode cX8_laysFits 57 = .ok (.iconst 1, 1) := by decide +kernel
theorem dX8_laysFits_58 : decode cX8_laysFits 58 = .ok (.goto 4, 3) := by decide +kernel
theorem dX8_laysFits_61 : decode cX8_laysFits 61 = .ok (.iconst 0, 1) := by decide +kernel
theorem dX8_laysFits_62 : decode cX8_laysFits 62 = .ok (.istore_n 3, 1) := by decide +kernel
theorem dX8_laysFits_63 : decode cX8_laysFits 63 = .ok (.aload_n 0, 1) := by decide +kernel
theorem dX8_laysFits_64 : decode cX8_laysFits 64 = .ok (.getfield 151, 3) := by decide +kernel
theorem dX8_laysFits_67 : decode cX8_laysFits 67 = .ok (.bipush 31, 2) := by decide +kernel
theorem dX8_laysFits_69 : decode cX8_laysFits 69 = .ok (.iload_n 2, 1) := by decide +kernel
theorem dX8_laysFits_70 : decode cX8_laysFits 70 = .ok (.imul, 1) := by decide +kernel
theorem dX8_laysFits_71 : decode cX8_laysFits 71 = .ok (.iload 4, 2) := by decide +kernel
theorem dX8_laysFits_73 : decode cX8_laysFits 73 = .ok (.iadd, 1) := by decide +kernel
theorem dX8_laysFits_74 : decode cX8_laysFits 74 = .ok (.aload_n 0, 1) := by decide +kernel
theorem dX8_laysFits_75 : decode cX8_laysFits 75 = .ok (.getfield 449, 3) := by decide +kernel
theorem dX8_laysFits_78 : decode cX8_laysFits 78 = .ok (.iload_n 1, 1) := by decide +kernel
theorem dX8_laysFits_79 : decode cX8_laysFits 79 = .ok (.ishr, 1) := by decide +kernel
theorem dX8_laysFits_80 : decode cX8_laysFits 80 = .ok (.iconst 1, 1) := by decide +kernel
theorem dX8_laysFits_81 : decode cX8_laysFits 81 = .ok (.iand, 1) := by decide +kernel
theorem dX8_laysFits_82 : decode cX8_laysFits 82 = .ok (.iconst 1, 1) := by decide +kernel
theorem dX8_laysFits_83 : decode cX8_laysFits 83 = .ok (.if_icmp .ne 7, 3) := by decide +kernel
theorem dX8_laysFits_86 : decode cX8_laysFits 86 = .ok (.iconst 1, 1) := by decide +kernel
theorem dX8_laysFits_87 : decode cX8_laysFits 87 = .ok (.goto 4, 3) := by decide +kernel
theorem dX8_laysFits_90 : decode cX8_laysFits 90 = .ok (.iconst 0, 1) := by decide +kernel
theorem dX8_laysFits_91 : decode cX8_laysFits 91 = .ok (.bastore, 1) := by decide +kernel
theorem dX8_laysFits_92 : decode cX8_laysFits 92 = .ok (.aload_n 0, 1) := by decide +kernel
theorem dX8_laysFits_93 : decode cX8_laysFits 93 = .ok (.aload_n 0, 1) := by decide +kernel
theorem dX8_laysFits_94 : decode cX8_laysFits 94 = .ok (.getfield 449, 3) := by decide +kernel
theorem dX8_laysFits_97 : decode cX8_laysFits 97 = .ok (.invokevirtual 482, 3) := by decide +kernel
theorem dX8_laysFits_100 : decode cX8_laysFits 100 = .ok (.iinc 4 1, 3) := by decide +kernel
theorem dX8_laysFits_103 : decode cX8_laysFits 103 = .ok (.goto (-70), 3) := by decide +kernel
theorem dX8_laysFits_106 : decode cX8_laysFits 106 = .ok (.aload_n 0, 1) := by decide +kernel
theorem dX8_laysFits_107 : decode cX8_laysFits 107 = .ok (.invokevirtual 488, 3) := by decide +kernel
theorem dX8_laysFits_110 : decode cX8_laysFits 110 = .ok (.aload_n 0, 1) := by decide +kernel
theorem dX8_laysFits_111 : decode cX8_laysFits 111 = .ok (.getfield 155, 3) := by decide +kernel
theorem dX8_laysFits_114 : decode cX8_laysFits 114 = .ok (.iload_n 2, 1) := by decide +kernel
theorem dX8_laysFits_115 : decode cX8_laysFits 115 = .ok (.iload_n 3, 1) := by decide +kernel
theorem dX8_laysFits_116 : decode cX8_laysFits 116 = .ok (.bastore, 1) := by decide +kernel
theorem dX8_laysFits_117 : decode cX8_laysFits 117 = .ok (.iload_n 3, 1) := by decide +kernel
theorem dX8_laysFits_118 : decode cX8_laysFits 118 = .ok (.ifCond .eq 13, 3) := by decide +kernel
theorem dX8_laysFits_121 : decode cX8_laysFits 121 = .ok (.aload_n 0, 1) := by decide +kernel
theorem dX8_laysFits_122 : decode cX8_laysFits 122 = .ok (.dup, 1) := by decide +kernel
theorem dX8_laysFits_123 : decode cX8_laysFits 123 = .ok (.getfield 554, 3) := by decide +kernel
theorem dX8_laysFits_126 : decode cX8_laysFits 126 = .ok (.iconst 1, 1) := by decide +kernel
theorem dX8_laysFits_127 : decode cX8_laysFits 127 = .ok (.iadd, 1) := by decide +kernel
theorem dX8_laysFits_128 : decode cX8_laysFits 128 = .ok (.putfield 554, 3) := by decide +kernel
theorem dX8_laysFits_131 : decode cX8_laysFits 131 = .ok (.iinc 2 1, 3) := by decide +kernel
theorem dX8_laysFits_134 : decode cX8_laysFits 134 = .ok (.goto (-123), 3) := by decide +kernel
theorem dX8_laysFits_137 : decode cX8_laysFits 137 = .ok (.aload_n 0, 1) := by decide +kernel
theorem dX8_laysFits_138 : decode cX8_laysFits 138 = .ok (.invokevirtual 524, 3) := by decide +kernel
theorem dX8_laysFits_141 : decode cX8_laysFits 141 = .ok (.return_, 1) := by decide +kernel
theorem dX8_fits_0 : decode cX8_fits 0 = .ok (.aload_n 0, 1) := by decide +kernel
theorem dX8_fits_1 : decode cX8_fits 1 = .ok (.iload_n 1, 1) := by decide +kernel
theorem dX8_fits_2 : decode cX8_fits 2 = .ok (.invokevirtual 507, 3) := by decide +kernel
theorem dX8_fits_5 : decode cX8_fits 5 = .ok (.ifCond .eq 15, 3) := by decide +kernel
theorem dX8_fits_8 : decode cX8_fits 8 = .ok (.iload_n 2, 1) := by decide +kernel
theorem dX8_fits_9 : decode cX8_fits 9 = .ok (.i2l, 1) := by decide +kernel
theorem dX8_fits_10 : decode cX8_fits 10 = .ok (.lconst 0, 1) := by decide +kernel
theorem dX8_fits_11 : decode cX8_fits 11 = .ok (.ldc2_w 500, 3) := by decide +kernel
theorem dX8_fits_14 : decode cX8_fits 14 = .ok (.invokestatic 289, 3) := by decide +kernel
theorem dX8_fits_17 : decode cX8_fits 17 = .ok (.ifCond .ne 5, 3) := by decide +kernel
theorem dX8_fits_20 : decode cX8_fits 20 = .ok (.iconst (-1), 1) := by decide +kernel
theorem dX8_fits_21 : decode cX8_fits 21 = .ok (.ireturn, 1) := by decide +kernel
theorem dX8_fits_22 : decode cX8_fits 22 = .ok (.aload_n 0, 1) := by decide +kernel
theorem dX8_fits_23 : decode cX8_fits 23 = .ok (.iload_n 1, 1) := by decide +kernel
theorem dX8_fits_24 : decode cX8_fits 24 = .ok (.invokevirtual 560, 3) := by decide +kernel
theorem dX8_fits_27 : decode cX8_fits 27 = .ok (.iconst (-1), 1) := by decide +kernel
theorem dX8_fits_28 : decode cX8_fits 28 = .ok (.istore_n 3, 1) := by decide +kernel
theorem dX8_fits_29 : decode cX8_fits 29 = .ok (.iconst (-1), 1) := by decide +kernel
theorem dX8_fits_30 : decode cX8_fits 30 = .ok (.istore 4, 2) := by decide +kernel
theorem dX8_fits_32 : decode cX8_fits 32 = .ok (.iconst 0, 1) := by decide +kernel
theorem dX8_fits_33 : decode cX8_fits 33 = .ok (.istore 5, 2) := by decide +kernel
theorem dX8_fits_35 : decode cX8_fits 35 = .ok (.iload 5, 2) := by decide +kernel
theorem dX8_fits_37 : decode cX8_fits 37 = .ok (.bipush 100, 2) := by decide +kernel
theorem dX8_fits_39 : decode cX8_fits 39 = .ok (.if_icmp .ge 34, 3) := by decide +kernel
theorem dX8_fits_42 : decode cX8_fits 42 = .ok (.aload_n 0, 1) := by decide +kernel
theorem dX8_fits_43 : decode cX8_fits 43 = .ok (.getfield 155, 3) := by decide +kernel
theorem dX8_fits_46 : decode cX8_fits 46 = .ok (.iload 5, 2) := by decide +kernel
theorem dX8_fits_48 : decode cX8_fits 48 = .ok (.baload, 1) := by decide +kernel
theorem dX8_fits_49 : decode cX8_fits 49 = .ok (.ifCond .ne 6, 3) := by decide +kernel
theorem dX8_fits_52 : decode cX8_fits 52 = .ok (.goto 15, 3) := by decide +kernel
theorem dX8_fits_55 : decode cX8_fits 55 = .ok (.iload_n 3, 1) := by decide +kernel
theorem dX8_fits_56 : decode cX8_fits 56 = .ok (.iconst (-1), 1) := by decide +kernel
theorem dX8_fits_57 : decode cX8_fits 57 = .ok (.if_icmp .ne 6, 3) := by decide +kernel
theorem dX8_fits_60 : decode cX8_fits 60 = .ok (.iload 5, 2) := by decide +kernel
theorem dX8_fits_62 : decode cX8_fits 62 = .ok (.istore_n 3, 1) := by decide +kernel
theorem dX8_fits_63 : decode cX8_fits 63 = .ok (.iload 5, 2) := by decide +kernel
theorem dX8_fits_65 : decode cX8_fits 65 = .ok (.istore 4, 2) := by decide +kernel
theorem dX8_fits_67 : decode cX8_fits 67 = .ok (.iinc 5 1, 3) := by decide +kernel
theorem dX8_fits_70 : decode cX8_fits 70 = .ok (.goto (-35), 3) := by decide +kernel
theorem dX8_fits_73 : decode cX8_fits 73 = .ok (.iload_n 2, 1) := by decide +kernel
theorem dX8_fits_74 : decode cX8_fits 74 = .ok (.ifCond .ne 10, 3) := by decide +kernel
theorem dX8_fits_77 : decode cX8_fits 77 = .ok (.aload_n 0, 1) := by decide +kernel
theorem dX8_fits_78 : decode cX8_fits 78 = .ok (.getfield 554, 3) := by decide +kernel
theorem dX8_fits_81 : decode cX8_fits 81 = .ok (.goto 14, 3) := by decide +kernel
theorem dX8_fits_84 : decode cX8_fits 84 = .ok (.iload_n 2, 1) := by decide +kernel
theorem dX8_fits_85 : decode cX8_fits 85 = .ok (.iconst 1, 1) := by decide +kernel
theorem dX8_fits_86 : decode cX8_fits 86 = .ok (.if_icmp .ne 7, 3) := by decide +kernel
theorem dX8_fits_89 : decode cX8_fits 89 = .ok (.iload_n 3, 1) := by decide +kernel
theorem dX8_fits_90 : decode cX8_fits 90 = .ok (.goto 5, 3) := by decide +kernel
theorem dX8_fits_93 : decode cX8_fits 93 = .ok (.iload 4, 2) := by decide +kernel
theorem dX8_fits_95 : decode cX8_fits 95 = .ok (.ireturn, 1) := by decide +kernel
theorem dX8_tells_0 : decode cX8_tells 0 = .ok (.aload_n 0, 1) := by decide +kernel
theorem dX8_tells_1 : decode cX8_tells 1 = .ok (.iload_n 1, 1) := by decide +kernel
theorem dX8_tells_2 : decode cX8_tells 2 = .ok (.invokevirtual 507, 3) := by decide +kernel
theorem dX8_tells_5 : decode cX8_tells 5 = .ok (.ifCond .eq 13, 3) := by decide +kernel
theorem dX8_tells_8 : decode cX8_tells 8 = .ok (.iload_n 2, 1) := by decide +kernel
theorem dX8_tells_9 : decode cX8_tells 9 = .ok (.i2l, 1) := by decide +kernel
theorem dX8_tells_10 : decode cX8_tells 10 = .ok (.lconst 0, 1) := by decide +kernel
theorem dX8_tells_11 : decode cX8_tells 11 = .ok (.lconst 1, 1) := by decide +kernel
theorem dX8_tells_12 : decode cX8_tells 12 = .ok (.invokestatic 289, 3) := by decide +kernel
theorem dX8_tells_15 : decode cX8_tells 15 = .ok (.ifCond .ne 5, 3) := by decide +kernel
theorem dX8_tells_18 : decode cX8_tells 18 = .ok (.iconst (-1), 1) := by decide +kernel
theorem dX8_tells_19 : decode cX8_tells 19 = .ok (.ireturn, 1) := by decide +kernel
theorem dX8_tells_20 : decode cX8_tells 20 = .ok (.aload_n 0, 1) := by decide +kernel
theorem dX8_tells_21 : decode cX8_tells 21 = .ok (.iload_n 1, 1) := by decide +kernel
theorem dX8_tells_22 : decode cX8_tells 22 = .ok (.invokevirtual 560, 3) := by decide +kernel
theorem dX8_tells_25 : decode cX8_tells 25 = .ok (.iconst (-1), 1) := by decide +kernel
theorem dX8_tells_26 : decode cX8_tells 26 = .ok (.istore_n 3, 1) := by decide +kernel
theorem dX8_tells_27 : decode cX8_tells 27 = .ok (.iconst 0, 1) := by decide +kernel
theorem dX8_tells_28 : decode cX8_tells 28 = .ok (.istore 4, 2) := by decide +kernel
theorem dX8_tells_30 : decode cX8_tells 30 = .ok (.iconst 0, 1) := by decide +kernel
theorem dX8_tells_31 : decode cX8_tells 31 = .ok (.istore 5, 2) := by decide +kernel
theorem dX8_tells_33 : decode cX8_tells 33 = .ok (.aload_n 0, 1) := by decide +kernel
theorem dX8_tells_34 : decode cX8_tells 34 = .ok (.getfield 554, 3) := by decide +kernel
theorem dX8_tells_37 : decode cX8_tells 37 = .ok (.ifCond .le 117, 3) := by decide +kernel
theorem dX8_tells_40 : decode cX8_tells 40 = .ok (.aload_n 0, 1) := by decide +kernel
theorem dX8_tells_41 : decode cX8_tells 41 = .ok (.iload 5, 2) := by decide +kernel
theorem dX8_tells_43 : decode cX8_tells 43 = .ok (.iconst 0, 1) := by decide +kernel
theorem dX8_tells_44 : decode cX8_tells 44 = .ok (.bipush 30, 2) := by decide +kernel
theorem dX8_tells_46 : decode cX8_tells 46 = .ok (.invokevirtual 515, 3) := by decide +kernel
theorem dX8_tells_49 : decode cX8_tells 49 = .ok (.ifCond .eq 105, 3) := by decide +kernel
theorem dX8_tells_52 : decode cX8_tells 52 = .ok (.iconst 0, 1) := by decide +kernel
theorem dX8_tells_53 : decode cX8_tells 53 = .ok (.istore 6, 2) := by decide +kernel
theorem dX8_tells_55 : decode cX8_tells 55 = .ok (.iconst 0, 1) := by decide +kernel
theorem dX8_tells_56 : decode cX8_tells 56 = .ok (.istore 7, 2) := by decide +kernel
theorem dX8_tells_58 : decode cX8_tells 58 = .ok (.iload 7, 2) := by decide +kernel
theorem dX8_tells_60 : decode cX8_tells 60 = .ok (.bipush 100, 2) := by decide +kernel
theorem dX8_tells_62 : decode cX8_tells 62 = .ok (.if_icmp .ge 38, 3) := by decide +kernel
theorem dX8_tells_65 : decode cX8_tells 65 = .ok (.aload_n 0, 1) := by decide +kernel
theorem dX8_tells_66 : decode cX8_tells 66 = .ok (.getfield 155, 3) := by decide +kernel
theorem dX8_tells_69 : decode cX8_tells 69 = .ok (.iload 7, 2) := by decide +kernel
theorem dX8_tells_71 : decode cX8_tells 71 = .ok (.baload, 1) := by decide +kernel
theorem dX8_tells_72 : decode cX8_tells 72 = .ok (.ifCond .eq 22, 3) := by decide +kernel
theorem dX8_tells_75 : decode cX8_tells 75 = .ok (.aload_n 0, 1) := by decide +kernel
theorem dX8_tells_76 : decode cX8_tells 76 = .ok (.getfield 151, 3) := by decide +kernel
theorem dX8_tells_79 : decode cX8_tells 79 = .ok (.bipush 31, 2) := by decide +kernel
theorem dX8_tells_81 : decode cX8_tells 81 = .ok (.iload 7, 2) := by decide +kernel
theorem dX8_tells_83 : decode cX8_tells 83 = .ok (.imul, 1) := by decide +kernel
theorem dX8_tells_84 : decode cX8_tells 84 = .ok (.iload 5, 2) := by decide +kernel
theorem dX8_tells_86 : decode cX8_tells 86 = .ok (.iadd, 1) := by decide +kernel
theorem dX8_tells_87 : decode cX8_tells 87 = .ok (.baload, 1) := by decide +kernel
theorem dX8_tells_88 : decode cX8_tells 88 = .ok (.ifCond .eq 6, 3) := by decide +kernel
theorem dX8_tells_91 : decode cX8_tells 91 = .ok (.iinc 6 1, 3) := by decide +kernel
theorem dX8_tells_94 : decode cX8_tells 94 = .ok (.iinc 7 1, 3) := by decide +kernel
theorem dX8_tells_97 : decode cX8_tells 97 = .ok (.goto (-39), 3) := by decide +kernel
theorem dX8_tells_100 : decode cX8_tells 100 = .ok (.iload 6, 2) := by decide +kernel
theorem dX8_tells_102 : decode cX8_tells 102 = .ok (.aload_n 0, 1) := by decide +kernel
theorem dX8_tells_103 : decode cX8_tells 103 = .ok (.getfield 554, 3) := by decide +kernel
theorem dX8_tells_106 : decode cX8_tells 106 = .ok (.iload 6, 2) := by decide +kernel
theorem dX8_tells_108 : decode cX8_tells 108 = .ok (.isub, 1) := by decide +kernel
theorem dX8_tells_109 : decode cX8_tells 109 = .ok (.if_icmp .le 8, 3) := by decide +kernel
theorem dX8_tells_112 : decode cX8_tells 112 = .ok (.iload 6, 2) := by decide +kernel
theorem dX8_tells_114 : decode cX8_tells 114 = .ok (.goto 10, 3) := by decide +kernel
theorem dX8_tells_117 : decode cX8_tells 117 = .ok (.aload_n 0, 1) := by decide +kernel
theorem dX8_tells_118 : decode cX8_tells 118 = .ok (.getfield 554, 3) := by decide +kernel
theorem dX8_tells_121 : decode cX8_tells 121 = .ok (.iload 6, 2) := by decide +kernel
theorem dX8_tells_123 : decode cX8_tells 123 = .ok (.isub, 1) := by decide +kernel
theorem dX8_tells_124 : decode cX8_tells 124 = .ok (.istore 7, 2) := by decide +kernel
theorem dX8_tells_126 : decode cX8_tells 126 = .ok (.iload_n 3, 1) := by decide +kernel
theorem dX8_tells_127 : decode cX8_tells 127 = .ok (.iconst (-1), 1) := by decide +kernel
theorem dX8_tells_128 : decode cX8_tells 128 = .ok (.if_icmp .eq 13, 3) := by decide +kernel
theorem dX8_tells_131 : decode cX8_tells 131 = .ok (.iload 7, 2) := by decide +kernel
theorem dX8_tells_133 : decode cX8_tells 133 = .ok (.iload 4, 2) := by decide +kernel
theorem dX8_tells_135 : decode cX8_tells 135 = .ok (.if_icmp .lt 6, 3) := by decide +kernel
theorem dX8_tells_138 : decode cX8_tells 138 = .ok (.goto 10, 3) := by decide +kernel
theorem dX8_tells_141 : decode cX8_tells 141 = .ok (.iload 5, 2) := by decide +kernel
theorem dX8_tells_143 : decode cX8_tells 143 = .ok (.istore_n 3, 1) := by decide +kernel
theorem dX8_tells_144 : decode cX8_tells 144 = .ok (.iload 7, 2) := by decide +kernel
theorem dX8_tells_146 : decode cX8_tells 146 = .ok (.istore 4, 2) := by decide +kernel
theorem dX8_tells_148 : decode cX8_tells 148 = .ok (.iinc 5 1, 3) := by decide +kernel
theorem dX8_tells_151 : decode cX8_tells 151 = .ok (.goto (-118), 3) := by decide +kernel
theorem dX8_tells_154 : decode cX8_tells 154 = .ok (.iload_n 3, 1) := by decide +kernel
theorem dX8_tells_155 : decode cX8_tells 155 = .ok (.iconst (-1), 1) := by decide +kernel
theorem dX8_tells_156 : decode cX8_tells 156 = .ok (.if_icmp .ne 7, 3) := by decide +kernel
theorem dX8_tells_159 : decode cX8_tells 159 = .ok (.iconst (-1), 1) := by decide +kernel
theorem dX8_tells_160 : decode cX8_tells 160 = .ok (.goto 13, 3) := by decide +kernel
theorem dX8_tells_163 : decode cX8_tells 163 = .ok (.iload_n 2, 1) := by decide +kernel
theorem dX8_tells_164 : decode cX8_tells 164 = .ok (.ifCond .ne 7, 3) := by decide +kernel
theorem dX8_tells_167 : decode cX8_tells 167 = .ok (.iload_n 3, 1) := by decide +kernel
theorem dX8_tells_168 : decode cX8_tells 168 = .ok (.goto 5, 3) := by decide +kernel
theorem dX8_tells_171 : decode cX8_tells 171 = .ok (.iload 4, 2) := by decide +kernel
theorem dX8_tells_173 : decode cX8_tells 173 = .ok (.ireturn, 1) := by decide +kernel
theorem dX8_keeps_0 : decode cX8_keeps 0 = .ok (.aload_n 0, 1) := by decide +kernel
theorem dX8_keeps_1 : decode cX8_keeps 1 = .ok (.aload_n 0, 1) := by decide +kernel
theorem dX8_keeps_2 : decode cX8_keeps 2 = .ok (.getfield 563, 3) := by decide +kernel
theorem dX8_keeps_5 : decode cX8_keeps 5 = .ok (.iconst 1, 1) := by decide +kernel
theorem dX8_keeps_6 : decode cX8_keeps 6 = .ok (.iadd, 1) := by decide +kernel
theorem dX8_keeps_7 : decode cX8_keeps 7 = .ok (.bipush 20, 2) := by decide +kernel
theorem dX8_keeps_9 : decode cX8_keeps 9 = .ok (.irem, 1) := by decide +kernel
theorem dX8_keeps_10 : decode cX8_keeps 10 = .ok (.putfield 563, 3) := by decide +kernel
theorem dX8_keeps_13 : decode cX8_keeps 13 = .ok (.iconst 0, 1) := by decide +kernel
theorem dX8_keeps_14 : decode cX8_keeps 14 = .ok (.istore_n 1, 1) := by decide +kernel
theorem dX8_keeps_15 : decode cX8_keeps 15 = .ok (.iload_n 1, 1) := by decide +kernel
theorem dX8_keeps_16 : decode cX8_keeps 16 = .ok (.sipush 163, 3) := by decide +kernel
theorem dX8_keeps_19 : decode cX8_keeps 19 = .ok (.if_icmp .ge 30, 3) := by decide +kernel
theorem dX8_keeps_22 : decode cX8_keeps 22 = .ok (.aload_n 0, 1) := by decide +kernel
theorem dX8_keeps_23 : decode cX8_keeps 23 = .ok (.getfield 158, 3) := by decide +kernel
theorem dX8_keeps_26 : decode cX8_keeps 26 = .ok (.sipush 163, 3) := by decide +kernel
theorem dX8_keeps_29 : decode cX8_keeps 29 = .ok (.aload_n 0, 1) := by decide +kernel
theorem dX8_keeps_30 : decode cX8_keeps 30 = .ok (.getfield 563, 3) := by decide +kernel
theorem dX8_keeps_33 : decode cX8_keeps 33 = .ok (.imul, 1) := by decide +kernel
theorem dX8_keeps_34 : decode cX8_keeps 34 = .ok (.iload_n 1, 1) := by decide +kernel
theorem dX8_keeps_35 : decode cX8_keeps 35 = .ok (.iadd, 1) := by decide +kernel
theorem dX8_keeps_36 : decode cX8_keeps 36 = .ok (.aload_n 0, 1) := by decide +kernel
theorem dX8_keeps_37 : decode cX8_keeps 37 = .ok (.getfield 133, 3) := by decide +kernel
theorem dX8_keeps_40 : decode cX8_keeps 40 = .ok (.iload_n 1, 1) := by decide +kernel
theorem dX8_keeps_41 : decode cX8_keeps 41 = .ok (.iaload, 1) := by decide +kernel
theorem dX8_keeps_42 : decode cX8_keeps 42 = .ok (.iastore, 1) := by decide +kernel
theorem dX8_keeps_43 : decode cX8_keeps 43 = .ok (.iinc 1 1, 3) := by decide +kernel
theorem dX8_keeps_46 : decode cX8_keeps 46 = .ok (.goto (-31), 3) := by decide +kernel
theorem dX8_keeps_49 : decode cX8_keeps 49 = .ok (.aload_n 0, 1) := by decide +kernel
theorem dX8_keeps_50 : decode cX8_keeps 50 = .ok (.getfield 389, 3) := by decide +kernel
theorem dX8_keeps_53 : decode cX8_keeps 53 = .ok (.bipush 20, 2) := by decide +kernel
theorem dX8_keeps_55 : decode cX8_keeps 55 = .ok (.if_icmp .ge 13, 3) := by decide +kernel
theorem dX8_keeps_58 : decode cX8_keeps 58 = .ok (.aload_n 0, 1) := by decide +kernel
theorem dX8_keeps_59 : decode cX8_keeps 59 = .ok (.dup, 1) := by decide +kernel
theorem dX8_keeps_60 : decode cX8_keeps 60 = .ok (.getfield 389, 3) := by decide +kernel
theorem dX8_keeps_63 : decode cX8_keeps 63 = .ok (.iconst 1, 1) := by decide +kernel
theorem dX8_keeps_64 : decode cX8_keeps 64 = .ok (.iadd, 1) := by decide +kernel
theorem dX8_keeps_65 : decode cX8_keeps 65 = .ok (.putfield 389, 3) := by decide +kernel
theorem dX8_keeps_68 : decode cX8_keeps 68 = .ok (.return_, 1) := by decide +kernel
theorem dX8_undo_0 : decode cX8_undo 0 = .ok (.aload_n 0, 1) := by decide +kernel
theorem dX8_undo_1 : decode cX8_undo 1 = .ok (.getfield 389, 3) := by decide +kernel
theorem dX8_undo_4 : decode cX8_undo 4 = .ok (.ifCond .ne 15, 3) := by decide +kernel
theorem dX8_undo_7 : decode cX8_undo 7 = .ok (.aload_n 0, 1) := by decide +kernel
theorem dX8_undo_8 : decode cX8_undo 8 = .ok (.getfield 17, 3) := by decide +kernel
theorem dX8_undo_11 : decode cX8_undo 11 = .ok (.iconst 4, 1) := by decide +kernel
theorem dX8_undo_12 : decode cX8_undo 12 = .ok (.dup2, 1) := by decide +kernel
theorem dX8_undo_13 : decode cX8_undo 13 = .ok (.iaload, 1) := by decide +kernel
theorem dX8_undo_14 : decode cX8_undo 14 = .ok (.iconst 1, 1) := by decide +kernel
theorem dX8_undo_15 : decode cX8_undo 15 = .ok (.iadd, 1) := by decide +kernel
theorem dX8_undo_16 : decode cX8_undo 16 = .ok (.iastore, 1) := by decide +kernel
theorem dX8_undo_17 : decode cX8_undo 17 = .ok (.iconst 0, 1) := by decide +kernel
theorem dX8_undo_18 : decode cX8_undo 18 = .ok (.ireturn, 1) := by decide +kernel
theorem dX8_undo_19 : decode cX8_undo 19 = .ok (.iconst 0, 1) := by decide +kernel
theorem dX8_undo_20 : decode cX8_undo 20 = .ok (.istore_n 1, 1) := by decide +kernel
theorem dX8_undo_21 : decode cX8_undo 21 = .ok (.iload_n 1, 1) := by decide +kernel
theorem dX8_undo_22 : decode cX8_undo 22 = .ok (.sipush 163, 3) := by decide +kernel
theorem dX8_undo_25 : decode cX8_undo 25 = .ok (.if_icmp .ge 30, 3) := by decide +kernel
theorem dX8_undo_28 : decode cX8_undo 28 = .ok (.aload_n 0, 1) := by decide +kernel
theorem dX8_undo_29 : decode cX8_undo 29 = .ok (.getfield 133, 3) := by decide +kernel
theorem dX8_undo_32 : decode cX8_undo 32 = .ok (.iload_n 1, 1) := by decide +kernel
theorem dX8_undo_33 : decode cX8_undo 33 = .ok (.aload_n 0, 1) := by decide +kernel
theorem dX8_undo_34 : decode cX8_undo 34 = .ok (.getfield 158, 3) := by decide +kernel
theorem dX8_undo_37 : decode cX8_undo 37 = .ok (.sipush 163, 3) := by decide +kernel
theorem dX8_undo_40 : decode cX8_undo 40 = .ok (.aload_n 0, 1) := by decide +kernel
theorem dX8_undo_41 : decode cX8_undo 41 = .ok (.getfield 563, 3) := by decide +kernel
theorem dX8_undo_44 : decode cX8_undo 44 = .ok (.imul, 1) := by decide +kernel
theorem dX8_undo_45 : decode cX8_undo 45 = .ok (.iload_n 1, 1) := by decide +kernel
theorem dX8_undo_46 : decode cX8_undo 46 = .ok (.iadd, 1) := by decide +kernel
theorem dX8_undo_47 : decode cX8_undo 47 = .ok (.iaload, 1) := by decide +kernel
theorem dX8_undo_48 : decode cX8_undo 48 = .ok (.iastore, 1) := by decide +kernel
theorem dX8_undo_49 : decode cX8_undo 49 = .ok (.iinc 1 1, 3) := by decide +kernel
theorem dX8_undo_52 : decode cX8_undo 52 = .ok (.goto (-31), 3) := by decide +kernel
theorem dX8_undo_55 : decode cX8_undo 55 = .ok (.aload_n 0, 1) := by decide +kernel
theorem dX8_undo_56 : decode cX8_undo 56 = .ok (.aload_n 0, 1) := by decide +kernel
theorem dX8_undo_57 : decode cX8_undo 57 = .ok (.getfield 563, 3) := by decide +kernel
theorem dX8_undo_60 : decode cX8_undo 60 = .ok (.bipush 20, 2) := by decide +kernel
theorem dX8_undo_62 : decode cX8_undo 62 = .ok (.iadd, 1) := by decide +kernel
theorem dX8_undo_63 : decode cX8_undo 63 = .ok (.iconst 1, 1) := by decide +kernel
theorem dX8_undo_64 : decode cX8_undo 64 = .ok (.isub, 1) := by decide +kernel
theorem dX8_undo_65 : decode cX8_undo 65 = .ok (.bipush 20, 2) := by decide +kernel
theorem dX8_undo_67 : decode cX8_undo 67 = .ok (.irem, 1) := by decide +kernel
theorem dX8_undo_68 : decode cX8_undo 68 = .ok (.putfield 563, 3) := by decide +kernel
theorem dX8_undo_71 : decode cX8_undo 71 = .ok (.aload_n 0, 1) := by decide +kernel
theorem dX8_undo_72 : decode cX8_undo 72 = .ok (.dup, 1) := by decide +kernel
theorem dX8_undo_73 : decode cX8_undo 73 = .ok (.getfield 389, 3) := by decide +kernel
theorem dX8_undo_76 : decode cX8_undo 76 = .ok (.iconst 1, 1) := by decide +kernel
theorem dX8_undo_77 : decode cX8_undo 77 = .ok (.isub, 1) := by decide +kernel
theorem dX8_undo_78 : decode cX8_undo 78 = .ok (.putfield 389, 3) := by decide +kernel
theorem dX8_undo_81 : decode cX8_undo 81 = .ok (.iconst 1, 1) := by decide +kernel
theorem dX8_undo_82 : decode cX8_undo 82 = .ok (.ireturn, 1) := by decide +kernel
theorem dX8_want_0 : decode cX8_want 0 = .ok (.aload_n 0, 1) := by decide +kernel
theorem dX8_want_1 : decode cX8_want 1 = .ok (.iload_n 1, 1) := by decide +kernel
theorem dX8_want_2 : decode cX8_want 2 = .ok (.invokevirtual 507, 3) := by decide +kernel
theorem dX8_want_5 : decode cX8_want 5 = .ok (.ifCond .eq 28, 3) := by decide +kernel
theorem dX8_want_8 : decode cX8_want 8 = .ok (.iload_n 2, 1) := by decide +kernel
theorem dX8_want_9 : decode cX8_want 9 = .ok (.i2l, 1) := by decide +kernel
theorem dX8_want_10 : decode cX8_want 10 = .ok (.lconst 0, 1) := by decide +kernel
theorem dX8_want_11 : decode cX8_want 11 = .ok (.aload_n 0, 1) := by decide +kernel
theorem dX8_want_12 : decode cX8_want 12 = .ok (.invokevirtual 504, 3) := by decide +kernel
theorem dX8_want_15 : decode cX8_want 15 = .ok (.iconst 1, 1) := by decide +kernel
theorem dX8_want_16 : decode cX8_want 16 = .ok (.isub, 1) := by decide +kernel
theorem dX8_want_17 : decode cX8_want 17 = .ok (.i2l, 1) := by decide +kernel
theorem dX8_want_18 : decode cX8_want 18 = .ok (.invokestatic 289, 3) := by decide +kernel
theorem dX8_want_21 : decode cX8_want 21 = .ok (.ifCond .eq 12, 3) := by decide +kernel
theorem dX8_want_24 : decode cX8_want 24 = .ok (.aload_n 0, 1) := by decide +kernel
theorem dX8_want_25 : decode cX8_want 25 = .ok (.iload_n 1, 1) := by decide +kernel
theorem dX8_want_26 : decode cX8_want 26 = .ok (.invokevirtual 398, 3) := by decide +kernel
theorem dX8_want_29 : decode cX8_want 29 = .ok (.iload_n 2, 1) := by decide +kernel
theorem dX8_want_30 : decode cX8_want 30 = .ok (.if_icmp .ne 15, 3) := by decide +kernel
theorem dX8_want_33 : decode cX8_want 33 = .ok (.aload_n 0, 1) := by decide +kernel
theorem dX8_want_34 : decode cX8_want 34 = .ok (.getfield 17, 3) := by decide +kernel
theorem dX8_want_37 : decode cX8_want 37 = .ok (.iconst 2, 1) := by decide +kernel
theorem dX8_want_38 : decode cX8_want 38 = .ok (.dup2, 1) := by decide +kernel
theorem dX8_want_39 : decode cX8_want 39 = .ok (.iaload, 1) := by decide +kernel
theorem dX8_want_40 : decode cX8_want 40 = .ok (.iconst 1, 1) := by decide +kernel
theorem dX8_want_41 : decode cX8_want 41 = .ok (.iadd, 1) := by decide +kernel
theorem dX8_want_42 : decode cX8_want 42 = .ok (.iastore, 1) := by decide +kernel
theorem dX8_want_43 : decode cX8_want 43 = .ok (.iconst 0, 1) := by decide +kernel
theorem dX8_want_44 : decode cX8_want 44 = .ok (.ireturn, 1) := by decide +kernel
theorem dX8_want_45 : decode cX8_want 45 = .ok (.aload_n 0, 1) := by decide +kernel
theorem dX8_want_46 : decode cX8_want 46 = .ok (.invokevirtual 566, 3) := by decide +kernel
theorem dX8_want_49 : decode cX8_want 49 = .ok (.aload_n 0, 1) := by decide +kernel
theorem dX8_want_50 : decode cX8_want 50 = .ok (.getfield 133, 3) := by decide +kernel
theorem dX8_want_53 : decode cX8_want 53 = .ok (.iconst 2, 1) := by decide +kernel
theorem dX8_want_54 : decode cX8_want 54 = .ok (.iconst 5, 1) := by decide +kernel
theorem dX8_want_55 : decode cX8_want 55 = .ok (.iload_n 1, 1) := by decide +kernel
theorem dX8_want_56 : decode cX8_want 56 = .ok (.imul, 1) := by decide +kernel
theorem dX8_want_57 : decode cX8_want 57 = .ok (.iadd, 1) := by decide +kernel
theorem dX8_want_58 : decode cX8_want 58 = .ok (.iload_n 2, 1) := by decide +kernel
theorem dX8_want_59 : decode cX8_want 59 = .ok (.iastore, 1) := by decide +kernel
theorem dX8_want_60 : decode cX8_want 60 = .ok (.iconst 1, 1) := by decide +kernel
theorem dX8_want_61 : decode cX8_want 61 = .ok (.ireturn, 1) := by decide +kernel
theorem dX8_mourn_0 : decode cX8_mourn 0 = .ok (.aload_n 0, 1) := by decide +kernel
theorem dX8_mourn_1 : decode cX8_mourn 1 = .ok (.iload_n 1, 1) := by decide +kernel
theorem dX8_mourn_2 : decode cX8_mourn 2 = .ok (.invokevirtual 507, 3) := by decide +kernel
theorem dX8_mourn_5 : decode cX8_mourn 5 = .ok (.ifCond .eq 25, 3) := by decide +kernel
theorem dX8_mourn_8 : decode cX8_mourn 8 = .ok (.iload_n 2, 1) := by decide +kernel
theorem dX8_mourn_9 : decode cX8_mourn 9 = .ok (.i2l, 1) := by decide +kernel
theorem dX8_mourn_10 : decode cX8_mourn 10 = .ok (.lconst 1, 1) := by decide +kernel
theorem dX8_mourn_11 : decode cX8_mourn 11 = .ok (.ldc2_w 431, 3) := by decide +kernel
theorem dX8_mourn_14 : decode cX8_mourn 14 = .ok (.invokestatic 289, 3) := by decide +kernel
theorem dX8_mourn_17 : decode cX8_mourn 17 = .ok (.ifCond .eq 13, 3) := by decide +kernel
theorem dX8_mourn_20 : decode cX8_mourn 20 = .ok (.aload_n 0, 1) := by decide +kernel
theorem dX8_mourn_21 : decode cX8_mourn 21 = .ok (.iload_n 1, 1) := by decide +kernel
theorem dX8_mourn_22 : decode cX8_mourn 22 = .ok (.invokevirtual 425, 3) := by decide +kernel
theorem dX8_mourn_25 : decode cX8_mourn 25 = .ok (.bipush 99, 2) := by decide +kernel
theorem dX8_mourn_27 : decode cX8_mourn 27 = .ok (.if_icmp .ne 9, 3) := by decide +kernel
theorem dX8_mourn_30 : decode cX8_mourn 30 = .ok (.aload_n 0, 1) := by decide +kernel
theorem dX8_mourn_31 : decode cX8_mourn 31 = .ok (.iconst 2, 1) := by decide +kernel
theorem dX8_mourn_32 : decode cX8_mourn 32 = .ok (.invokevirtual 551, 3) := by decide +kernel
theorem dX8_mourn_35 : decode cX8_mourn 35 = .ok (.ireturn, 1) := by decide +kernel
theorem dX8_mourn_36 : decode cX8_mourn 36 = .ok (.aload_n 0, 1) := by decide +kernel
theorem dX8_mourn_37 : decode cX8_mourn 37 = .ok (.invokevirtual 566, 3) := by decide +kernel
theorem dX8_mourn_40 : decode cX8_mourn 40 = .ok (.aload_n 0, 1) := by decide +kernel
theorem dX8_mourn_41 : decode cX8_mourn 41 = .ok (.iload_n 1, 1) := by decide +kernel
theorem dX8_mourn_42 : decode cX8_mourn 42 = .ok (.invokevirtual 425, 3) := by decide +kernel
theorem dX8_mourn_45 : decode cX8_mourn 45 = .ok (.iload_n 2, 1) := by decide +kernel
theorem dX8_mourn_46 : decode cX8_mourn 46 = .ok (.iadd, 1) := by decide +kernel
theorem dX8_mourn_47 : decode cX8_mourn 47 = .ok (.istore_n 3, 1) := by decide +kernel
theorem dX8_mourn_48 : decode cX8_mourn 48 = .ok (.aload_n 0, 1) := by decide +kernel
theorem dX8_mourn_49 : decode cX8_mourn 49 = .ok (.getfield 133, 3) := by decide +kernel
theorem dX8_mourn_52 : decode cX8_mourn 52 = .ok (.iconst 4, 1) := by decide +kernel
theorem dX8_mourn_53 : decode cX8_mourn 53 = .ok (.iconst 5, 1) := by decide +kernel
theorem dX8_mourn_54 : decode cX8_mourn 54 = .ok (.iload_n 1, 1) := by decide +kernel
theorem dX8_mourn_55 : decode cX8_mourn 55 = .ok (.imul, 1) := by decide +kernel
theorem dX8_mourn_56 : decode cX8_mourn 56 = .ok (.iadd, 1) := by decide +kernel
theorem dX8_mourn_57 : decode cX8_mourn 57 = .ok (.iload_n 3, 1) := by decide +kernel
theorem dX8_mourn_58 : decode cX8_mourn 58 = .ok (.bipush 99, 2) := by decide +kernel
theorem dX8_mourn_60 : decode cX8_mourn 60 = .ok (.if_icmp .le 8, 3) := by decide +kernel
theorem dX8_mourn_63 : decode cX8_mourn 63 = .ok (.bipush 99, 2) := by decide +kernel
theorem dX8_mourn_65 : decode cX8_mourn 65 = .ok (.goto 4, 3) := by decide +kernel
theorem dX8_mourn_68 : decode cX8_mourn 68 = .ok (.iload_n 3, 1) := by decide +kernel
theorem dX8_mourn_69 : decode cX8_mourn 69 = .ok (.iastore, 1) := by decide +kernel
theorem dX8_mourn_70 : decode cX8_mourn 70 = .ok (.aload_n 0, 1) := by decide +kernel
theorem dX8_mourn_71 : decode cX8_mourn 71 = .ok (.iload_n 1, 1) := by decide +kernel
theorem dX8_mourn_72 : decode cX8_mourn 72 = .ok (.invokevirtual 425, 3) := by decide +kernel
theorem dX8_mourn_75 : decode cX8_mourn 75 = .ok (.ireturn, 1) := by decide +kernel
theorem dX8_days_0 : decode cX8_days 0 = .ok (.aload_n 0, 1) := by decide +kernel
theorem dX8_days_1 : decode cX8_days 1 = .ok (.iload_n 1, 1) := by decide +kernel
theorem dX8_days_2 : decode cX8_days 2 = .ok (.iconst 1, 1) := by decide +kernel
theorem dX8_days_3 : decode cX8_days 3 = .ok (.bipush 100, 2) := by decide +kernel
theorem dX8_days_5 : decode cX8_days 5 = .ok (.invokevirtual 515, 3) := by decide +kernel
theorem dX8_days_8 : decode cX8_days 8 = .ok (.ifCond .ne 9, 3) := by decide +kernel
theorem dX8_days_11 : decode cX8_days 11 = .ok (.aload_n 0, 1) := by decide +kernel
theorem dX8_days_12 : decode cX8_days 12 = .ok (.iconst 3, 1) := by decide +kernel
theorem dX8_days_13 : decode cX8_days 13 = .ok (.invokevirtual 551, 3) := by decide +kernel
theorem dX8_days_16 : decode cX8_days 16 = .ok (.ireturn, 1) := by decide +kernel
theorem dX8_days_17 : decode cX8_days 17 = .ok (.aload_n 0, 1) := by decide +kernel
theorem dX8_days_18 : decode cX8_days 18 = .ok (.invokevirtual 566, 3) := by decide +kernel
theorem dX8_days_21 : decode cX8_days 21 = .ok (.aload_n 0, 1) := by decide +kernel
theorem dX8_days_22 : decode cX8_days 22 = .ok (.iconst 0, 1) := by decide +kernel
theorem dX8_days_23 : decode cX8_days 23 = .ok (.putfield 470, 3) := by decide +kernel
theorem dX8_days_26 : decode cX8_days 26 = .ok (.aload_n 0, 1) := by decide +kernel
theorem dX8_days_27 : decode cX8_days 27 = .ok (.iload_n 1, 1) := by decide +kernel
theorem dX8_days_28 : decode cX8_days 28 = .ok (.invokevirtual 521, 3) := by decide +kernel
theorem dX8_days_31 : decode cX8_days 31 = .ok (.aload_n 0, 1) := by decide +kernel
theorem dX8_days_32 : decode cX8_days 32 = .ok (.getfield 470, 3) := by decide +kernel
theorem dX8_days_35 : decode cX8_days 35 = .ok (.ireturn, 1) := by decide +kernel
theorem dX8_seed_0 : decode cX8_seed 0 = .ok (.iload_n 1, 1) := by decide +kernel
theorem dX8_seed_1 : decode cX8_seed 1 = .ok (.ifCond .ge 15, 3) := by decide +kernel
theorem dX8_seed_4 : decode cX8_seed 4 = .ok (.aload_n 0, 1) := by decide +kernel
theorem dX8_seed_5 : decode cX8_seed 5 = .ok (.getfield 17, 3) := by decide +kernel
theorem dX8_seed_8 : decode cX8_seed 8 = .ok (.iconst 5, 1) := by decide +kernel
theorem dX8_seed_9 : decode cX8_seed 9 = .ok (.dup2, 1) := by decide +kernel
theorem dX8_seed_10 : decode cX8_seed 10 = .ok (.iaload, 1) := by decide +kernel
theorem dX8_seed_11 : decode cX8_seed 11 = .ok (.iconst 1, 1) := by decide +kernel
theorem dX8_seed_12 : decode cX8_seed 12 = .ok (.iadd, 1) := by decide +kernel
theorem dX8_seed_13 : decode cX8_seed 13 = .ok (.iastore, 1) := by decide +kernel
theorem dX8_seed_14 : decode cX8_seed 14 = .ok (.iconst 0, 1) := by decide +kernel
theorem dX8_seed_15 : decode cX8_seed 15 = .ok (.ireturn, 1) := by decide +kernel
theorem dX8_seed_16 : decode cX8_seed 16 = .ok (.aload_n 0, 1) := by decide +kernel
theorem dX8_seed_17 : decode cX8_seed 17 = .ok (.iload_n 1, 1) := by decide +kernel
theorem dX8_seed_18 : decode cX8_seed 18 = .ok (.i2l, 1) := by decide +kernel
theorem dX8_seed_19 : decode cX8_seed 19 = .ok (.putfield 161, 3) := by decide +kernel
theorem dX8_seed_22 : decode cX8_seed 22 = .ok (.iconst 1, 1) := by decide +kernel
theorem dX8_seed_23 : decode cX8_seed 23 = .ok (.ireturn, 1) := by decide +kernel
theorem dX8_drawOf_0 : decode cX8_drawOf 0 = .ok (.aload_n 0, 1) := by decide +kernel
theorem dX8_drawOf_1 : decode cX8_drawOf 1 = .ok (.ldc2_w 569, 3) := by decide +kernel
theorem dX8_drawOf_4 : decode cX8_drawOf 4 = .ok (.aload_n 0, 1) := by decide +kernel
theorem dX8_drawOf_5 : decode cX8_drawOf 5 = .ok (.getfield 161, 3) := by decide +kernel
theorem dX8_drawOf_8 : decode cX8_drawOf 8 = .ok (.lmul, 1) := by decide +kernel
theorem dX8_drawOf_9 : decode cX8_drawOf 9 = .ok (.ldc2_w 571, 3) := by decide +kernel
theorem dX8_drawOf_12 : decode cX8_drawOf 12 = .ok (.ladd, 1) := by decide +kernel
theorem dX8_drawOf_13 : decode cX8_drawOf 13 = .ok (.ldc2_w 573, 3) := by decide +kernel
theorem dX8_drawOf_16 : decode cX8_drawOf 16 = .ok (.lrem, 1) := by decide +kernel
theorem dX8_drawOf_17 : decode cX8_drawOf 17 = .ok (.putfield 161, 3) := by decide +kernel
theorem dX8_drawOf_20 : decode cX8_drawOf 20 = .ok (.aload_n 0, 1) := by decide +kernel
theorem dX8_drawOf_21 : decode cX8_drawOf 21 = .ok (.getfield 161, 3) := by decide +kernel
theorem dX8_drawOf_24 : decode cX8_drawOf 24 = .ok (.ldc2_w 575, 3) := by decide +kernel
theorem dX8_drawOf_27 : decode cX8_drawOf 27 = .ok (.ldiv, 1) := by decide +kernel
theorem dX8_drawOf_28 : decode cX8_drawOf 28 = .ok (.iload_n 1, 1) := by decide +kernel
theorem dX8_drawOf_29 : decode cX8_drawOf 29 = .ok (.i2l, 1) := by decide +kernel
theorem dX8_drawOf_30 : decode cX8_drawOf 30 = .ok (.lrem, 1) := by decide +kernel
theorem dX8_drawOf_31 : decode cX8_drawOf 31 = .ok (.l2i, 1) := by decide +kernel
theorem dX8_drawOf_32 : decode cX8_drawOf 32 = .ok (.ireturn, 1) := by decide +kernel
theorem dX8_aliveOf_0 : decode cX8_aliveOf 0 = .ok (.iconst 0, 1) := by decide +kernel
theorem dX8_aliveOf_1 : decode cX8_aliveOf 1 = .ok (.istore_n 2, 1) := by decide +kernel
theorem dX8_aliveOf_2 : decode cX8_aliveOf 2 = .ok (.aload_n 0, 1) := by decide +kernel
theorem dX8_aliveOf_3 : decode cX8_aliveOf 3 = .ok (.iload_n 2, 1) := by decide +kernel
theorem dX8_aliveOf_4 : decode cX8_aliveOf 4 = .ok (.invokevirtual 405, 3) := by decide +kernel
theorem dX8_aliveOf_7 : decode cX8_aliveOf 7 = .ok (.ifCond .ne 7, 3) := by decide +kernel
theorem dX8_aliveOf_10 : decode cX8_aliveOf 10 = .ok (.iload_n 1, 1) := by decide +kernel
theorem dX8_aliveOf_11 : decode cX8_aliveOf 11 = .ok (.ifCond .le 20, 3) := by decide +kernel
theorem dX8_aliveOf_14 : decode cX8_aliveOf 14 = .ok (.aload_n 0, 1) := by decide +kernel
theorem dX8_aliveOf_15 : decode cX8_aliveOf 15 = .ok (.iload_n 2, 1) := by decide +kernel
theorem dX8_aliveOf_16 : decode cX8_aliveOf 16 = .ok (.invokevirtual 405, 3) := by decide +kernel
theorem dX8_aliveOf_19 : decode cX8_aliveOf 19 = .ok (.ifCond .ne 6, 3) := by decide +kernel
theorem dX8_aliveOf_22 : decode cX8_aliveOf 22 = .ok (.iinc 1 (-1), 3) := by decide +kernel
theorem dX8_aliveOf_25 : decode cX8_aliveOf 25 = .ok (.iinc 2 1, 3) := by decide +kernel
theorem dX8_aliveOf_28 : decode cX8_aliveOf 28 = .ok (.goto (-26), 3) := by decide +kernel
theorem dX8_aliveOf_31 : decode cX8_aliveOf 31 = .ok (.iload_n 2, 1) := by decide +kernel
theorem dX8_aliveOf_32 : decode cX8_aliveOf 32 = .ok (.ireturn, 1) := by decide +kernel
theorem dX8_chance_0 : decode cX8_chance 0 = .ok (.aload_n 0, 1) := by decide +kernel
theorem dX8_chance_1 : decode cX8_chance 1 = .ok (.iload_n 1, 1) := by decide +kernel
theorem dX8_chance_2 : decode cX8_chance 2 = .ok (.iconst 1, 1) := by decide +kernel
theorem dX8_chance_3 : decode cX8_chance 3 = .ok (.bipush 100, 2) := by decide +kernel
theorem dX8_chance_5 : decode cX8_chance 5 = .ok (.invokevirtual 515, 3) := by decide +kernel
theorem dX8_chance_8 : decode cX8_chance 8 = .ok (.ifCond .ne 9, 3) := by decide +kernel
theorem dX8_chance_11 : decode cX8_chance 11 = .ok (.aload_n 0, 1) := by decide +kernel
theorem dX8_chance_12 : decode cX8_chance 12 = .ok (.iconst 3, 1) := by decide +kernel
theorem dX8_chance_13 : decode cX8_chance 13 = .ok (.invokevirtual 551, 3) := by decide +kernel
theorem dX8_chance_16 : decode cX8_chance 16 = .ok (.ireturn, 1) := by decide +kernel
theorem dX8_chance_17 : decode cX8_chance 17 = .ok (.aload_n 0, 1) := by decide +kernel
theorem dX8_chance_18 : decode cX8_chance 18 = .ok (.invokevirtual 566, 3) := by decide +kernel
theorem dX8_chance_21 : decode cX8_chance 21 = .ok (.iconst 0, 1) := by decide +kernel
theorem dX8_chance_22 : decode cX8_chance 22 = .ok (.istore_n 2, 1) := by decide +kernel
theorem dX8_chance_23 : decode cX8_chance 23 = .ok (.iconst 0, 1) := by decide +kernel
theorem dX8_chance_24 : decode cX8_chance 24 = .ok (.istore_n 3, 1) := by decide +kernel
theorem dX8_chance_25 : decode cX8_chance 25 = .ok (.iload_n 3, 1) := by decide +kernel
theorem dX8_chance_26 : decode cX8_chance 26 = .ok (.iload_n 1, 1) := by decide +kernel
theorem dX8_chance_27 : decode cX8_chance 27 = .ok (.if_icmp .ge 72, 3) := by decide +kernel
theorem dX8_chance_30 : decode cX8_chance 30 = .ok (.aload_n 0, 1) := by decide +kernel
theorem dX8_chance_31 : decode cX8_chance 31 = .ok (.invokevirtual 395, 3) := by decide +kernel
theorem dX8_chance_34 : decode cX8_chance 34 = .ok (.aload_n 0, 1) := by decide +kernel
theorem dX8_chance_35 : decode cX8_chance 35 = .ok (.invokevirtual 491, 3) := by decide +kernel
theorem dX8_chance_38 : decode cX8_chance 38 = .ok (.isub, 1) := by decide +kernel
theorem dX8_chance_39 : decode cX8_chance 39 = .ok (.istore 4, 2) := by decide +kernel
theorem dX8_chance_41 : decode cX8_chance 41 = .ok (.aload_n 0, 1) := by decide +kernel
theorem dX8_chance_42 : decode cX8_chance 42 = .ok (.bipush 100, 2) := by decide +kernel
theorem dX8_chance_44 : decode cX8_chance 44 = .ok (.invokevirtual 577, 3) := by decide +kernel
theorem dX8_chance_47 : decode cX8_chance 47 = .ok (.aload_n 0, 1) := by decide +kernel
theorem dX8_chance_48 : decode cX8_chance 48 = .ok (.getfield 105, 3) := by decide +kernel
theorem dX8_chance_51 : decode cX8_chance 51 = .ok (.iconst 5, 1) := by decide +kernel
theorem dX8_chance_52 : decode cX8_chance 52 = .ok (.iaload, 1) := by decide +kernel
theorem dX8_chance_53 : decode cX8_chance 53 = .ok (.if_icmp .ge 36, 3) := by decide +kernel
theorem dX8_chance_56 : decode cX8_chance 56 = .ok (.iload 4, 2) := by decide +kernel
theorem dX8_chance_58 : decode cX8_chance 58 = .ok (.ifCond .le 31, 3) := by decide +kernel
theorem dX8_chance_61 : decode cX8_chance 61 = .ok (.aload_n 0, 1) := by decide +kernel
theorem dX8_chance_62 : decode cX8_chance 62 = .ok (.getfield 133, 3) := by decide +kernel
theorem dX8_chance_65 : decode cX8_chance 65 = .ok (.iconst 3, 1) := by decide +kernel
theorem dX8_chance_66 : decode cX8_chance 66 = .ok (.iconst 5, 1) := by decide +kernel
theorem dX8_chance_67 : decode cX8_chance 67 = .ok (.aload_n 0, 1) := by decide +kernel
theorem dX8_chance_68 : decode cX8_chance 68 = .ok (.aload_n 0, 1) := by decide +kernel
theorem dX8_chance_69 : decode cX8_chance 69 = .ok (.iload 4, 2) := by decide +kernel
theorem dX8_chance_71 : decode cX8_chance 71 = .ok (.invokevirtual 577, 3) := by decide +kernel
theorem dX8_chance_74 : decode cX8_chance 74 = .ok (.invokevirtual 580, 3) := by decide +kernel
theorem dX8_chance_77 : decode cX8_chance 77 = .ok (.imul, 1) := by decide +kernel
theorem dX8_chance_78 : decode cX8_chance 78 = .ok (.iadd, 1) := by decide +kernel
theorem dX8_chance_79 : decode cX8_chance 79 = .ok (.aload_n 0, 1) := by decide +kernel
theorem dX8_chance_80 : decode cX8_chance 80 = .ok (.getfield 133, 3) := by decide +kernel
theorem dX8_chance_83 : decode cX8_chance 83 = .ok (.iconst 0, 1) := by decide +kernel
theorem dX8_chance_84 : decode cX8_chance 84 = .ok (.iaload, 1) := by decide +kernel
theorem dX8_chance_85 : decode cX8_chance 85 = .ok (.iastore, 1) := by decide +kernel
theorem dX8_chance_86 : decode cX8_chance 86 = .ok (.iinc 2 1, 3) := by decide +kernel
theorem dX8_chance_89 : decode cX8_chance 89 = .ok (.aload_n 0, 1) := by decide +kernel
theorem dX8_chance_90 : decode cX8_chance 90 = .ok (.invokevirtual 485, 3) := by decide +kernel
theorem dX8_chance_93 : decode cX8_chance 93 = .ok (.iinc 3 1, 3) := by decide +kernel
theorem dX8_chance_96 : decode cX8_chance 96 = .ok (.goto (-71), 3) := by decide +kernel
theorem dX8_chance_99 : decode cX8_chance 99 = .ok (.iload_n 2, 1) := by decide +kernel
theorem dX8_chance_100 : decode cX8_chance 100 = .ok (.ireturn, 1) := by decide +kernel
theorem dX8_qCode_0 : decode cX8_qCode 0 = .ok (.aload_n 0, 1) := by decide +kernel
theorem dX8_qCode_1 : decode cX8_qCode 1 = .ok (.getfield 234, 3) := by decide +kernel
theorem dX8_qCode_4 : decode cX8_qCode 4 = .ok (.aload_n 0, 1) := by decide +kernel
theorem dX8_qCode_5 : decode cX8_qCode 5 = .ok (.getfield 337, 3) := by decide +kernel
theorem dX8_qCode_8 : decode cX8_qCode 8 = .ok (.iload_n 1, 1) := by decide +kernel
theorem dX8_qCode_9 : decode cX8_qCode 9 = .ok (.iastore, 1) := by decide +kernel
theorem dX8_qCode_10 : decode cX8_qCode 10 = .ok (.aload_n 0, 1) := by decide +kernel
theorem dX8_qCode_11 : decode cX8_qCode 11 = .ok (.dup, 1) := by decide +kernel
theorem dX8_qCode_12 : decode cX8_qCode 12 = .ok (.getfield 337, 3) := by decide +kernel
theorem dX8_qCode_15 : decode cX8_qCode 15 = .ok (.iconst 1, 1) := by decide +kernel
theorem dX8_qCode_16 : decode cX8_qCode 16 = .ok (.iadd, 1) := by decide +kernel
theorem dX8_qCode_17 : decode cX8_qCode 17 = .ok (.putfield 337, 3) := by decide +kernel
theorem dX8_qCode_20 : decode cX8_qCode 20 = .ok (.return_, 1) := by decide +kernel
theorem dX8_qOpens_0 : decode cX8_qOpens 0 = .ok (.aload_n 0, 1) := by decide +kernel
theorem dX8_qOpens_1 : decode cX8_qOpens 1 = .ok (.getfield 249, 3) := by decide +kernel
theorem dX8_qOpens_4 : decode cX8_qOpens 4 = .ok (.ifCond .eq 4, 3) := by decide +kernel
theorem dX8_qOpens_7 : decode cX8_qOpens 7 = .ok (.return_, 1) := by decide +kernel
theorem dX8_qOpens_8 : decode cX8_qOpens 8 = .ok (.aload_n 0, 1) := by decide +kernel
theorem dX8_qOpens_9 : decode cX8_qOpens 9 = .ok (.getfield 343, 3) := by decide +kernel
theorem dX8_qOpens_12 : decode cX8_qOpens 12 = .ok (.bipush 6, 2) := by decide +kernel
theorem dX8_qOpens_14 : decode cX8_qOpens 14 = .ok (.if_icmp .ne 10, 3) := by decide +kernel
theorem dX8_qOpens_17 : decode cX8_qOpens 17 = .ok (.aload_n 0, 1) := by decide +kernel
theorem dX8_qOpens_18 : decode cX8_qOpens 18 = .ok (.iconst 4, 1) := by decide +kernel
theorem dX8_qOpens_19 : decode cX8_qOpens 19 = .ok (.iload_n 2, 1) := by decide +kernel
theorem dX8_qOpens_20 : decode cX8_qOpens 20 = .ok (.invokevirtual 279, 3) := by decide +kernel
theorem dX8_qOpens_23 : decode cX8_qOpens 23 = .ok (.return_, 1) := by decide +kernel
theorem dX8_qOpens_24 : decode cX8_qOpens 24 = .ok (.aload_n 0, 1) := by decide +kernel
theorem dX8_qOpens_25 : decode cX8_qOpens 25 = .ok (.dup, 1) := by decide +kernel
theorem dX8_qOpens_26 : decode cX8_qOpens 26 = .ok (.getfield 343, 3) := by decide +kernel
theorem dX8_qOpens_29 : decode cX8_qOpens 29 = .ok (.iconst 1, 1) := by decide +kernel
theorem dX8_qOpens_30 : decode cX8_qOpens 30 = .ok (.iadd, 1) := by decide +kernel
theorem dX8_qOpens_31 : decode cX8_qOpens 31 = .ok (.putfield 343, 3) := by decide +kernel
theorem dX8_qOpens_34 : decode cX8_qOpens 34 = .ok (.aload_n 0, 1) := by decide +kernel
theorem dX8_qOpens_35 : decode cX8_qOpens 35 = .ok (.getfield 237, 3) := by decide +kernel
theorem dX8_qOpens_38 : decode cX8_qOpens 38 = .ok (.aload_n 0, 1) := by decide +kernel
theorem dX8_qOpens_39 : decode cX8_qOpens 39 = .ok (.getfield 340, 3) := by decide +kernel
theorem dX8_qOpens_42 : decode cX8_qOpens 42 = .ok (.iload_n 1, 1) := by decide +kernel
theorem dX8_qOpens_43 : decode cX8_qOpens 43 = .ok (.iastore, 1) := by decide +kernel
theorem dX8_qOpens_44 : decode cX8_qOpens 44 = .ok (.aload_n 0, 1) := by decide +kernel
theorem dX8_qOpens_45 : decode cX8_qOpens 45 = .ok (.dup, 1) := by decide +kernel
theorem dX8_qOpens_46 : decode cX8_qOpens 46 = .ok (.getfield 340, 3) := by decide +kernel
theorem dX8_qOpens_49 : decode cX8_qOpens 49 = .ok (.iconst 1, 1) := by decide +kernel
theorem dX8_qOpens_50 : decode cX8_qOpens 50 = .ok (.iadd, 1) := by decide +kernel
theorem dX8_qOpens_51 : decode cX8_qOpens 51 = .ok (.putfield 340, 3) := by decide +kernel
theorem dX8_qOpens_54 : decode cX8_qOpens 54 = .ok (.return_, 1) := by decide +kernel
theorem dX8_qIsOn_0 : decode cX8_qIsOn 0 = .ok (.aload_n 0, 1) := by decide +kernel
theorem dX8_qIsOn_1 : decode cX8_qIsOn 1 = .ok (.getfield 340, 3) := by decide +kernel
theorem dX8_qIsOn_4 : decode cX8_qIsOn 4 = .ok (.ifCond .le 22, 3) := by decide +kernel
theorem dX8_qIsOn_7 : decode cX8_qIsOn 7 = .ok (.aload_n 0, 1) := by decide +kernel
theorem dX8_qIsOn_8 : decode cX8_qIsOn 8 = .ok (.getfield 237, 3) := by decide +kernel
theorem dX8_qIsOn_11 : decode cX8_qIsOn 11 = .ok (.aload_n 0, 1) := by decide +kernel
theorem dX8_qIsOn_12 : decode cX8_qIsOn 12 = .ok (.getfield 340, 3) := by decide +kernel
theorem dX8_qIsOn_15 : decode cX8_qIsOn 15 = .ok (.iconst 1, 1) := by decide +kernel
theorem dX8_qIsOn_16 : decode cX8_qIsOn 16 = .ok (.isub, 1) := by decide +kernel
theorem dX8_qIsOn_17 : decode cX8_qIsOn 17 = .ok (.iaload, 1) := by decide +kernel
theorem dX8_qIsOn_18 : decode cX8_qIsOn 18 = .ok (.iload_n 1, 1) := by decide +kernel
theorem dX8_qIsOn_19 : decode cX8_qIsOn 19 = .ok (.if_icmp .ne 7, 3) := by decide +kernel
theorem dX8_qIsOn_22 : decode cX8_qIsOn 22 = .ok (.iconst 1, 1) := by decide +kernel
theorem dX8_qIsOn_23 : decode cX8_qIsOn 23 = .ok (.goto 4, 3) := by decide +kernel
theorem dX8_qIsOn_26 : decode cX8_qIsOn 26 = .ok (.iconst 0, 1) := by decide +kernel
theorem dX8_qIsOn_27 : decode cX8_qIsOn 27 = .ok (.ireturn, 1) := by decide +kernel
theorem dX8_qDrops_0 : decode cX8_qDrops 0 = .ok (.aload_n 0, 1) := by decide +kernel
theorem dX8_qDrops_1 : decode cX8_qDrops 1 = .ok (.dup, 1) := by decide +kernel
theorem dX8_qDrops_2 : decode cX8_qDrops 2 = .ok (.getfield 340, 3) := by decide +kernel
theorem dX8_qDrops_5 : decode cX8_qDrops 5 = .ok (.iconst 1, 1) := by decide +kernel
theorem dX8_qDrops_6 : decode cX8_qDrops 6 = .ok (.isub, 1) := by decide +kernel
theorem dX8_qDrops_7 : decode cX8_qDrops 7 = .ok (.putfield 340, 3) := by decide +kernel
theorem dX8_qDrops_10 : decode cX8_qDrops 10 = .ok (.aload_n 0, 1) := by decide +kernel
theorem dX8_qDrops_11 : decode cX8_qDrops 11 = .ok (.aload_n 0, 1) := by decide +kernel
theorem dX8_qDrops_12 : decode cX8_qDrops 12 = .ok (.getfield 237, 3) := by decide +kernel
theorem dX8_qDrops_15 : decode cX8_qDrops 15 = .ok (.aload_n 0, 1) := by decide +kernel
theorem dX8_qDrops_16 : decode cX8_qDrops 16 = .ok (.getfield 340, 3) := by decide +kernel
theorem dX8_qDrops_19 : decode cX8_qDrops 19 = .ok (.iaload, 1) := by decide +kernel
theorem dX8_qDrops_20 : decode cX8_qDrops 20 = .ok (.invokevirtual 583, 3) := by decide +kernel
theorem dX8_qDrops_23 : decode cX8_qDrops 23 = .ok (.return_, 1) := by decide +kernel
theorem dX8_qIsBracket_0 : decode cX8_qIsBracket 0 = .ok (.iload_n 0, 1) := by decide +kernel
theorem dX8_qIsBracket_1 : decode cX8_qIsBracket 1 = .ok (.bipush 20, 2) := by decide +kernel
theorem dX8_qIsBracket_3 : decode cX8_qIsBracket 3 = .ok (.if_icmp .lt 13, 3) := by decide +kernel
theorem dX8_qIsBracket_6 : decode cX8_qIsBracket 6 = .ok (.iload_n 0, 1) := by decide +kernel
theorem dX8_qIsBracket_7 : decode cX8_qIsBracket 7 = .ok (.bipush 24, 2) := by decide +kernel
theorem dX8_qIsBracket_9 : decode cX8_qIsBracket 9 = .ok (.if_icmp .gt 7, 3) := by decide +kernel
theorem dX8_qIsBracket_12 : decode cX8_qIsBracket 12 = .ok (.iconst 1, 1) := by decide +kernel
theorem dX8_qIsBracket_13 : decode cX8_qIsBracket 13 = .ok (.goto 4, 3) := by decide +kernel
theorem dX8_qIsBracket_16 : decode cX8_qIsBracket 16 = .ok (.iconst 0, 1) := by decide +kernel
theorem dX8_qIsBracket_17 : decode cX8_qIsBracket 17 = .ok (.ireturn, 1) := by decide +kernel
theorem dX8_qBracket_0 : decode cX8_qBracket 0 = .ok (.aload_n 0, 1) := by decide +kernel
theorem dX8_qBracket_1 : decode cX8_qBracket 1 = .ok (.getfield 340, 3) := by decide +kernel
theorem dX8_qBracket_4 : decode cX8_qBracket 4 = .ok (.iconst 1, 1) := by decide +kernel
theorem dX8_qBracket_5 : decode cX8_qBracket 5 = .ok (.isub, 1) := by decide +kernel
theorem dX8_qBracket_6 : decode cX8_qBracket 6 = .ok (.istore_n 1, 1) := by decide +kernel
theorem dX8_qBracket_7 : decode cX8_qBracket 7 = .ok (.iload_n 1, 1) := by decide +kernel
theorem dX8_qBracket_8 : decode cX8_qBracket 8 = .ok (.aload_n 0, 1) := by decide +kernel
theorem dX8_qBracket_9 : decode cX8_qBracket 9 = .ok (.getfield 346, 3) := by decide +kernel
theorem dX8_qBracket_12 : decode cX8_qBracket 12 = .ok (.if_icmp .lt 21, 3) := by decide +kernel
theorem dX8_qBracket_15 : decode cX8_qBracket 15 = .ok (.aload_n 0, 1) := by decide +kernel
theorem dX8_qBracket_16 : decode cX8_qBracket 16 = .ok (.getfield 237, 3) := by decide +kernel
theorem dX8_qBracket_19 : decode cX8_qBracket 19 = .ok (.iload_n 1, 1) := by decide +kernel
theorem dX8_qBracket_20 : decode cX8_qBracket 20 = .ok (.iaload, 1) := by decide +kernel
theorem dX8_qBracket_21 : decode cX8_qBracket 21 = .ok (.invokestatic 586, 3) := by decide +kernel
theorem dX8_qBracket_24 : decode cX8_qBracket 24 = .ok (.ifCond .ne 9, 3) := by decide +kernel
theorem dX8_qBracket_27 : decode cX8_qBracket 27 = .ok (.iinc 1 (-1), 3) := by decide +kernel
theorem dX8_qBracket_30 : decode cX8_qBracket 30 = .ok (.goto (-23), 3) := by decide +kernel
theorem dX8_qBracket_33 : decode cX8_qBracket 33 = .ok (.iload_n 1, 1) := by decide +kernel
theorem dX8_qBracket_34 : decode cX8_qBracket 34 = .ok (.aload_n 0, 1) := by decide +kernel
theorem dX8_qBracket_35 : decode cX8_qBracket 35 = .ok (.getfield 346, 3) := by decide +kernel
theorem dX8_qBracket_38 : decode cX8_qBracket 38 = .ok (.if_icmp .lt 12, 3) := by decide +kernel
theorem dX8_qBracket_41 : decode cX8_qBracket 41 = .ok (.aload_n 0, 1) := by decide +kernel
theorem dX8_qBracket_42 : decode cX8_qBracket 42 = .ok (.getfield 237, 3) := by decide +kernel
theorem dX8_qBracket_45 : decode cX8_qBracket 45 = .ok (.iload_n 1, 1) := by decide +kernel
theorem dX8_qBracket_46 : decode cX8_qBracket 46 = .ok (.iaload, 1) := by decide +kernel
theorem dX8_qBracket_47 : decode cX8_qBracket 47 = .ok (.goto 4, 3) := by decide +kernel
theorem dX8_qBracket_50 : decode cX8_qBracket 50 = .ok (.iconst (-1), 1) := by decide +kernel
theorem dX8_qBracket_51 : decode cX8_qBracket 51 = .ok (.ireturn, 1) := by decide +kernel
theorem dX8_qDropsToBracket_0 : decode cX8_qDropsToBracket 0 = .ok (.aload_n 0, 1) := by decide +kernel
theorem dX8_qDropsToBracket_1 : decode cX8_qDropsToBracket 1 = .ok (.getfield 340, 3) := by decide +kernel
theorem dX8_qDropsToBracket_4 : decode cX8_qDropsToBracket 4 = .ok (.aload_n 0, 1) := by decide +kernel
theorem dX8_qDropsToBracket_5 : decode cX8_qDropsToBracket 5 = .ok (.getfield 346, 3) := by decide +kernel
theorem dX8_qDropsToBracket_8 : decode cX8_qDropsToBracket 8 = .ok (.if_icmp .le 27, 3) := by decide +kernel
theorem dX8_qDropsToBracket_11 : decode cX8_qDropsToBracket 11 = .ok (.aload_n 0, 1) := by decide +kernel
theorem dX8_qDropsToBracket_12 : decode cX8_qDropsToBracket 12 = .ok (.getfield 237, 3) := by decide +kernel
theorem dX8_qDropsToBracket_15 : decode cX8_qDropsToBracket 15 = .ok (.aload_n 0, 1) := by decide +kernel
theorem dX8_qDropsToBracket_16 : decode cX8_qDropsToBracket 16 = .ok (.getfield 340, 3) := by decide +kernel
theorem dX8_qDropsToBracket_19 : decode cX8_qDropsToBracket 19 = .ok (.iconst 1, 1) := by decide +kernel
theorem dX8_qDropsToBracket_20 : decode cX8_qDropsToBracket 20 = .ok (.isub, 1) := by decide +kernel
theorem dX8_qDropsToBracket_21 : decode cX8_qDropsToBracket 21 = .ok (.iaload, 1) := by decide +kernel
theorem dX8_qDropsToBracket_22 : decode cX8_qDropsToBracket 22 = .ok (.invokestatic 586, 3) := by decide +kernel
theorem dX8_qDropsToBracket_25 : decode cX8_qDropsToBracket 25 = .ok (.ifCond .ne 10, 3) := by decide +kernel
theorem dX8_qDropsToBracket_28 : decode cX8_qDropsToBracket 28 = .ok (.aload_n 0, 1) := by decide +kernel
theorem dX8_qDropsToBracket_29 : decode cX8_qDropsToBracket 29 = .ok (.invokevirtual 589, 3) := by decide +kernel
theorem dX8_qDropsToBracket_32 : decode cX8_qDropsToBracket 32 = .ok (.goto (-32), 3) := by decide +kernel
theorem dX8_qDropsToBracket_35 : decode cX8_qDropsToBracket 35 = .ok (.return_, 1) := by decide +kernel
theorem dX8_qWordHere_0 : decode cX8_qWordHere 0 = .ok (.aload_n 0, 1) := by decide +kernel
theorem dX8_qWordHere_1 : decode cX8_qWordHere 1 = .ok (.aload_n 0, 1) := by decide +kernel
theorem dX8_qWordHere_2 : decode cX8_qWordHere 2 = .ok (.getfield 201, 3) := by decide +kernel
theorem dX8_qWordHere_5 : decode cX8_qWordHere 5 = .ok (.invokevirtual 272, 3) := by decide +kernel
theorem dX8_qWordHere_8 : decode cX8_qWordHere 8 = .ok (.ifCond .eq 5, 3) := by decide +kernel
theorem dX8_qWordHere_11 : decode cX8_qWordHere 11 = .ok (.iconst 0, 1) := by decide +kernel
theorem dX8_qWordHere_12 : decode cX8_qWordHere 12 = .ok (.ireturn, 1) := by decide +kernel
theorem dX8_qWordHere_13 : decode cX8_qWordHere 13 = .ok (.aload_n 0, 1) := by decide +kernel
theorem dX8_qWordHere_14 : decode cX8_qWordHere 14 = .ok (.aload_n 0, 1) := by decide +kernel
theorem dX8_qWordHere_15 : decode cX8_qWordHere 15 = .ok (.getfield 204, 3) := by decide +kernel
theorem dX8_qWordHere_18 : decode cX8_qWordHere 18 = .ok (.invokevirtual 272, 3) := by decide +kernel
theorem dX8_qWordHere_21 : decode cX8_qWordHere 21 = .ok (.ifCond .eq 5, 3) := by decide +kernel
theorem dX8_qWordHere_24 : decode cX8_qWordHere 24 = .ok (.iconst 1, 1) := by decide +kernel
theorem dX8_qWordHere_25 : decode cX8_qWordHere 25 = .ok (.ireturn, 1) := by decide +kernel
theorem dX8_qWordHere_26 : decode cX8_qWordHere 26 = .ok (.aload_n 0, 1) := by decide +kernel
theorem dX8_qWordHere_27 : decode cX8_qWordHere 27 = .ok (.aload_n 0, 1) := by decide +kernel
theorem dX8_qWordHere_28 : decode cX8_qWordHere 28 = .ok (.getfield 207, 3) := by decide +kernel
theorem dX8_qWordHere_31 : decode cX8_qWordHere 31 = .ok (.invokevirtual 272, 3) := by decide +kernel
theorem dX8_qWordHere_34 : decode cX8_qWordHere 34 = .ok (.ifCond .eq 5, 3) := by decide +kernel
theorem dX8_qWordHere_37 : decode cX8_qWordHere 37 = .ok (.iconst 2, 1) := by decide +kernel
theorem dX8_qWordHere_38 : decode cX8_qWordHere 38 = .ok (.ireturn, 1) := by decide +kernel
theorem dX8_qWordHere_39 : decode cX8_qWordHere 39 = .ok (.aload_n 0, 1) := by decide +kernel
theorem dX8_qWordHere_40 : decode cX8_qWordHere 40 = .ok (.aload_n 0, 1) := by decide +kernel
theorem dX8_qWordHere_41 : decode cX8_qWordHere 41 = .ok (.getfield 210, 3) := by decide +kernel
theorem dX8_qWordHere_44 : decode cX8_qWordHere 44 = .ok (.invokevirtual 272, 3) := by decide +kernel
theorem dX8_qWordHere_47 : decode cX8_qWordHere 47 = .ok (.ifCond .eq 5, 3) := by decide +kernel
theorem dX8_qWordHere_50 : decode cX8_qWordHere 50 = .ok (.iconst 3, 1) := by decide +kernel
theorem dX8_qWordHere_51 : decode cX8_qWordHere 51 = .ok (.ireturn, 1) := by decide +kernel
theorem dX8_qWordHere_52 : decode cX8_qWordHere 52 = .ok (.aload_n 0, 1) := by decide +kernel
theorem dX8_qWordHere_53 : decode cX8_qWordHere 53 = .ok (.aload_n 0, 1) := by decide +kernel
theorem dX8_qWordHere_54 : decode cX8_qWordHere 54 = .ok (.getfield 213, 3) := by decide +kernel
theorem dX8_qWordHere_57 : decode cX8_qWordHere 57 = .ok (.invokevirtual 272, 3) := by decide +kernel
theorem dX8_qWordHere_60 : decode cX8_qWordHere 60 = .ok (.ifCond .eq 5, 3) := by decide +kernel
theorem dX8_qWordHere_63 : decode cX8_qWordHere 63 = .ok (.iconst 4, 1) := by decide +kernel
theorem dX8_qWordHere_64 : decode cX8_qWordHere 64 = .ok (.ireturn, 1) := by decide +kernel
theorem dX8_qWordHere_65 : decode cX8_qWordHere 65 = .ok (.aload_n 0, 1) := by decide +kernel
theorem dX8_qWordHere_66 : decode cX8_qWordHere 66 = .ok (.aload_n 0, 1) := by decide +kernel
theorem dX8_qWordHere_67 : decode cX8_qWordHere 67 = .ok (.getfield 216, 3) := by decide +kernel
theorem dX8_qWordHere_70 : decode cX8_qWordHere 70 = .ok (.invokevirtual 272, 3) := by decide +kernel
theorem dX8_qWordHere_73 : decode cX8_qWordHere 73 = .ok (.ifCond .eq 5, 3) := by decide +kernel
theorem dX8_qWordHere_76 : decode cX8_qWordHere 76 = .ok (.iconst 5, 1) := by decide +kernel
theorem dX8_qWordHere_77 : decode cX8_qWordHere 77 = .ok (.ireturn, 1) := by decide +kernel
theorem dX8_qWordHere_78 : decode cX8_qWordHere 78 = .ok (.aload_n 0, 1) := by decide +kernel
theorem dX8_qWordHere_79 : decode cX8_qWordHere 79 = .ok (.aload_n 0, 1) := by decide +kernel
theorem dX8_qWordHere_80 : decode cX8_qWordHere 80 = .ok (.getfield 219, 3) := by decide +kernel
theorem dX8_qWordHere_83 : decode cX8_qWordHere 83 = .ok (.invokevirtual 272, 3) := by decide +kernel
theorem dX8_qWordHere_86 : decode cX8_qWordHere 86 = .ok (.ifCond .eq 6, 3) := by decide +kernel
theorem dX8_qWordHere_89 : decode cX8_qWordHere 89 = .ok (.bipush 6, 2) := by decide +kernel
theorem dX8_qWordHere_91 : decode cX8_qWordHere 91 = .ok (.ireturn, 1) := by decide +kernel
theorem dX8_qWordHere_92 : decode cX8_qWordHere 92 = .ok (.aload_n 0, 1) := by decide +kernel
theorem dX8_qWordHere_93 : decode cX8_qWordHere 93 = .ok (.aload_n 0, 1) := by decide +kernel
theorem dX8_qWordHere_94 : decode cX8_qWordHere 94 = .ok (.getfield 222, 3) := by decide +kernel
theorem dX8_qWordHere_97 : decode cX8_qWordHere 97 = .ok (.invokevirtual 272, 3) := by decide +kernel
theorem dX8_qWordHere_100 : decode cX8_qWordHere 100 = .ok (.ifCond .eq 6, 3) := by decide +kernel
theorem dX8_qWordHere_103 : decode cX8_qWordHere 103 = .ok (.bipush 7, 2) := by decide +kernel
theorem dX8_qWordHere_105 : decode cX8_qWordHere 105 = .ok (.ireturn, 1) := by decide +kernel
theorem dX8_qWordHere_106 : decode cX8_qWordHere 106 = .ok (.aload_n 0, 1) := by decide +kernel
theorem dX8_qWordHere_107 : decode cX8_qWordHere 107 = .ok (.aload_n 0, 1) := by decide +kernel
theorem dX8_qWordHere_108 : decode cX8_qWordHere 108 = .ok (.getfield 225, 3) := by decide +kernel
theorem dX8_qWordHere_111 : decode cX8_qWordHere 111 = .ok (.invokevirtual 272, 3) := by decide +kernel
theorem dX8_qWordHere_114 : decode cX8_qWordHere 114 = .ok (.ifCond .eq 6, 3) := by decide +kernel
theorem dX8_qWordHere_117 : decode cX8_qWordHere 117 = .ok (.bipush 8, 2) := by decide +kernel
theorem dX8_qWordHere_119 : decode cX8_qWordHere 119 = .ok (.ireturn, 1) := by decide +kernel
theorem dX8_qWordHere_120 : decode cX8_qWordHere 120 = .ok (.aload_n 0, 1) := by decide +kernel
theorem dX8_qWordHere_121 : decode cX8_qWordHere 121 = .ok (.aload_n 0, 1) := by decide +kernel
theorem dX8_qWordHere_122 : decode cX8_qWordHere 122 = .ok (.getfield 228, 3) := by decide +kernel
theorem dX8_qWordHere_125 : decode cX8_qWordHere 125 = .ok (.invokevirtual 272, 3) := by decide +kernel
theorem dX8_qWordHere_128 : decode cX8_qWordHere 128 = .ok (.ifCond .eq 6, 3) := by decide +kernel
theorem dX8_qWordHere_131 : decode cX8_qWordHere 131 = .ok (.bipush 9, 2) := by decide +kernel
theorem dX8_qWordHere_133 : decode cX8_qWordHere 133 = .ok (.ireturn, 1) := by decide +kernel
theorem dX8_qWordHere_134 : decode cX8_qWordHere 134 = .ok (.aload_n 0, 1) := by decide +kernel
theorem dX8_qWordHere_135 : decode cX8_qWordHere 135 = .ok (.aload_n 0, 1) := by decide +kernel
theorem dX8_qWordHere_136 : decode cX8_qWordHere 136 = .ok (.getfield 231, 3) := by decide +kernel
theorem dX8_qWordHere_139 : decode cX8_qWordHere 139 = .ok (.invokevirtual 272, 3) := by decide +kernel
theorem dX8_qWordHere_142 : decode cX8_qWordHere 142 = .ok (.ifCond .eq 6, 3) := by decide +kernel
theorem dX8_qWordHere_145 : decode cX8_qWordHere 145 = .ok (.bipush 10, 2) := by decide +kernel
theorem dX8_qWordHere_147 : decode cX8_qWordHere 147 = .ok (.ireturn, 1) := by decide +kernel
theorem dX8_qWordHere_148 : decode cX8_qWordHere 148 = .ok (.iconst (-1), 1) := by decide +kernel
theorem dX8_qWordHere_149 : decode cX8_qWordHere 149 = .ok (.ireturn, 1) := by decide +kernel
theorem dX8_qWordOf_0 : decode cX8_qWordOf 0 = .ok (.aload_n 0, 1) := by decide +kernel
theorem dX8_qWordOf_1 : decode cX8_qWordOf 1 = .ok (.invokevirtual 592, 3) := by decide +kernel
theorem dX8_qWordOf_4 : decode cX8_qWordOf 4 = .ok (.istore_n 3, 1) := by decide +kernel
theorem dX8_qWordOf_5 : decode cX8_qWordOf 5 = .ok (.iload_n 3, 1) := by decide +kernel
theorem dX8_qWordOf_6 : decode cX8_qWordOf 6 = .ok (.iload_n 1, 1) := by decide +kernel
theorem dX8_qWordOf_7 : decode cX8_qWordOf 7 = .ok (.if_icmp .lt 20, 3) := by decide +kernel
theorem dX8_qWordOf_10 : decode cX8_qWordOf 10 = .ok (.iload_n 3, 1) := by decide +kernel
theorem dX8_qWordOf_11 : decode cX8_qWordOf 11 = .ok (.iload_n 2, 1) := by decide +kernel
theorem dX8_qWordOf_12 : decode cX8_qWordOf 12 = .ok (.if_icmp .ge 15, 3) := by decide +kernel
theorem dX8_qWordOf_15 : decode cX8_qWordOf 15 = .ok (.aload_n 0, 1) := by decide +kernel
theorem dX8_qWordOf_16 : decode cX8_qWordOf 16 = .ok (.iload_n 3, 1) := by decide +kernel
theorem dX8_qWordOf_17 : decode cX8_qWordOf 17 = .ok (.invokevirtual 595, 3) := by decide +kernel
theorem dX8_qWordOf_20 : decode cX8_qWordOf 20 = .ok (.ifCond .eq 7, 3) := by decide +kernel
theorem dX8_qWordOf_23 : decode cX8_qWordOf 23 = .ok (.iload_n 3, 1) := by decide +kernel
theorem dX8_qWordOf_24 : decode cX8_qWordOf 24 = .ok (.goto 4, 3) := by decide +kernel
theorem dX8_qWordOf_27 : decode cX8_qWordOf 27 = .ok (.iconst (-1), 1) := by decide +kernel
theorem dX8_qWordOf_28 : decode cX8_qWordOf 28 = .ok (.ireturn, 1) := by decide +kernel
theorem dX8_qAsksWord_0 : decode cX8_qAsksWord 0 = .ok (.iload_n 1, 1) := by decide +kernel
theorem dX8_qAsksWord_1 : decode cX8_qAsksWord 1 = .ok (.tableswitch 165 0 9 #[55, 66, 77, 88, 99, 110, 121, 132, 143, 154], 55) := by decide +kernel
theorem dX8_qAsksWord_56 : decode cX8_qAsksWord 56 = .ok (.aload_n 0, 1) := by decide +kernel
theorem dX8_qAsksWord_57 : decode cX8_qAsksWord 57 = .ok (.aload_n 0, 1) := by decide +kernel
theorem dX8_qAsksWord_58 : decode cX8_qAsksWord 58 = .ok (.getfield 201, 3) := by decide +kernel
theorem dX8_qAsksWord_61 : decode cX8_qAsksWord 61 = .ok (.invokevirtual 311, 3) := by decide +kernel
theorem dX8_qAsksWord_64 : decode cX8_qAsksWord 64 = .ok (.goto 110, 3) := by decide +kernel
theorem dX8_qAsksWord_67 : decode cX8_qAsksWord 67 = .ok (.aload_n 0, 1) := by decide +kernel
theorem dX8_qAsksWord_68 : decode cX8_qAsksWord 68 = .ok (.aload_n 0, 1) := by decide +kernel
theorem dX8_qAsksWord_69 : decode cX8_qAsksWord 69 = .ok (.getfield 204, 3) := by decide +kernel
theorem dX8_qAsksWord_72 : decode cX8_qAsksWord 72 = .ok (.invokevirtual 311, 3) := by decide +kernel
theorem dX8_qAsksWord_75 : decode cX8_qAsksWord 75 = .ok (.goto 99, 3) := by decide +kernel
theorem dX8_qAsksWord_78 : decode cX8_qAsksWord 78 = .ok (.aload_n 0, 1) := by decide +kernel
theorem dX8_qAsksWord_79 : decode cX8_qAsksWord 79 = .ok (.aload_n 0, 1) := by decide +kernel
theorem dX8_qAsksWord_80 : decode cX8_qAsksWord 80 = .ok (.getfield 207, 3) := by decide +kernel
theorem dX8_qAsksWord_83 : decode cX8_qAsksWord 83 = .ok (.invokevirtual 311, 3) := by decide +kernel
theorem dX8_qAsksWord_86 : decode cX8_qAsksWord 86 = .ok (.goto 88, 3) := by decide +kernel
theorem dX8_qAsksWord_89 : decode cX8_qAsksWord 89 = .ok (.aload_n 0, 1) := by decide +kernel
theorem dX8_qAsksWord_90 : decode cX8_qAsksWord 90 = .ok (.aload_n 0, 1) := by decide +kernel
theorem dX8_qAsksWord_91 : decode cX8_qAsksWord 91 = .ok (.getfield 210, 3) := by decide +kernel
theorem dX8_qAsksWord_94 : decode cX8_qAsksWord 94 = .ok (.invokevirtual 311, 3) := by decide +kernel
theorem dX8_qAsksWord_97 : decode cX8_qAsksWord 97 = .ok (.goto 77, 3) := by decide +kernel
theorem dX8_qAsksWord_100 : decode cX8_qAsksWord 100 = .ok (.aload_n 0, 1) := by decide +kernel
theorem dX8_qAsksWord_101 : decode cX8_qAsksWord 101 = .ok (.aload_n 0, 1) := by decide +kernel
theorem dX8_qAsksWord_102 : decode cX8_qAsksWord 102 = .ok (.getfield 213, 3) := by decide +kernel
theorem dX8_qAsksWord_105 : decode cX8_qAsksWord 105 = .ok (.invokevirtual 311, 3) := by decide +kernel
theorem dX8_qAsksWord_108 : decode cX8_qAsksWord 108 = .ok (.goto 66, 3) := by decide +kernel
theorem dX8_qAsksWord_111 : decode cX8_qAsksWord 111 = .ok (.aload_n 0, 1) := by decide +kernel
theorem dX8_qAsksWord_112 : decode cX8_qAsksWord 112 = .ok (.aload_n 0, 1) := by decide +kernel
theorem dX8_qAsksWord_113 : decode cX8_qAsksWord 113 = .ok (.getfield 216, 3) := by decide +kernel
theorem dX8_qAsksWord_116 : decode cX8_qAsksWord 116 = .ok (.invokevirtual 311, 3) := by decide +kernel
theorem dX8_qAsksWord_119 : decode cX8_qAsksWord 119 = .ok (.goto 55, 3) := by decide +kernel
theorem dX8_qAsksWord_122 : decode cX8_qAsksWord 122 = .ok (.aload_n 0, 1) := by decide +kernel
theorem dX8_qAsksWord_123 : decode cX8_qAsksWord 123 = .ok (.aload_n 0, 1) := by decide +kernel
theorem dX8_qAsksWord_124 : decode cX8_qAsksWord 124 = .ok (.getfield 219, 3) := by decide +kernel
theorem dX8_qAsksWord_127 : decode cX8_qAsksWord 127 = .ok (.invokevirtual 311, 3) := by decide +kernel
theorem dX8_qAsksWord_130 : decode cX8_qAsksWord 130 = .ok (.goto 44, 3) := by decide +kernel
theorem dX8_qAsksWord_133 : decode cX8_qAsksWord 133 = .ok (.aload_n 0, 1) := by decide +kernel
theorem dX8_qAsksWord_134 : decode cX8_qAsksWord 134 = .ok (.aload_n 0, 1) := by decide +kernel
theorem dX8_qAsksWord_135 : decode cX8_qAsksWord 135 = .ok (.getfield 222, 3) := by decide +kernel
theorem dX8_qAsksWord_138 : decode cX8_qAsksWord 138 = .ok (.invokevirtual 311, 3) := by decide +kernel
theorem dX8_qAsksWord_141 : decode cX8_qAsksWord 141 = .ok (.goto 33, 3) := by decide +kernel
theorem dX8_qAsksWord_144 : decode cX8_qAsksWord 144 = .ok (.aload_n 0, 1) := by decide +kernel
theorem dX8_qAsksWord_145 : decode cX8_qAsksWord 145 = .ok (.aload_n 0, 1) := by decide +kernel
theorem dX8_qAsksWord_146 : decode cX8_qAsksWord 146 = .ok (.getfield 225, 3) := by decide +kernel
theorem dX8_qAsksWord_149 : decode cX8_qAsksWord 149 = .ok (.invokevirtual 311, 3) := by decide +kernel
theorem dX8_qAsksWord_152 : decode cX8_qAsksWord 152 = .ok (.goto 22, 3) := by decide +kernel
theorem dX8_qAsksWord_155 : decode cX8_qAsksWord 155 = .ok (.aload_n 0, 1) := by decide +kernel
theorem dX8_qAsksWord_156 : decode cX8_qAsksWord 156 = .ok (.aload_n 0, 1) := by decide +kernel
theorem dX8_qAsksWord_157 : decode cX8_qAsksWord 157 = .ok (.getfield 228, 3) := by decide +kernel
theorem dX8_qAsksWord_160 : decode cX8_qAsksWord 160 = .ok (.invokevirtual 311, 3) := by decide +kernel
theorem dX8_qAsksWord_163 : decode cX8_qAsksWord 163 = .ok (.goto 11, 3) := by decide +kernel
theorem dX8_qAsksWord_166 : decode cX8_qAsksWord 166 = .ok (.aload_n 0, 1) := by decide +kernel
theorem dX8_qAsksWord_167 : decode cX8_qAsksWord 167 = .ok (.aload_n 0, 1) := by decide +kernel
theorem dX8_qAsksWord_168 : decode cX8_qAsksWord 168 = .ok (.getfield 231, 3) := by decide +kernel
theorem dX8_qAsksWord_171 : decode cX8_qAsksWord 171 = .ok (.invokevirtual 311, 3) := by decide +kernel
theorem dX8_qAsksWord_174 : decode cX8_qAsksWord 174 = .ok (.return_, 1) := by decide +kernel
theorem dX8_qEndsPart_0 : decode cX8_qEndsPart 0 = .ok (.aload_n 0, 1) := by decide +kernel
theorem dX8_qEndsPart_1 : decode cX8_qEndsPart 1 = .ok (.getfield 249, 3) := by decide +kernel
theorem dX8_qEndsPart_4 : decode cX8_qEndsPart 4 = .ok (.ifCond .ne 47, 3) := by decide +kernel
theorem dX8_qEndsPart_7 : decode cX8_qEndsPart 7 = .ok (.aload_n 0, 1) := by decide +kernel
theorem dX8_qEndsPart_8 : decode cX8_qEndsPart 8 = .ok (.getfield 340, 3) := by decide +kernel
theorem dX8_qEndsPart_11 : decode cX8_qEndsPart 11 = .ok (.aload_n 0, 1) := by decide +kernel
theorem dX8_qEndsPart_12 : decode cX8_qEndsPart 12 = .ok (.getfield 346, 3) := by decide +kernel
theorem dX8_qEndsPart_15 : decode cX8_qEndsPart 15 = .ok (.if_icmp .le 36, 3) := by decide +kernel
theorem dX8_qEndsPart_18 : decode cX8_qEndsPart 18 = .ok (.aload_n 0, 1) := by decide +kernel
theorem dX8_qEndsPart_19 : decode cX8_qEndsPart 19 = .ok (.getfield 237, 3) := by decide +kernel
theorem dX8_qEndsPart_22 : decode cX8_qEndsPart 22 = .ok (.aload_n 0, 1) := by decide +kernel
theorem dX8_qEndsPart_23 : decode cX8_qEndsPart 23 = .ok (.getfield 340, 3) := by decide +kernel
theorem dX8_qEndsPart_26 : decode cX8_qEndsPart 26 = .ok (.iconst 1, 1) := by decide +kernel
theorem dX8_qEndsPart_27 : decode cX8_qEndsPart 27 = .ok (.isub, 1) := by decide +kernel
theorem dX8_qEndsPart_28 : decode cX8_qEndsPart 28 = .ok (.iaload, 1) := by decide +kernel
theorem dX8_qEndsPart_29 : decode cX8_qEndsPart 29 = .ok (.bipush 60, 2) := by decide +kernel
theorem dX8_qEndsPart_31 : decode cX8_qEndsPart 31 = .ok (.if_icmp .lt 20, 3) := by decide +kernel
theorem dX8_qEndsPart_34 : decode cX8_qEndsPart 34 = .ok (.aload_n 0, 1) := by decide +kernel
theorem dX8_qEndsPart_35 : decode cX8_qEndsPart 35 = .ok (.dup, 1) := by decide +kernel
theorem dX8_qEndsPart_36 : decode cX8_qEndsPart 36 = .ok (.getfield 343, 3) := by decide +kernel
theorem dX8_qEndsPart_39 : decode cX8_qEndsPart 39 = .ok (.iconst 1, 1) := by decide +kernel
theorem dX8_qEndsPart_40 : decode cX8_qEndsPart 40 = .ok (.isub, 1) := by decide +kernel
theorem dX8_qEndsPart_41 : decode cX8_qEndsPart 41 = .ok (.putfield 343, 3) := by decide +kernel
theorem dX8_qEndsPart_44 : decode cX8_qEndsPart 44 = .ok (.aload_n 0, 1) := by decide +kernel
theorem dX8_qEndsPart_45 : decode cX8_qEndsPart 45 = .ok (.invokevirtual 589, 3) := by decide +kernel
theorem dX8_qEndsPart_48 : decode cX8_qEndsPart 48 = .ok (.goto (-48), 3) := by decide +kernel
theorem dX8_qEndsPart_51 : decode cX8_qEndsPart 51 = .ok (.return_, 1) := by decide +kernel
theorem dX8_qPartTold_0 : decode cX8_qPartTold 0 = .ok (.iconst 1, 1) := by decide +kernel
theorem dX8_qPartTold_1 : decode cX8_qPartTold 1 = .ok (.istore_n 1, 1) := by decide +kernel
theorem dX8_qPartTold_2 : decode cX8_qPartTold 2 = .ok (.iload_n 1, 1) := by decide +kernel
theorem dX8_qPartTold_3 : decode cX8_qPartTold 3 = .ok (.ifCond .eq 183, 3) := by decide +kernel
theorem dX8_qPartTold_6 : decode cX8_qPartTold 6 = .ok (.aload_n 0, 1) := by decide +kernel
theorem dX8_qPartTold_7 : decode cX8_qPartTold 7 = .ok (.getfield 249, 3) := by decide +kernel
theorem dX8_qPartTold_10 : decode cX8_qPartTold 10 = .ok (.ifCond .ne 176, 3) := by decide +kernel
theorem dX8_qPartTold_13 : decode cX8_qPartTold 13 = .ok (.aload_n 0, 1) := by decide +kernel
theorem dX8_qPartTold_14 : decode cX8_qPartTold 14 = .ok (.invokevirtual 261, 3) := by decide +kernel
theorem dX8_qPartTold_17 : decode cX8_qPartTold 17 = .ok (.istore_n 2, 1) := by decide +kernel
theorem dX8_qPartTold_18 : decode cX8_qPartTold 18 = .ok (.aload_n 0, 1) := by decide +kernel
theorem dX8_qPartTold_19 : decode cX8_qPartTold 19 = .ok (.bipush 10, 2) := by decide +kernel
theorem dX8_qPartTold_21 : decode cX8_qPartTold 21 = .ok (.bipush 11, 2) := by decide +kernel
theorem dX8_qPartTold_23 : decode cX8_qPartTold 23 = .ok (.invokevirtual 598, 3) := by decide +kernel
theorem dX8_qPartTold_26 : decode cX8_qPartTold 26 = .ok (.istore_n 3, 1) := by decide +kernel
theorem dX8_qPartTold_27 : decode cX8_qPartTold 27 = .ok (.iload_n 2, 1) := by decide +kernel
theorem dX8_qPartTold_28 : decode cX8_qPartTold 28 = .ok (.bipush 40, 2) := by decide +kernel
theorem dX8_qPartTold_30 : decode cX8_qPartTold 30 = .ok (.if_icmp .ne 26, 3) := by decide +kernel
theorem dX8_qPartTold_33 : decode cX8_qPartTold 33 = .ok (.aload_n 0, 1) := by decide +kernel
theorem dX8_qPartTold_34 : decode cX8_qPartTold 34 = .ok (.bipush 20, 2) := by decide +kernel
theorem dX8_qPartTold_36 : decode cX8_qPartTold 36 = .ok (.aload_n 0, 1) := by decide +kernel
theorem dX8_qPartTold_37 : decode cX8_qPartTold 37 = .ok (.getfield 255, 3) := by decide +kernel
theorem dX8_qPartTold_40 : decode cX8_qPartTold 40 = .ok (.invokevirtual 601, 3) := by decide +kernel
theorem dX8_qPartTold_43 : decode cX8_qPartTold 43 = .ok (.aload_n 0, 1) := by decide +kernel
theorem dX8_qPartTold_44 : decode cX8_qPartTold 44 = .ok (.dup, 1) := by decide +kernel
theorem dX8_qPartTold_45 : decode cX8_qPartTold 45 = .ok (.getfield 255, 3) := by decide +kernel
theorem dX8_qPartTold_48 : decode cX8_qPartTold 48 = .ok (.iconst 1, 1) := by decide +kernel
theorem dX8_qPartTold_49 : decode cX8_qPartTold 49 = .ok (.iadd, 1) := by decide +kernel
theorem dX8_qPartTold_50 : decode cX8_qPartTold 50 = .ok (.putfield 255, 3) := by decide +kernel
theorem dX8_qPartTold_53 : decode cX8_qPartTold 53 = .ok (.goto 130, 3) := by decide +kernel
theorem dX8_qPartTold_56 : decode cX8_qPartTold 56 = .ok (.aload_n 0, 1) := by decide +kernel
theorem dX8_qPartTold_57 : decode cX8_qPartTold 57 = .ok (.aload_n 0, 1) := by decide +kernel
theorem dX8_qPartTold_58 : decode cX8_qPartTold 58 = .ok (.getfield 195, 3) := by decide +kernel
theorem dX8_qPartTold_61 : decode cX8_qPartTold 61 = .ok (.invokevirtual 272, 3) := by decide +kernel
theorem dX8_qPartTold_64 : decode cX8_qPartTold 64 = .ok (.ifCond .ne 14, 3) := by decide +kernel
theorem dX8_qPartTold_67 : decode cX8_qPartTold 67 = .ok (.aload_n 0, 1) := by decide +kernel
theorem dX8_qPartTold_68 : decode cX8_qPartTold 68 = .ok (.aload_n 0, 1) := by decide +kernel
theorem dX8_qPartTold_69 : decode cX8_qPartTold 69 = .ok (.getfield 198, 3) := by decide +kernel
theorem dX8_qPartTold_72 : decode cX8_qPartTold 72 = .ok (.invokevirtual 272, 3) := by decide +kernel
theorem dX8_qPartTold_75 : decode cX8_qPartTold 75 = .ok (.ifCond .eq 78, 3) := by decide +kernel
theorem dX8_qPartTold_78 : decode cX8_qPartTold 78 = .ok (.aload_n 0, 1) := by decide +kernel
theorem dX8_qPartTold_79 : decode cX8_qPartTold 79 = .ok (.aload_n 0, 1) := by decide +kernel
theorem dX8_qPartTold_80 : decode cX8_qPartTold 80 = .ok (.getfield 195, 3) := by decide +kernel
theorem dX8_qPartTold_83 : decode cX8_qPartTold 83 = .ok (.invokevirtual 276, 3) := by decide +kernel
theorem dX8_qPartTold_86 : decode cX8_qPartTold 86 = .ok (.istore 4, 2) := by decide +kernel
theorem dX8_qPartTold_88 : decode cX8_qPartTold 88 = .ok (.iload 4, 2) := by decide +kernel
theorem dX8_qPartTold_90 : decode cX8_qPartTold 90 = .ok (.ifCond .ne 11, 3) := by decide +kernel
theorem dX8_qPartTold_93 : decode cX8_qPartTold 93 = .ok (.aload_n 0, 1) := by decide +kernel
theorem dX8_qPartTold_94 : decode cX8_qPartTold 94 = .ok (.aload_n 0, 1) := by decide +kernel
theorem dX8_qPartTold_95 : decode cX8_qPartTold 95 = .ok (.getfield 198, 3) := by decide +kernel
theorem dX8_qPartTold_98 : decode cX8_qPartTold 98 = .ok (.invokevirtual 311, 3) := by decide +kernel
theorem dX8_qPartTold_101 : decode cX8_qPartTold 101 = .ok (.aload_n 0, 1) := by decide +kernel
theorem dX8_qPartTold_102 : decode cX8_qPartTold 102 = .ok (.invokevirtual 261, 3) := by decide +kernel
theorem dX8_qPartTold_105 : decode cX8_qPartTold 105 = .ok (.bipush 40, 2) := by decide +kernel
theorem dX8_qPartTold_107 : decode cX8_qPartTold 107 = .ok (.if_icmp .ne 10, 3) := by decide +kernel
theorem dX8_qPartTold_110 : decode cX8_qPartTold 110 = .ok (.aload_n 0, 1) := by decide +kernel
theorem dX8_qPartTold_111 : decode cX8_qPartTold 111 = .ok (.getfield 255, 3) := by decide +kernel
theorem dX8_qPartTold_114 : decode cX8_qPartTold 114 = .ok (.goto 4, 3) := by decide +kernel
theorem dX8_qPartTold_117 : decode cX8_qPartTold 117 = .ok (.iconst (-1), 1) := by decide +kernel
theorem dX8_qPartTold_118 : decode cX8_qPartTold 118 = .ok (.istore 5, 2) := by decide +kernel
theorem dX8_qPartTold_120 : decode cX8_qPartTold 120 = .ok (.iload 5, 2) := by decide +kernel
theorem dX8_qPartTold_122 : decode cX8_qPartTold 122 = .ok (.iconst (-1), 1) := by decide +kernel
theorem dX8_qPartTold_123 : decode cX8_qPartTold 123 = .ok (.if_icmp .eq 21, 3) := by decide +kernel
theorem dX8_qPartTold_126 : decode cX8_qPartTold 126 = .ok (.aload_n 0, 1) := by decide +kernel
theorem dX8_qPartTold_127 : decode cX8_qPartTold 127 = .ok (.iload 4, 2) := by decide +kernel
theorem dX8_qPartTold_129 : decode cX8_qPartTold 129 = .ok (.ifCond .eq 8, 3) := by decide +kernel
theorem dX8_qPartTold_132 : decode cX8_qPartTold 132 = .ok (.bipush 21, 2) := by decide +kernel
theorem dX8_qPartTold_134 : decode cX8_qPartTold 134 = .ok (.goto 5, 3) := by decide +kernel
theorem dX8_qPartTold_137 : decode cX8_qPartTold 137 = .ok (.bipush 22, 2) := by decide +kernel
theorem dX8_qPartTold_139 : decode cX8_qPartTold 139 = .ok (.iload 5, 2) := by decide +kernel
theorem dX8_qPartTold_141 : decode cX8_qPartTold 141 = .ok (.invokevirtual 601, 3) := by decide +kernel
theorem dX8_qPartTold_144 : decode cX8_qPartTold 144 = .ok (.aload_n 0, 1) := by decide +kernel
theorem dX8_qPartTold_145 : decode cX8_qPartTold 145 = .ok (.bipush 40, 2) := by decide +kernel
theorem dX8_qPartTold_147 : decode cX8_qPartTold 147 = .ok (.invokevirtual 319, 3) := by decide +kernel
theorem dX8_qPartTold_150 : decode cX8_qPartTold 150 = .ok (.goto 33, 3) := by decide +kernel
theorem dX8_qPartTold_153 : decode cX8_qPartTold 153 = .ok (.iload_n 3, 1) := by decide +kernel
theorem dX8_qPartTold_154 : decode cX8_qPartTold 154 = .ok (.iconst (-1), 1) := by decide +kernel
theorem dX8_qPartTold_155 : decode cX8_qPartTold 155 = .ok (.if_icmp .eq 26, 3) := by decide +kernel
theorem dX8_qPartTold_158 : decode cX8_qPartTold 158 = .ok (.aload_n 0, 1) := by decide +kernel
theorem dX8_qPartTold_159 : decode cX8_qPartTold 159 = .ok (.bipush 60, 2) := by decide +kernel
theorem dX8_qPartTold_161 : decode cX8_qPartTold 161 = .ok (.iload_n 3, 1) := by decide +kernel
theorem dX8_qPartTold_162 : decode cX8_qPartTold 162 = .ok (.iadd, 1) := by decide +kernel
theorem dX8_qPartTold_163 : decode cX8_qPartTold 163 = .ok (.bipush 10, 2) := by decide +kernel
theorem dX8_qPartTold_165 : decode cX8_qPartTold 165 = .ok (.isub, 1) := by decide +kernel
theorem dX8_qPartTold_166 : decode cX8_qPartTold 166 = .ok (.aload_n 0, 1) := by decide +kernel
theorem dX8_qPartTold_167 : decode cX8_qPartTold 167 = .ok (.getfield 255, 3) := by decide +kernel
theorem dX8_qPartTold_170 : decode cX8_qPartTold 170 = .ok (.invokevirtual 601, 3) := by decide +kernel
theorem dX8_qPartTold_173 : decode cX8_qPartTold 173 = .ok (.aload_n 0, 1) := by decide +kernel
theorem dX8_qPartTold_174 : decode cX8_qPartTold 174 = .ok (.iload_n 3, 1) := by decide +kernel
theorem dX8_qPartTold_175 : decode cX8_qPartTold 175 = .ok (.invokevirtual 604, 3) := by decide +kernel
theorem dX8_qPartTold_178 : decode cX8_qPartTold 178 = .ok (.goto 5, 3) := by decide +kernel
theorem dX8_qPartTold_181 : decode cX8_qPartTold 181 = .ok (.iconst 0, 1) := by decide +kernel
theorem dX8_qPartTold_182 : decode cX8_qPartTold 182 = .ok (.istore_n 1, 1) := by decide +kernel
theorem dX8_qPartTold_183 : decode cX8_qPartTold 183 = .ok (.goto (-181), 3) := by decide +kernel
theorem dX8_qPartTold_186 : decode cX8_qPartTold 186 = .ok (.aload_n 0, 1) := by decide +kernel
theorem dX8_qPartTold_187 : decode cX8_qPartTold 187 = .ok (.getfield 249, 3) := by decide +kernel
theorem dX8_qPartTold_190 : decode cX8_qPartTold 190 = .ok (.ifCond .eq 4, 3) := by decide +kernel
theorem dX8_qPartTold_193 : decode cX8_qPartTold 193 = .ok (.return_, 1) := by decide +kernel
theorem dX8_qPartTold_194 : decode cX8_qPartTold 194 = .ok (.aload_n 0, 1) := by decide +kernel
theorem dX8_qPartTold_195 : decode cX8_qPartTold 195 = .ok (.iconst 0, 1) := by decide +kernel
theorem dX8_qPartTold_196 : decode cX8_qPartTold 196 = .ok (.bipush 10, 2) := by decide +kernel
theorem dX8_qPartTold_198 : decode cX8_qPartTold 198 = .ok (.invokevirtual 598, 3) := by decide +kernel
theorem dX8_qPartTold_201 : decode cX8_qPartTold 201 = .ok (.istore_n 2, 1) := by decide +kernel
theorem dX8_qPartTold_202 : decode cX8_qPartTold 202 = .ok (.iload_n 2, 1) := by decide +kernel
theorem dX8_qPartTold_203 : decode cX8_qPartTold 203 = .ok (.iconst (-1), 1) := by decide +kernel
theorem dX8_qPartTold_204 : decode cX8_qPartTold 204 = .ok (.if_icmp .eq 8, 3) := by decide +kernel
theorem dX8_qPartTold_207 : decode cX8_qPartTold 207 = .ok (.aload_n 0, 1) := by decide +kernel
theorem dX8_qPartTold_208 : decode cX8_qPartTold 208 = .ok (.iload_n 2, 1) := by decide +kernel
theorem dX8_qPartTold_209 : decode cX8_qPartTold 209 = .ok (.invokevirtual 604, 3) := by decide +kernel
theorem dX8_qPartTold_212 : decode cX8_qPartTold 212 = .ok (.aload_n 0, 1) := by decide +kernel
theorem dX8_qPartTold_213 : decode cX8_qPartTold 213 = .ok (.iload_n 2, 1) := by decide +kernel
theorem dX8_qPartTold_214 : decode cX8_qPartTold 214 = .ok (.iconst (-1), 1) := by decide +kernel
theorem dX8_qPartTold_215 : decode cX8_qPartTold 215 = .ok (.if_icmp .eq 10, 3) := by decide +kernel
theorem dX8_qPartTold_218 : decode cX8_qPartTold 218 = .ok (.bipush 40, 2) := by decide +kernel
theorem dX8_qPartTold_220 : decode cX8_qPartTold 220 = .ok (.iload_n 2, 1) := by decide +kernel
theorem dX8_qPartTold_221 : decode cX8_qPartTold 221 = .ok (.iadd, 1) := by decide +kernel
theorem dX8_qPartTold_222 : decode cX8_qPartTold 222 = .ok (.goto 15, 3) := by decide +kernel
theorem dX8_qPartTold_225 : decode cX8_qPartTold 225 = .ok (.sipush 1000, 3) := by decide +kernel
theorem dX8_qPartTold_228 : decode cX8_qPartTold 228 = .ok (.aload_n 0, 1) := by decide +kernel
theorem dX8_qPartTold_229 : decode cX8_qPartTold 229 = .ok (.iconst 0, 1) := by decide +kernel
theorem dX8_qPartTold_230 : decode cX8_qPartTold 230 = .ok (.sipush 9999, 3) := by decide +kernel
theorem dX8_qPartTold_233 : decode cX8_qPartTold 233 = .ok (.invokevirtual 315, 3) := by decide +kernel
theorem dX8_qPartTold_236 : decode cX8_qPartTold 236 = .ok (.iadd, 1) := by decide +kernel
theorem dX8_qPartTold_237 : decode cX8_qPartTold 237 = .ok (.invokevirtual 583, 3) := by decide +kernel
theorem dX8_qPartTold_240 : decode cX8_qPartTold 240 = .ok (.aload_n 0, 1) := by decide +kernel
theorem dX8_qPartTold_241 : decode cX8_qPartTold 241 = .ok (.invokevirtual 607, 3) := by decide +kernel
theorem dX8_qPartTold_244 : decode cX8_qPartTold 244 = .ok (.return_, 1) := by decide +kernel
theorem dX8_qGoesOn_0 : decode cX8_qGoesOn 0 = .ok (.aload_n 0, 1) := by decide +kernel
theorem dX8_qGoesOn_1 : decode cX8_qGoesOn 1 = .ok (.getfield 249, 3) := by decide +kernel
theorem dX8_qGoesOn_4 : decode cX8_qGoesOn 4 = .ok (.ifCond .ne 118, 3) := by decide +kernel
theorem dX8_qGoesOn_7 : decode cX8_qGoesOn 7 = .ok (.aload_n 0, 1) := by decide +kernel
theorem dX8_qGoesOn_8 : decode cX8_qGoesOn 8 = .ok (.invokevirtual 261, 3) := by decide +kernel
theorem dX8_qGoesOn_11 : decode cX8_qGoesOn 11 = .ok (.bipush 41, 2) := by decide +kernel
theorem dX8_qGoesOn_13 : decode cX8_qGoesOn 13 = .ok (.if_icmp .ne 109, 3) := by decide +kernel
theorem dX8_qGoesOn_16 : decode cX8_qGoesOn 16 = .ok (.aload_n 0, 1) := by decide +kernel
theorem dX8_qGoesOn_17 : decode cX8_qGoesOn 17 = .ok (.invokevirtual 610, 3) := by decide +kernel
theorem dX8_qGoesOn_20 : decode cX8_qGoesOn 20 = .ok (.bipush 20, 2) := by decide +kernel
theorem dX8_qGoesOn_22 : decode cX8_qGoesOn 22 = .ok (.if_icmp .eq 21, 3) := by decide +kernel
theorem dX8_qGoesOn_25 : decode cX8_qGoesOn 25 = .ok (.aload_n 0, 1) := by decide +kernel
theorem dX8_qGoesOn_26 : decode cX8_qGoesOn 26 = .ok (.invokevirtual 610, 3) := by decide +kernel
theorem dX8_qGoesOn_29 : decode cX8_qGoesOn 29 = .ok (.bipush 23, 2) := by decide +kernel
theorem dX8_qGoesOn_31 : decode cX8_qGoesOn 31 = .ok (.if_icmp .eq 12, 3) := by decide +kernel
theorem dX8_qGoesOn_34 : decode cX8_qGoesOn 34 = .ok (.aload_n 0, 1) := by decide +kernel
theorem dX8_qGoesOn_35 : decode cX8_qGoesOn 35 = .ok (.invokevirtual 610, 3) := by decide +kernel
theorem dX8_qGoesOn_38 : decode cX8_qGoesOn 38 = .ok (.bipush 24, 2) := by decide +kernel
theorem dX8_qGoesOn_40 : decode cX8_qGoesOn 40 = .ok (.if_icmp .ne 82, 3) := by decide +kernel
theorem dX8_qGoesOn_43 : decode cX8_qGoesOn 43 = .ok (.aload_n 0, 1) := by decide +kernel
theorem dX8_qGoesOn_44 : decode cX8_qGoesOn 44 = .ok (.dup, 1) := by decide +kernel
theorem dX8_qGoesOn_45 : decode cX8_qGoesOn 45 = .ok (.getfield 255, 3) := by decide +kernel
theorem dX8_qGoesOn_48 : decode cX8_qGoesOn 48 = .ok (.iconst 1, 1) := by decide +kernel
theorem dX8_qGoesOn_49 : decode cX8_qGoesOn 49 = .ok (.iadd, 1) := by decide +kernel
theorem dX8_qGoesOn_50 : decode cX8_qGoesOn 50 = .ok (.putfield 255, 3) := by decide +kernel
theorem dX8_qGoesOn_53 : decode cX8_qGoesOn 53 = .ok (.aload_n 0, 1) := by decide +kernel
theorem dX8_qGoesOn_54 : decode cX8_qGoesOn 54 = .ok (.invokevirtual 613, 3) := by decide +kernel
theorem dX8_qGoesOn_57 : decode cX8_qGoesOn 57 = .ok (.aload_n 0, 1) := by decide +kernel
theorem dX8_qGoesOn_58 : decode cX8_qGoesOn 58 = .ok (.dup, 1) := by decide +kernel
theorem dX8_qGoesOn_59 : decode cX8_qGoesOn 59 = .ok (.getfield 340, 3) := by decide +kernel
theorem dX8_qGoesOn_62 : decode cX8_qGoesOn 62 = .ok (.iconst 1, 1) := by decide +kernel
theorem dX8_qGoesOn_63 : decode cX8_qGoesOn 63 = .ok (.isub, 1) := by decide +kernel
theorem dX8_qGoesOn_64 : decode cX8_qGoesOn 64 = .ok (.putfield 340, 3) := by decide +kernel
theorem dX8_qGoesOn_67 : decode cX8_qGoesOn 67 = .ok (.aload_n 0, 1) := by decide +kernel
theorem dX8_qGoesOn_68 : decode cX8_qGoesOn 68 = .ok (.dup, 1) := by decide +kernel
theorem dX8_qGoesOn_69 : decode cX8_qGoesOn 69 = .ok (.getfield 343, 3) := by decide +kernel
theorem dX8_qGoesOn_72 : decode cX8_qGoesOn 72 = .ok (.iconst 1, 1) := by decide +kernel
theorem dX8_qGoesOn_73 : decode cX8_qGoesOn 73 = .ok (.isub, 1) := by decide +kernel
theorem dX8_qGoesOn_74 : decode cX8_qGoesOn 74 = .ok (.putfield 343, 3) := by decide +kernel
theorem dX8_qGoesOn_77 : decode cX8_qGoesOn 77 = .ok (.aload_n 0, 1) := by decide +kernel
theorem dX8_qGoesOn_78 : decode cX8_qGoesOn 78 = .ok (.getfield 237, 3) := by decide +kernel
theorem dX8_qGoesOn_81 : decode cX8_qGoesOn 81 = .ok (.aload_n 0, 1) := by decide +kernel
theorem dX8_qGoesOn_82 : decode cX8_qGoesOn 82 = .ok (.getfield 340, 3) := by decide +kernel
theorem dX8_qGoesOn_85 : decode cX8_qGoesOn 85 = .ok (.iaload, 1) := by decide +kernel
theorem dX8_qGoesOn_86 : decode cX8_qGoesOn 86 = .ok (.bipush 20, 2) := by decide +kernel
theorem dX8_qGoesOn_88 : decode cX8_qGoesOn 88 = .ok (.if_icmp .eq 27, 3) := by decide +kernel
theorem dX8_qGoesOn_91 : decode cX8_qGoesOn 91 = .ok (.aload_n 0, 1) := by decide +kernel
theorem dX8_qGoesOn_92 : decode cX8_qGoesOn 92 = .ok (.aload_n 0, 1) := by decide +kernel
theorem dX8_qGoesOn_93 : decode cX8_qGoesOn 93 = .ok (.getfield 237, 3) := by decide +kernel
theorem dX8_qGoesOn_96 : decode cX8_qGoesOn 96 = .ok (.aload_n 0, 1) := by decide +kernel
theorem dX8_qGoesOn_97 : decode cX8_qGoesOn 97 = .ok (.getfield 340, 3) := by decide +kernel
theorem dX8_qGoesOn_100 : decode cX8_qGoesOn 100 = .ok (.iaload, 1) := by decide +kernel
theorem dX8_qGoesOn_101 : decode cX8_qGoesOn 101 = .ok (.bipush 23, 2) := by decide +kernel
theorem dX8_qGoesOn_103 : decode cX8_qGoesOn 103 = .ok (.if_icmp .ne 7, 3) := by decide +kernel
theorem dX8_qGoesOn_106 : decode cX8_qGoesOn 106 = .ok (.iconst 5, 1) := by decide +kernel
theorem dX8_qGoesOn_107 : decode cX8_qGoesOn 107 = .ok (.goto 5, 3) := by decide +kernel
theorem dX8_qGoesOn_110 : decode cX8_qGoesOn 110 = .ok (.bipush 6, 2) := by decide +kernel
theorem dX8_qGoesOn_112 : decode cX8_qGoesOn 112 = .ok (.invokevirtual 583, 3) := by decide +kernel
theorem dX8_qGoesOn_115 : decode cX8_qGoesOn 115 = .ok (.aload_n 0, 1) := by decide +kernel
theorem dX8_qGoesOn_116 : decode cX8_qGoesOn 116 = .ok (.invokevirtual 607, 3) := by decide +kernel
theorem dX8_qGoesOn_119 : decode cX8_qGoesOn 119 = .ok (.goto (-119), 3) := by decide +kernel
theorem dX8_qGoesOn_122 : decode cX8_qGoesOn 122 = .ok (.aload_n 0, 1) := by decide +kernel
theorem dX8_qGoesOn_123 : decode cX8_qGoesOn 123 = .ok (.bipush 42, 2) := by decide +kernel
theorem dX8_qGoesOn_125 : decode cX8_qGoesOn 125 = .ok (.invokevirtual 283, 3) := by decide +kernel
theorem dX8_qGoesOn_128 : decode cX8_qGoesOn 128 = .ok (.ifCond .ne 12, 3) := by decide +kernel
theorem dX8_qGoesOn_131 : decode cX8_qGoesOn 131 = .ok (.aload_n 0, 1) := by decide +kernel
theorem dX8_qGoesOn_132 : decode cX8_qGoesOn 132 = .ok (.bipush 47, 2) := by decide +kernel
theorem dX8_qGoesOn_134 : decode cX8_qGoesOn 134 = .ok (.invokevirtual 283, 3) := by decide +kernel
theorem dX8_qGoesOn_137 : decode cX8_qGoesOn 137 = .ok (.ifCond .eq 70, 3) := by decide +kernel
theorem dX8_qGoesOn_140 : decode cX8_qGoesOn 140 = .ok (.aload_n 0, 1) := by decide +kernel
theorem dX8_qGoesOn_141 : decode cX8_qGoesOn 141 = .ok (.getfield 7, 3) := by decide +kernel
theorem dX8_qGoesOn_144 : decode cX8_qGoesOn 144 = .ok (.aload_n 0, 1) := by decide +kernel
theorem dX8_qGoesOn_145 : decode cX8_qGoesOn 145 = .ok (.getfield 255, 3) := by decide +kernel
theorem dX8_qGoesOn_148 : decode cX8_qGoesOn 148 = .ok (.iconst 1, 1) := by decide +kernel
theorem dX8_qGoesOn_149 : decode cX8_qGoesOn 149 = .ok (.isub, 1) := by decide +kernel
theorem dX8_qGoesOn_150 : decode cX8_qGoesOn 150 = .ok (.iaload, 1) := by decide +kernel
theorem dX8_qGoesOn_151 : decode cX8_qGoesOn 151 = .ok (.bipush 42, 2) := by decide +kernel
theorem dX8_qGoesOn_153 : decode cX8_qGoesOn 153 = .ok (.if_icmp .ne 7, 3) := by decide +kernel
theorem dX8_qGoesOn_156 : decode cX8_qGoesOn 156 = .ok (.iconst 3, 1) := by decide +kernel
theorem dX8_qGoesOn_157 : decode cX8_qGoesOn 157 = .ok (.goto 4, 3) := by decide +kernel
theorem dX8_qGoesOn_160 : decode cX8_qGoesOn 160 = .ok (.iconst 4, 1) := by decide +kernel
theorem dX8_qGoesOn_161 : decode cX8_qGoesOn 161 = .ok (.istore_n 1, 1) := by decide +kernel
theorem dX8_qGoesOn_162 : decode cX8_qGoesOn 162 = .ok (.aload_n 0, 1) := by decide +kernel
theorem dX8_qGoesOn_163 : decode cX8_qGoesOn 163 = .ok (.iconst 3, 1) := by decide +kernel
theorem dX8_qGoesOn_164 : decode cX8_qGoesOn 164 = .ok (.invokevirtual 616, 3) := by decide +kernel
theorem dX8_qGoesOn_167 : decode cX8_qGoesOn 167 = .ok (.ifCond .ne 11, 3) := by decide +kernel
theorem dX8_qGoesOn_170 : decode cX8_qGoesOn 170 = .ok (.aload_n 0, 1) := by decide +kernel
theorem dX8_qGoesOn_171 : decode cX8_qGoesOn 171 = .ok (.iconst 4, 1) := by decide +kernel
theorem dX8_qGoesOn_172 : decode cX8_qGoesOn 172 = .ok (.invokevirtual 616, 3) := by decide +kernel
theorem dX8_qGoesOn_175 : decode cX8_qGoesOn 175 = .ok (.ifCond .eq 10, 3) := by decide +kernel
theorem dX8_qGoesOn_178 : decode cX8_qGoesOn 178 = .ok (.aload_n 0, 1) := by decide +kernel
theorem dX8_qGoesOn_179 : decode cX8_qGoesOn 179 = .ok (.invokevirtual 589, 3) := by decide +kernel
theorem dX8_qGoesOn_182 : decode cX8_qGoesOn 182 = .ok (.goto (-20), 3) := by decide +kernel
theorem dX8_qGoesOn_185 : decode cX8_qGoesOn 185 = .ok (.aload_n 0, 1) := by decide +kernel
theorem dX8_qGoesOn_186 : decode cX8_qGoesOn 186 = .ok (.getfield 237, 3) := by decide +kernel
theorem dX8_qGoesOn_189 : decode cX8_qGoesOn 189 = .ok (.aload_n 0, 1) := by decide +kernel
theorem dX8_qGoesOn_190 : decode cX8_qGoesOn 190 = .ok (.getfield 340, 3) := by decide +kernel
theorem dX8_qGoesOn_193 : decode cX8_qGoesOn 193 = .ok (.iload_n 1, 1) := by decide +kernel
theorem dX8_qGoesOn_194 : decode cX8_qGoesOn 194 = .ok (.iastore, 1) := by decide +kernel
theorem dX8_qGoesOn_195 : decode cX8_qGoesOn 195 = .ok (.aload_n 0, 1) := by decide +kernel
theorem dX8_qGoesOn_196 : decode cX8_qGoesOn 196 = .ok (.dup, 1) := by decide +kernel
theorem dX8_qGoesOn_197 : decode cX8_qGoesOn 197 = .ok (.getfield 340, 3) := by decide +kernel
theorem dX8_qGoesOn_200 : decode cX8_qGoesOn 200 = .ok (.iconst 1, 1) := by decide +kernel
theorem dX8_qGoesOn_201 : decode cX8_qGoesOn 201 = .ok (.iadd, 1) := by decide +kernel
theorem dX8_qGoesOn_202 : decode cX8_qGoesOn 202 = .ok (.putfield 340, 3) := by decide +kernel
theorem dX8_qGoesOn_205 : decode cX8_qGoesOn 205 = .ok (.iconst 1, 1) := by decide +kernel
theorem dX8_qGoesOn_206 : decode cX8_qGoesOn 206 = .ok (.ireturn, 1) := by decide +kernel
theorem dX8_qGoesOn_207 : decode cX8_qGoesOn 207 = .ok (.aload_n 0, 1) := by decide +kernel
theorem dX8_qGoesOn_208 : decode cX8_qGoesOn 208 = .ok (.bipush 43, 2) := by decide +kernel
theorem dX8_qGoesOn_210 : decode cX8_qGoesOn 210 = .ok (.invokevirtual 283, 3) := by decide +kernel
theorem dX8_qGoesOn_213 : decode cX8_qGoesOn 213 = .ok (.ifCond .ne 12, 3) := by decide +kernel
theorem dX8_qGoesOn_216 : decode cX8_qGoesOn 216 = .ok (.aload_n 0, 1) := by decide +kernel
theorem dX8_qGoesOn_217 : decode cX8_qGoesOn 217 = .ok (.bipush 45, 2) := by decide +kernel
theorem dX8_qGoesOn_219 : decode cX8_qGoesOn 219 = .ok (.invokevirtual 283, 3) := by decide +kernel
theorem dX8_qGoesOn_222 : decode cX8_qGoesOn 222 = .ok (.ifCond .eq 86, 3) := by decide +kernel
theorem dX8_qGoesOn_225 : decode cX8_qGoesOn 225 = .ok (.aload_n 0, 1) := by decide +kernel
theorem dX8_qGoesOn_226 : decode cX8_qGoesOn 226 = .ok (.getfield 7, 3) := by decide +kernel
theorem dX8_qGoesOn_229 : decode cX8_qGoesOn 229 = .ok (.aload_n 0, 1) := by decide +kernel
theorem dX8_qGoesOn_230 : decode cX8_qGoesOn 230 = .ok (.getfield 255, 3) := by decide +kernel
theorem dX8_qGoesOn_233 : decode cX8_qGoesOn 233 = .ok (.iconst 1, 1) := by decide +kernel
theorem dX8_qGoesOn_234 : decode cX8_qGoesOn 234 = .ok (.isub, 1) := by decide +kernel
theorem dX8_qGoesOn_235 : decode cX8_qGoesOn 235 = .ok (.iaload, 1) := by decide +kernel
theorem dX8_qGoesOn_236 : decode cX8_qGoesOn 236 = .ok (.bipush 43, 2) := by decide +kernel
theorem dX8_qGoesOn_238 : decode cX8_qGoesOn 238 = .ok (.if_icmp .ne 7, 3) := by decide +kernel
theorem dX8_qGoesOn_241 : decode cX8_qGoesOn 241 = .ok (.iconst 1, 1) := by decide +kernel
theorem dX8_qGoesOn_242 : decode cX8_qGoesOn 242 = .ok (.goto 4, 3) := by decide +kernel
theorem dX8_qGoesOn_245 : decode cX8_qGoesOn 245 = .ok (.iconst 2, 1) := by decide +kernel
theorem dX8_qGoesOn_246 : decode cX8_qGoesOn 246 = .ok (.istore_n 1, 1) := by decide +kernel
theorem dX8_qGoesOn_247 : decode cX8_qGoesOn 247 = .ok (.aload_n 0, 1) := by decide +kernel
theorem dX8_qGoesOn_248 : decode cX8_qGoesOn 248 = .ok (.iconst 3, 1) := by decide +kernel
theorem dX8_qGoesOn_249 : decode cX8_qGoesOn 249 = .ok (.invokevirtual 616, 3) := by decide +kernel
theorem dX8_qGoesOn_252 : decode cX8_qGoesOn 252 = .ok (.ifCond .ne 27, 3) := by decide +kernel
theorem dX8_qGoesOn_255 : decode cX8_qGoesOn 255 = .ok (.aload_n 0, 1) := by decide +kernel
theorem dX8_qGoesOn_256 : decode cX8_qGoesOn 256 = .ok (.iconst 4, 1) := by decide +kernel
theorem dX8_qGoesOn_257 : decode cX8_qGoesOn 257 = .ok (.invokevirtual 616, 3) := by decide +kernel
theorem dX8_qGoesOn_260 : decode cX8_qGoesOn 260 = .ok (.ifCond .ne 19, 3) := by decide +kernel
theorem dX8_qGoesOn_263 : decode cX8_qGoesOn 263 = .ok (.aload_n 0, 1) := by decide +kernel
theorem dX8_qGoesOn_264 : decode cX8_qGoesOn 264 = .ok (.iconst 1, 1) := by decide +kernel
theorem dX8_qGoesOn_265 : decode cX8_qGoesOn 265 = .ok (.invokevirtual 616, 3) := by decide +kernel
theorem dX8_qGoesOn_268 : decode cX8_qGoesOn 268 = .ok (.ifCond .ne 11, 3) := by decide +kernel
theorem dX8_qGoesOn_271 : decode cX8_qGoesOn 271 = .ok (.aload_n 0, 1) := by decide +kernel
theorem dX8_qGoesOn_272 : decode cX8_qGoesOn 272 = .ok (.iconst 2, 1) := by decide +kernel
theorem dX8_qGoesOn_273 : decode cX8_qGoesOn 273 = .ok (.invokevirtual 616, 3) := by decide +kernel
theorem dX8_qGoesOn_276 : decode cX8_qGoesOn 276 = .ok (.ifCond .eq 10, 3) := by decide +kernel
theorem dX8_qGoesOn_279 : decode cX8_qGoesOn 279 = .ok (.aload_n 0, 1) := by decide +kernel
theorem dX8_qGoesOn_280 : decode cX8_qGoesOn 280 = .ok (.invokevirtual 589, 3) := by decide +kernel
theorem dX8_qGoesOn_283 : decode cX8_qGoesOn 283 = .ok (.goto (-36), 3) := by decide +kernel
theorem dX8_qGoesOn_286 : decode cX8_qGoesOn 286 = .ok (.aload_n 0, 1) := by decide +kernel
theorem dX8_qGoesOn_287 : decode cX8_qGoesOn 287 = .ok (.getfield 237, 3) := by decide +kernel
theorem dX8_qGoesOn_290 : decode cX8_qGoesOn 290 = .ok (.aload_n 0, 1) := by decide +kernel
theorem dX8_qGoesOn_291 : decode cX8_qGoesOn 291 = .ok (.getfield 340, 3) := by decide +kernel
theorem dX8_qGoesOn_294 : decode cX8_qGoesOn 294 = .ok (.iload_n 1, 1) := by decide +kernel
theorem dX8_qGoesOn_295 : decode cX8_qGoesOn 295 = .ok (.iastore, 1) := by decide +kernel
theorem dX8_qGoesOn_296 : decode cX8_qGoesOn 296 = .ok (.aload_n 0, 1) := by decide +kernel
theorem dX8_qGoesOn_297 : decode cX8_qGoesOn 297 = .ok (.dup, 1) := by decide +kernel
theorem dX8_qGoesOn_298 : decode cX8_qGoesOn 298 = .ok (.getfield 340, 3) := by decide +kernel
theorem dX8_qGoesOn_301 : decode cX8_qGoesOn 301 = .ok (.iconst 1, 1) := by decide +kernel
theorem dX8_qGoesOn_302 : decode cX8_qGoesOn 302 = .ok (.iadd, 1) := by decide +kernel
theorem dX8_qGoesOn_303 : decode cX8_qGoesOn 303 = .ok (.putfield 340, 3) := by decide +kernel
theorem dX8_qGoesOn_306 : decode cX8_qGoesOn 306 = .ok (.iconst 1, 1) := by decide +kernel
theorem dX8_qGoesOn_307 : decode cX8_qGoesOn 307 = .ok (.ireturn, 1) := by decide +kernel
theorem dX8_qGoesOn_308 : decode cX8_qGoesOn 308 = .ok (.aload_n 0, 1) := by decide +kernel
theorem dX8_qGoesOn_309 : decode cX8_qGoesOn 309 = .ok (.invokevirtual 610, 3) := by decide +kernel
theorem dX8_qGoesOn_312 : decode cX8_qGoesOn 312 = .ok (.bipush 21, 2) := by decide +kernel
theorem dX8_qGoesOn_314 : decode cX8_qGoesOn 314 = .ok (.if_icmp .eq 12, 3) := by decide +kernel
theorem dX8_qGoesOn_317 : decode cX8_qGoesOn 317 = .ok (.aload_n 0, 1) := by decide +kernel
theorem dX8_qGoesOn_318 : decode cX8_qGoesOn 318 = .ok (.invokevirtual 610, 3) := by decide +kernel
theorem dX8_qGoesOn_321 : decode cX8_qGoesOn 321 = .ok (.bipush 22, 2) := by decide +kernel
theorem dX8_qGoesOn_323 : decode cX8_qGoesOn 323 = .ok (.if_icmp .ne 39, 3) := by decide +kernel
theorem dX8_qGoesOn_326 : decode cX8_qGoesOn 326 = .ok (.aload_n 0, 1) := by decide +kernel
theorem dX8_qGoesOn_327 : decode cX8_qGoesOn 327 = .ok (.bipush 44, 2) := by decide +kernel
theorem dX8_qGoesOn_329 : decode cX8_qGoesOn 329 = .ok (.invokevirtual 319, 3) := by decide +kernel
theorem dX8_qGoesOn_332 : decode cX8_qGoesOn 332 = .ok (.aload_n 0, 1) := by decide +kernel
theorem dX8_qGoesOn_333 : decode cX8_qGoesOn 333 = .ok (.getfield 249, 3) := by decide +kernel
theorem dX8_qGoesOn_336 : decode cX8_qGoesOn 336 = .ok (.ifCond .eq 5, 3) := by decide +kernel
theorem dX8_qGoesOn_339 : decode cX8_qGoesOn 339 = .ok (.iconst 0, 1) := by decide +kernel
theorem dX8_qGoesOn_340 : decode cX8_qGoesOn 340 = .ok (.ireturn, 1) := by decide +kernel
theorem dX8_qGoesOn_341 : decode cX8_qGoesOn 341 = .ok (.aload_n 0, 1) := by decide +kernel
theorem dX8_qGoesOn_342 : decode cX8_qGoesOn 342 = .ok (.invokevirtual 613, 3) := by decide +kernel
theorem dX8_qGoesOn_345 : decode cX8_qGoesOn 345 = .ok (.aload_n 0, 1) := by decide +kernel
theorem dX8_qGoesOn_346 : decode cX8_qGoesOn 346 = .ok (.getfield 237, 3) := by decide +kernel
theorem dX8_qGoesOn_349 : decode cX8_qGoesOn 349 = .ok (.aload_n 0, 1) := by decide +kernel
theorem dX8_qGoesOn_350 : decode cX8_qGoesOn 350 = .ok (.getfield 340, 3) := by decide +kernel
theorem dX8_qGoesOn_353 : decode cX8_qGoesOn 353 = .ok (.iconst 1, 1) := by decide +kernel
theorem dX8_qGoesOn_354 : decode cX8_qGoesOn 354 = .ok (.isub, 1) := by decide +kernel
theorem dX8_qGoesOn_355 : decode cX8_qGoesOn 355 = .ok (.dup2, 1) := by decide +kernel
theorem dX8_qGoesOn_356 : decode cX8_qGoesOn 356 = .ok (.iaload, 1) := by decide +kernel
theorem dX8_qGoesOn_357 : decode cX8_qGoesOn 357 = .ok (.iconst 2, 1) := by decide +kernel
theorem dX8_qGoesOn_358 : decode cX8_qGoesOn 358 = .ok (.iadd, 1) := by decide +kernel
theorem dX8_qGoesOn_359 : decode cX8_qGoesOn 359 = .ok (.iastore, 1) := by decide +kernel
theorem dX8_qGoesOn_360 : decode cX8_qGoesOn 360 = .ok (.iconst 1, 1) := by decide +kernel
theorem dX8_qGoesOn_361 : decode cX8_qGoesOn 361 = .ok (.ireturn, 1) := by decide +kernel
theorem dX8_qGoesOn_362 : decode cX8_qGoesOn 362 = .ok (.aload_n 0, 1) := by decide +kernel
theorem dX8_qGoesOn_363 : decode cX8_qGoesOn 363 = .ok (.invokevirtual 610, 3) := by decide +kernel
theorem dX8_qGoesOn_366 : decode cX8_qGoesOn 366 = .ok (.iconst (-1), 1) := by decide +kernel
theorem dX8_qGoesOn_367 : decode cX8_qGoesOn 367 = .ok (.if_icmp .eq 19, 3) := by decide +kernel
theorem dX8_qGoesOn_370 : decode cX8_qGoesOn 370 = .ok (.aload_n 0, 1) := by decide +kernel
theorem dX8_qGoesOn_371 : decode cX8_qGoesOn 371 = .ok (.getfield 249, 3) := by decide +kernel
theorem dX8_qGoesOn_374 : decode cX8_qGoesOn 374 = .ok (.ifCond .ne 12, 3) := by decide +kernel
theorem dX8_qGoesOn_377 : decode cX8_qGoesOn 377 = .ok (.aload_n 0, 1) := by decide +kernel
theorem dX8_qGoesOn_378 : decode cX8_qGoesOn 378 = .ok (.iconst 1, 1) := by decide +kernel
theorem dX8_qGoesOn_379 : decode cX8_qGoesOn 379 = .ok (.aload_n 0, 1) := by decide +kernel
theorem dX8_qGoesOn_380 : decode cX8_qGoesOn 380 = .ok (.getfield 255, 3) := by decide +kernel
theorem dX8_qGoesOn_383 : decode cX8_qGoesOn 383 = .ok (.invokevirtual 279, 3) := by decide +kernel
theorem dX8_qGoesOn_386 : decode cX8_qGoesOn 386 = .ok (.iconst 0, 1) := by decide +kernel
theorem dX8_qGoesOn_387 : decode cX8_qGoesOn 387 = .ok (.ireturn, 1) := by decide +kernel
theorem dX8_qSums_0 : decode cX8_qSums 0 = .ok (.aload_n 0, 1) := by decide +kernel
theorem dX8_qSums_1 : decode cX8_qSums 1 = .ok (.getfield 346, 3) := by decide +kernel
theorem dX8_qSums_4 : decode cX8_qSums 4 = .ok (.istore_n 1, 1) := by decide +kernel
theorem dX8_qSums_5 : decode cX8_qSums 5 = .ok (.aload_n 0, 1) := by decide +kernel
theorem dX8_qSums_6 : decode cX8_qSums 6 = .ok (.aload_n 0, 1) := by decide +kernel
theorem dX8_qSums_7 : decode cX8_qSums 7 = .ok (.getfield 340, 3) := by decide +kernel
theorem dX8_qSums_10 : decode cX8_qSums 10 = .ok (.putfield 346, 3) := by decide +kernel
theorem dX8_qSums_13 : decode cX8_qSums 13 = .ok (.iconst 1, 1) := by decide +kernel
theorem dX8_qSums_14 : decode cX8_qSums 14 = .ok (.istore_n 2, 1) := by decide +kernel
theorem dX8_qSums_15 : decode cX8_qSums 15 = .ok (.iload_n 2, 1) := by decide +kernel
theorem dX8_qSums_16 : decode cX8_qSums 16 = .ok (.ifCond .eq 37, 3) := by decide +kernel
theorem dX8_qSums_19 : decode cX8_qSums 19 = .ok (.aload_n 0, 1) := by decide +kernel
theorem dX8_qSums_20 : decode cX8_qSums 20 = .ok (.getfield 249, 3) := by decide +kernel
theorem dX8_qSums_23 : decode cX8_qSums 23 = .ok (.ifCond .ne 30, 3) := by decide +kernel
theorem dX8_qSums_26 : decode cX8_qSums 26 = .ok (.aload_n 0, 1) := by decide +kernel
theorem dX8_qSums_27 : decode cX8_qSums 27 = .ok (.invokevirtual 619, 3) := by decide +kernel
theorem dX8_qSums_30 : decode cX8_qSums 30 = .ok (.aload_n 0, 1) := by decide +kernel
theorem dX8_qSums_31 : decode cX8_qSums 31 = .ok (.getfield 249, 3) := by decide +kernel
theorem dX8_qSums_34 : decode cX8_qSums 34 = .ok (.ifCond .ne 14, 3) := by decide +kernel
theorem dX8_qSums_37 : decode cX8_qSums 37 = .ok (.aload_n 0, 1) := by decide +kernel
theorem dX8_qSums_38 : decode cX8_qSums 38 = .ok (.invokevirtual 622, 3) := by decide +kernel
theorem dX8_qSums_41 : decode cX8_qSums 41 = .ok (.ifCond .eq 7, 3) := by decide +kernel
theorem dX8_qSums_44 : decode cX8_qSums 44 = .ok (.iconst 1, 1) := by decide +kernel
theorem dX8_qSums_45 : decode cX8_qSums 45 = .ok (.goto 4, 3) := by decide +kernel
theorem dX8_qSums_48 : decode cX8_qSums 48 = .ok (.iconst 0, 1) := by decide +kernel
theorem dX8_qSums_49 : decode cX8_qSums 49 = .ok (.istore_n 2, 1) := by decide +kernel
theorem dX8_qSums_50 : decode cX8_qSums 50 = .ok (.goto (-35), 3) := by decide +kernel
theorem dX8_qSums_53 : decode cX8_qSums 53 = .ok (.aload_n 0, 1) := by decide +kernel
theorem dX8_qSums_54 : decode cX8_qSums 54 = .ok (.getfield 249, 3) := by decide +kernel
theorem dX8_qSums_57 : decode cX8_qSums 57 = .ok (.ifCond .ne 21, 3) := by decide +kernel
theorem dX8_qSums_60 : decode cX8_qSums 60 = .ok (.aload_n 0, 1) := by decide +kernel
theorem dX8_qSums_61 : decode cX8_qSums 61 = .ok (.getfield 340, 3) := by decide +kernel
theorem dX8_qSums_64 : decode cX8_qSums 64 = .ok (.aload_n 0, 1) := by decide +kernel
theorem dX8_qSums_65 : decode cX8_qSums 65 = .ok (.getfield 346, 3) := by decide +kernel
theorem dX8_qSums_68 : decode cX8_qSums 68 = .ok (.if_icmp .le 10, 3) := by decide +kernel
theorem dX8_qSums_71 : decode cX8_qSums 71 = .ok (.aload_n 0, 1) := by decide +kernel
theorem dX8_qSums_72 : decode cX8_qSums 72 = .ok (.invokevirtual 589, 3) := by decide +kernel
theorem dX8_qSums_75 : decode cX8_qSums 75 = .ok (.goto (-22), 3) := by decide +kernel
theorem dX8_qSums_78 : decode cX8_qSums 78 = .ok (.aload_n 0, 1) := by decide +kernel
theorem dX8_qSums_79 : decode cX8_qSums 79 = .ok (.iload_n 1, 1) := by decide +kernel
theorem dX8_qSums_80 : decode cX8_qSums 80 = .ok (.putfield 346, 3) := by decide +kernel
theorem dX8_qSums_83 : decode cX8_qSums 83 = .ok (.return_, 1) := by decide +kernel
theorem dX8_qFact_0 : decode cX8_qFact 0 = .ok (.aload_n 0, 1) := by decide +kernel
theorem dX8_qFact_1 : decode cX8_qFact 1 = .ok (.aload_n 0, 1) := by decide +kernel
theorem dX8_qFact_2 : decode cX8_qFact 2 = .ok (.getfield 192, 3) := by decide +kernel
theorem dX8_qFact_5 : decode cX8_qFact 5 = .ok (.invokevirtual 276, 3) := by decide +kernel
theorem dX8_qFact_8 : decode cX8_qFact 8 = .ok (.ifCond .eq 10, 3) := by decide +kernel
theorem dX8_qFact_11 : decode cX8_qFact 11 = .ok (.aload_n 0, 1) := by decide +kernel
theorem dX8_qFact_12 : decode cX8_qFact 12 = .ok (.bipush 13, 2) := by decide +kernel
theorem dX8_qFact_14 : decode cX8_qFact 14 = .ok (.invokevirtual 583, 3) := by decide +kernel
theorem dX8_qFact_17 : decode cX8_qFact 17 = .ok (.return_, 1) := by decide +kernel
theorem dX8_qFact_18 : decode cX8_qFact 18 = .ok (.aload_n 0, 1) := by decide +kernel
theorem dX8_qFact_19 : decode cX8_qFact 19 = .ok (.invokevirtual 352, 3) := by decide +kernel
theorem dX8_qFact_22 : decode cX8_qFact 22 = .ok (.aload_n 0, 1) := by decide +kernel
theorem dX8_qFact_23 : decode cX8_qFact 23 = .ok (.getfield 249, 3) := by decide +kernel
theorem dX8_qFact_26 : decode cX8_qFact 26 = .ok (.ifCond .eq 4, 3) := by decide +kernel
theorem dX8_qFact_29 : decode cX8_qFact 29 = .ok (.return_, 1) := by decide +kernel
theorem dX8_qFact_30 : decode cX8_qFact 30 = .ok (.aload_n 0, 1) := by decide +kernel
theorem dX8_qFact_31 : decode cX8_qFact 31 = .ok (.invokevirtual 261, 3) := by decide +kernel
theorem dX8_qFact_34 : decode cX8_qFact 34 = .ok (.istore_n 1, 1) := by decide +kernel
theorem dX8_qFact_35 : decode cX8_qFact 35 = .ok (.iload_n 1, 1) := by decide +kernel
theorem dX8_qFact_36 : decode cX8_qFact 36 = .ok (.bipush 60, 2) := by decide +kernel
theorem dX8_qFact_38 : decode cX8_qFact 38 = .ok (.if_icmp .eq 25, 3) := by decide +kernel
theorem dX8_qFact_41 : decode cX8_qFact 41 = .ok (.iload_n 1, 1) := by decide +kernel
theorem dX8_qFact_42 : decode cX8_qFact 42 = .ok (.bipush 62, 2) := by decide +kernel
theorem dX8_qFact_44 : decode cX8_qFact 44 = .ok (.if_icmp .eq 19, 3) := by decide +kernel
theorem dX8_qFact_47 : decode cX8_qFact 47 = .ok (.iload_n 1, 1) := by decide +kernel
theorem dX8_qFact_48 : decode cX8_qFact 48 = .ok (.bipush 61, 2) := by decide +kernel
theorem dX8_qFact_50 : decode cX8_qFact 50 = .ok (.if_icmp .eq 13, 3) := by decide +kernel
theorem dX8_qFact_53 : decode cX8_qFact 53 = .ok (.aload_n 0, 1) := by decide +kernel
theorem dX8_qFact_54 : decode cX8_qFact 54 = .ok (.iconst 1, 1) := by decide +kernel
theorem dX8_qFact_55 : decode cX8_qFact 55 = .ok (.aload_n 0, 1) := by decide +kernel
theorem dX8_qFact_56 : decode cX8_qFact 56 = .ok (.getfield 255, 3) := by decide +kernel
theorem dX8_qFact_59 : decode cX8_qFact 59 = .ok (.invokevirtual 279, 3) := by decide +kernel
theorem dX8_qFact_62 : decode cX8_qFact 62 = .ok (.return_, 1) := by decide +kernel
theorem dX8_qFact_63 : decode cX8_qFact 63 = .ok (.aload_n 0, 1) := by decide +kernel
theorem dX8_qFact_64 : decode cX8_qFact 64 = .ok (.dup, 1) := by decide +kernel
theorem dX8_qFact_65 : decode cX8_qFact 65 = .ok (.getfield 255, 3) := by decide +kernel
theorem dX8_qFact_68 : decode cX8_qFact 68 = .ok (.iconst 1, 1) := by decide +kernel
theorem dX8_qFact_69 : decode cX8_qFact 69 = .ok (.iadd, 1) := by decide +kernel
theorem dX8_qFact_70 : decode cX8_qFact 70 = .ok (.putfield 255, 3) := by decide +kernel
theorem dX8_qFact_73 : decode cX8_qFact 73 = .ok (.aload_n 0, 1) := by decide +kernel
theorem dX8_qFact_74 : decode cX8_qFact 74 = .ok (.invokevirtual 352, 3) := by decide +kernel
theorem dX8_qFact_77 : decode cX8_qFact 77 = .ok (.aload_n 0, 1) := by decide +kernel
theorem dX8_qFact_78 : decode cX8_qFact 78 = .ok (.iload_n 1, 1) := by decide +kernel
theorem dX8_qFact_79 : decode cX8_qFact 79 = .ok (.bipush 60, 2) := by decide +kernel
theorem dX8_qFact_81 : decode cX8_qFact 81 = .ok (.if_icmp .ne 8, 3) := by decide +kernel
theorem dX8_qFact_84 : decode cX8_qFact 84 = .ok (.bipush 7, 2) := by decide +kernel
theorem dX8_qFact_86 : decode cX8_qFact 86 = .ok (.goto 16, 3) := by decide +kernel
theorem dX8_qFact_89 : decode cX8_qFact 89 = .ok (.iload_n 1, 1) := by decide +kernel
theorem dX8_qFact_90 : decode cX8_qFact 90 = .ok (.bipush 62, 2) := by decide +kernel
theorem dX8_qFact_92 : decode cX8_qFact 92 = .ok (.if_icmp .ne 8, 3) := by decide +kernel
theorem dX8_qFact_95 : decode cX8_qFact 95 = .ok (.bipush 8, 2) := by decide +kernel
theorem dX8_qFact_97 : decode cX8_qFact 97 = .ok (.goto 5, 3) := by decide +kernel
theorem dX8_qFact_100 : decode cX8_qFact 100 = .ok (.bipush 9, 2) := by decide +kernel
theorem dX8_qFact_102 : decode cX8_qFact 102 = .ok (.invokevirtual 583, 3) := by decide +kernel
theorem dX8_qFact_105 : decode cX8_qFact 105 = .ok (.return_, 1) := by decide +kernel
theorem dX8_qHasSquare_0 : decode cX8_qHasSquare 0 = .ok (.iconst 0, 1) := by decide +kernel
theorem dX8_qHasSquare_1 : decode cX8_qHasSquare 1 = .ok (.istore_n 1, 1) := by decide +kernel
theorem dX8_qHasSquare_2 : decode cX8_qHasSquare 2 = .ok (.iload_n 1, 1) := by decide +kernel
theorem dX8_qHasSquare_3 : decode cX8_qHasSquare 3 = .ok (.aload_n 0, 1) := by decide +kernel
theorem dX8_qHasSquare_4 : decode cX8_qHasSquare 4 = .ok (.getfield 340, 3) := by decide +kernel
theorem dX8_qHasSquare_7 : decode cX8_qHasSquare 7 = .ok (.if_icmp .ge 22, 3) := by decide +kernel
theorem dX8_qHasSquare_10 : decode cX8_qHasSquare 10 = .ok (.aload_n 0, 1) := by decide +kernel
theorem dX8_qHasSquare_11 : decode cX8_qHasSquare 11 = .ok (.getfield 237, 3) := by decide +kernel
theorem dX8_qHasSquare_14 : decode cX8_qHasSquare 14 = .ok (.iload_n 1, 1) := by decide +kernel
theorem dX8_qHasSquare_15 : decode cX8_qHasSquare 15 = .ok (.iaload, 1) := by decide +kernel
theorem dX8_qHasSquare_16 : decode cX8_qHasSquare 16 = .ok (.bipush 25, 2) := by decide +kernel
theorem dX8_qHasSquare_18 : decode cX8_qHasSquare 18 = .ok (.if_icmp .ne 5, 3) := by decide +kernel
theorem dX8_qHasSquare_21 : decode cX8_qHasSquare 21 = .ok (.iconst 1, 1) := by decide +kernel
theorem dX8_qHasSquare_22 : decode cX8_qHasSquare 22 = .ok (.ireturn, 1) := by decide +kernel
theorem dX8_qHasSquare_23 : decode cX8_qHasSquare 23 = .ok (.iinc 1 1, 3) := by decide +kernel
theorem dX8_qHasSquare_26 : decode cX8_qHasSquare 26 = .ok (.goto (-24), 3) := by decide +kernel
theorem dX8_qHasSquare_29 : decode cX8_qHasSquare 29 = .ok (.iconst 0, 1) := by decide +kernel
theorem dX8_qHasSquare_30 : decode cX8_qHasSquare 30 = .ok (.ireturn, 1) := by decide +kernel
theorem dX8_qDropsNots_0 : decode cX8_qDropsNots 0 = .ok (.aload_n 0, 1) := by decide +kernel
theorem dX8_qDropsNots_1 : decode cX8_qDropsNots 1 = .ok (.getfield 249, 3) := by decide +kernel
theorem dX8_qDropsNots_4 : decode cX8_qDropsNots 4 = .ok (.ifCond .ne 29, 3) := by decide +kernel
theorem dX8_qDropsNots_7 : decode cX8_qDropsNots 7 = .ok (.aload_n 0, 1) := by decide +kernel
theorem dX8_qDropsNots_8 : decode cX8_qDropsNots 8 = .ok (.bipush 12, 2) := by decide +kernel
theorem dX8_qDropsNots_10 : decode cX8_qDropsNots 10 = .ok (.invokevirtual 616, 3) := by decide +kernel
theorem dX8_qDropsNots_13 : decode cX8_qDropsNots 13 = .ok (.ifCond .eq 20, 3) := by decide +kernel
theorem dX8_qDropsNots_16 : decode cX8_qDropsNots 16 = .ok (.aload_n 0, 1) := by decide +kernel
theorem dX8_qDropsNots_17 : decode cX8_qDropsNots 17 = .ok (.dup, 1) := by decide +kernel
theorem dX8_qDropsNots_18 : decode cX8_qDropsNots 18 = .ok (.getfield 343, 3) := by decide +kernel
theorem dX8_qDropsNots_21 : decode cX8_qDropsNots 21 = .ok (.iconst 1, 1) := by decide +kernel
theorem dX8_qDropsNots_22 : decode cX8_qDropsNots 22 = .ok (.isub, 1) := by decide +kernel
theorem dX8_qDropsNots_23 : decode cX8_qDropsNots 23 = .ok (.putfield 343, 3) := by decide +kernel
theorem dX8_qDropsNots_26 : decode cX8_qDropsNots 26 = .ok (.aload_n 0, 1) := by decide +kernel
theorem dX8_qDropsNots_27 : decode cX8_qDropsNots 27 = .ok (.invokevirtual 589, 3) := by decide +kernel
theorem dX8_qDropsNots_30 : decode cX8_qDropsNots 30 = .ok (.goto (-30), 3) := by decide +kernel
theorem dX8_qDropsNots_33 : decode cX8_qDropsNots 33 = .ok (.return_, 1) := by decide +kernel
theorem dX8_qTest_0 : decode cX8_qTest 0 = .ok (.iconst 1, 1) := by decide +kernel
theorem dX8_qTest_1 : decode cX8_qTest 1 = .ok (.istore_n 1, 1) := by decide +kernel
theorem dX8_qTest_2 : decode cX8_qTest 2 = .ok (.iload_n 1, 1) := by decide +kernel
theorem dX8_qTest_3 : decode cX8_qTest 3 = .ok (.ifCond .eq 107, 3) := by decide +kernel
theorem dX8_qTest_6 : decode cX8_qTest 6 = .ok (.aload_n 0, 1) := by decide +kernel
theorem dX8_qTest_7 : decode cX8_qTest 7 = .ok (.getfield 249, 3) := by decide +kernel
theorem dX8_qTest_10 : decode cX8_qTest 10 = .ok (.ifCond .ne 100, 3) := by decide +kernel
theorem dX8_qTest_13 : decode cX8_qTest 13 = .ok (.aload_n 0, 1) := by decide +kernel
theorem dX8_qTest_14 : decode cX8_qTest 14 = .ok (.invokevirtual 261, 3) := by decide +kernel
theorem dX8_qTest_17 : decode cX8_qTest 17 = .ok (.istore_n 2, 1) := by decide +kernel
theorem dX8_qTest_18 : decode cX8_qTest 18 = .ok (.iload_n 2, 1) := by decide +kernel
theorem dX8_qTest_19 : decode cX8_qTest 19 = .ok (.bipush 91, 2) := by decide +kernel
theorem dX8_qTest_21 : decode cX8_qTest 21 = .ok (.if_icmp .ne 26, 3) := by decide +kernel
theorem dX8_qTest_24 : decode cX8_qTest 24 = .ok (.aload_n 0, 1) := by decide +kernel
theorem dX8_qTest_25 : decode cX8_qTest 25 = .ok (.bipush 25, 2) := by decide +kernel
theorem dX8_qTest_27 : decode cX8_qTest 27 = .ok (.aload_n 0, 1) := by decide +kernel
theorem dX8_qTest_28 : decode cX8_qTest 28 = .ok (.getfield 255, 3) := by decide +kernel
theorem dX8_qTest_31 : decode cX8_qTest 31 = .ok (.invokevirtual 601, 3) := by decide +kernel
theorem dX8_qTest_34 : decode cX8_qTest 34 = .ok (.aload_n 0, 1) := by decide +kernel
theorem dX8_qTest_35 : decode cX8_qTest 35 = .ok (.dup, 1) := by decide +kernel
theorem dX8_qTest_36 : decode cX8_qTest 36 = .ok (.getfield 255, 3) := by decide +kernel
theorem dX8_qTest_39 : decode cX8_qTest 39 = .ok (.iconst 1, 1) := by decide +kernel
theorem dX8_qTest_40 : decode cX8_qTest 40 = .ok (.iadd, 1) := by decide +kernel
theorem dX8_qTest_41 : decode cX8_qTest 41 = .ok (.putfield 255, 3) := by decide +kernel
theorem dX8_qTest_44 : decode cX8_qTest 44 = .ok (.goto (-42), 3) := by decide +kernel
theorem dX8_qTest_47 : decode cX8_qTest 47 = .ok (.aload_n 0, 1) := by decide +kernel
theorem dX8_qTest_48 : decode cX8_qTest 48 = .ok (.aload_n 0, 1) := by decide +kernel
theorem dX8_qTest_49 : decode cX8_qTest 49 = .ok (.getfield 183, 3) := by decide +kernel
theorem dX8_qTest_52 : decode cX8_qTest 52 = .ok (.invokevirtual 272, 3) := by decide +kernel
theorem dX8_qTest_55 : decode cX8_qTest 55 = .ok (.ifCond .eq 24, 3) := by decide +kernel
theorem dX8_qTest_58 : decode cX8_qTest 58 = .ok (.aload_n 0, 1) := by decide +kernel
theorem dX8_qTest_59 : decode cX8_qTest 59 = .ok (.bipush 12, 2) := by decide +kernel
theorem dX8_qTest_61 : decode cX8_qTest 61 = .ok (.aload_n 0, 1) := by decide +kernel
theorem dX8_qTest_62 : decode cX8_qTest 62 = .ok (.getfield 255, 3) := by decide +kernel
theorem dX8_qTest_65 : decode cX8_qTest 65 = .ok (.invokevirtual 601, 3) := by decide +kernel
theorem dX8_qTest_68 : decode cX8_qTest 68 = .ok (.aload_n 0, 1) := by decide +kernel
theorem dX8_qTest_69 : decode cX8_qTest 69 = .ok (.aload_n 0, 1) := by decide +kernel
theorem dX8_qTest_70 : decode cX8_qTest 70 = .ok (.getfield 183, 3) := by decide +kernel
theorem dX8_qTest_73 : decode cX8_qTest 73 = .ok (.invokevirtual 311, 3) := by decide +kernel
theorem dX8_qTest_76 : decode cX8_qTest 76 = .ok (.goto (-74), 3) := by decide +kernel
theorem dX8_qTest_79 : decode cX8_qTest 79 = .ok (.aload_n 0, 1) := by decide +kernel
theorem dX8_qTest_80 : decode cX8_qTest 80 = .ok (.invokevirtual 625, 3) := by decide +kernel
theorem dX8_qTest_83 : decode cX8_qTest 83 = .ok (.aload_n 0, 1) := by decide +kernel
theorem dX8_qTest_84 : decode cX8_qTest 84 = .ok (.invokevirtual 628, 3) := by decide +kernel
theorem dX8_qTest_87 : decode cX8_qTest 87 = .ok (.aload_n 0, 1) := by decide +kernel
theorem dX8_qTest_88 : decode cX8_qTest 88 = .ok (.getfield 249, 3) := by decide +kernel
theorem dX8_qTest_91 : decode cX8_qTest 91 = .ok (.ifCond .ne 14, 3) := by decide +kernel
theorem dX8_qTest_94 : decode cX8_qTest 94 = .ok (.aload_n 0, 1) := by decide +kernel
theorem dX8_qTest_95 : decode cX8_qTest 95 = .ok (.invokevirtual 631, 3) := by decide +kernel
theorem dX8_qTest_98 : decode cX8_qTest 98 = .ok (.ifCond .eq 7, 3) := by decide +kernel
theorem dX8_qTest_101 : decode cX8_qTest 101 = .ok (.iconst 1, 1) := by decide +kernel
theorem dX8_qTest_102 : decode cX8_qTest 102 = .ok (.goto 4, 3) := by decide +kernel
theorem dX8_qTest_105 : decode cX8_qTest 105 = .ok (.iconst 0, 1) := by decide +kernel
theorem dX8_qTest_106 : decode cX8_qTest 106 = .ok (.istore_n 1, 1) := by decide +kernel
theorem dX8_qTest_107 : decode cX8_qTest 107 = .ok (.goto (-105), 3) := by decide +kernel
theorem dX8_qTest_110 : decode cX8_qTest 110 = .ok (.aload_n 0, 1) := by decide +kernel
theorem dX8_qTest_111 : decode cX8_qTest 111 = .ok (.getfield 249, 3) := by decide +kernel
theorem dX8_qTest_114 : decode cX8_qTest 114 = .ok (.ifCond .ne 17, 3) := by decide +kernel
theorem dX8_qTest_117 : decode cX8_qTest 117 = .ok (.aload_n 0, 1) := by decide +kernel
theorem dX8_qTest_118 : decode cX8_qTest 118 = .ok (.getfield 340, 3) := by decide +kernel
theorem dX8_qTest_121 : decode cX8_qTest 121 = .ok (.ifCond .le 10, 3) := by decide +kernel
theorem dX8_qTest_124 : decode cX8_qTest 124 = .ok (.aload_n 0, 1) := by decide +kernel
theorem dX8_qTest_125 : decode cX8_qTest 125 = .ok (.invokevirtual 589, 3) := by decide +kernel
theorem dX8_qTest_128 : decode cX8_qTest 128 = .ok (.goto (-18), 3) := by decide +kernel
theorem dX8_qTest_131 : decode cX8_qTest 131 = .ok (.return_, 1) := by decide +kernel
theorem dX8_qGoesOnTest_0 : decode cX8_qGoesOnTest 0 = .ok (.aload_n 0, 1) := by decide +kernel
theorem dX8_qGoesOnTest_1 : decode cX8_qGoesOnTest 1 = .ok (.getfield 249, 3) := by decide +kernel
theorem dX8_qGoesOnTest_4 : decode cX8_qGoesOnTest 4 = .ok (.ifCond .ne 72, 3) := by decide +kernel
theorem dX8_qGoesOnTest_7 : decode cX8_qGoesOnTest 7 = .ok (.aload_n 0, 1) := by decide +kernel
theorem dX8_qGoesOnTest_8 : decode cX8_qGoesOnTest 8 = .ok (.invokevirtual 261, 3) := by decide +kernel
theorem dX8_qGoesOnTest_11 : decode cX8_qGoesOnTest 11 = .ok (.bipush 93, 2) := by decide +kernel
theorem dX8_qGoesOnTest_13 : decode cX8_qGoesOnTest 13 = .ok (.if_icmp .ne 63, 3) := by decide +kernel
theorem dX8_qGoesOnTest_16 : decode cX8_qGoesOnTest 16 = .ok (.aload_n 0, 1) := by decide +kernel
theorem dX8_qGoesOnTest_17 : decode cX8_qGoesOnTest 17 = .ok (.invokevirtual 634, 3) := by decide +kernel
theorem dX8_qGoesOnTest_20 : decode cX8_qGoesOnTest 20 = .ok (.ifCond .eq 56, 3) := by decide +kernel
theorem dX8_qGoesOnTest_23 : decode cX8_qGoesOnTest 23 = .ok (.aload_n 0, 1) := by decide +kernel
theorem dX8_qGoesOnTest_24 : decode cX8_qGoesOnTest 24 = .ok (.dup, 1) := by decide +kernel
theorem dX8_qGoesOnTest_25 : decode cX8_qGoesOnTest 25 = .ok (.getfield 255, 3) := by decide +kernel
theorem dX8_qGoesOnTest_28 : decode cX8_qGoesOnTest 28 = .ok (.iconst 1, 1) := by decide +kernel
theorem dX8_qGoesOnTest_29 : decode cX8_qGoesOnTest 29 = .ok (.iadd, 1) := by decide +kernel
theorem dX8_qGoesOnTest_30 : decode cX8_qGoesOnTest 30 = .ok (.putfield 255, 3) := by decide +kernel
theorem dX8_qGoesOnTest_33 : decode cX8_qGoesOnTest 33 = .ok (.aload_n 0, 1) := by decide +kernel
theorem dX8_qGoesOnTest_34 : decode cX8_qGoesOnTest 34 = .ok (.bipush 25, 2) := by decide +kernel
theorem dX8_qGoesOnTest_36 : decode cX8_qGoesOnTest 36 = .ok (.invokevirtual 616, 3) := by decide +kernel
theorem dX8_qGoesOnTest_39 : decode cX8_qGoesOnTest 39 = .ok (.ifCond .ne 10, 3) := by decide +kernel
theorem dX8_qGoesOnTest_42 : decode cX8_qGoesOnTest 42 = .ok (.aload_n 0, 1) := by decide +kernel
theorem dX8_qGoesOnTest_43 : decode cX8_qGoesOnTest 43 = .ok (.invokevirtual 589, 3) := by decide +kernel
theorem dX8_qGoesOnTest_46 : decode cX8_qGoesOnTest 46 = .ok (.goto (-13), 3) := by decide +kernel
theorem dX8_qGoesOnTest_49 : decode cX8_qGoesOnTest 49 = .ok (.aload_n 0, 1) := by decide +kernel
theorem dX8_qGoesOnTest_50 : decode cX8_qGoesOnTest 50 = .ok (.dup, 1) := by decide +kernel
theorem dX8_qGoesOnTest_51 : decode cX8_qGoesOnTest 51 = .ok (.getfield 340, 3) := by decide +kernel
theorem dX8_qGoesOnTest_54 : decode cX8_qGoesOnTest 54 = .ok (.iconst 1, 1) := by decide +kernel
theorem dX8_qGoesOnTest_55 : decode cX8_qGoesOnTest 55 = .ok (.isub, 1) := by decide +kernel
theorem dX8_qGoesOnTest_56 : decode cX8_qGoesOnTest 56 = .ok (.putfield 340, 3) := by decide +kernel
theorem dX8_qGoesOnTest_59 : decode cX8_qGoesOnTest 59 = .ok (.aload_n 0, 1) := by decide +kernel
theorem dX8_qGoesOnTest_60 : decode cX8_qGoesOnTest 60 = .ok (.dup, 1) := by decide +kernel
theorem dX8_qGoesOnTest_61 : decode cX8_qGoesOnTest 61 = .ok (.getfield 343, 3) := by decide +kernel
theorem dX8_qGoesOnTest_64 : decode cX8_qGoesOnTest 64 = .ok (.iconst 1, 1) := by decide +kernel
theorem dX8_qGoesOnTest_65 : decode cX8_qGoesOnTest 65 = .ok (.isub, 1) := by decide +kernel
theorem dX8_qGoesOnTest_66 : decode cX8_qGoesOnTest 66 = .ok (.putfield 343, 3) := by decide +kernel
theorem dX8_qGoesOnTest_69 : decode cX8_qGoesOnTest 69 = .ok (.aload_n 0, 1) := by decide +kernel
theorem dX8_qGoesOnTest_70 : decode cX8_qGoesOnTest 70 = .ok (.invokevirtual 628, 3) := by decide +kernel
theorem dX8_qGoesOnTest_73 : decode cX8_qGoesOnTest 73 = .ok (.goto (-73), 3) := by decide +kernel
theorem dX8_qGoesOnTest_76 : decode cX8_qGoesOnTest 76 = .ok (.aload_n 0, 1) := by decide +kernel
theorem dX8_qGoesOnTest_77 : decode cX8_qGoesOnTest 77 = .ok (.aload_n 0, 1) := by decide +kernel
theorem dX8_qGoesOnTest_78 : decode cX8_qGoesOnTest 78 = .ok (.getfield 186, 3) := by decide +kernel
theorem dX8_qGoesOnTest_81 : decode cX8_qGoesOnTest 81 = .ok (.invokevirtual 276, 3) := by decide +kernel
theorem dX8_qGoesOnTest_84 : decode cX8_qGoesOnTest 84 = .ok (.ifCond .eq 42, 3) := by decide +kernel
theorem dX8_qGoesOnTest_87 : decode cX8_qGoesOnTest 87 = .ok (.aload_n 0, 1) := by decide +kernel
theorem dX8_qGoesOnTest_88 : decode cX8_qGoesOnTest 88 = .ok (.bipush 10, 2) := by decide +kernel
theorem dX8_qGoesOnTest_90 : decode cX8_qGoesOnTest 90 = .ok (.invokevirtual 616, 3) := by decide +kernel
theorem dX8_qGoesOnTest_93 : decode cX8_qGoesOnTest 93 = .ok (.ifCond .eq 10, 3) := by decide +kernel
theorem dX8_qGoesOnTest_96 : decode cX8_qGoesOnTest 96 = .ok (.aload_n 0, 1) := by decide +kernel
theorem dX8_qGoesOnTest_97 : decode cX8_qGoesOnTest 97 = .ok (.invokevirtual 589, 3) := by decide +kernel
theorem dX8_qGoesOnTest_100 : decode cX8_qGoesOnTest 100 = .ok (.goto (-13), 3) := by decide +kernel
theorem dX8_qGoesOnTest_103 : decode cX8_qGoesOnTest 103 = .ok (.aload_n 0, 1) := by decide +kernel
theorem dX8_qGoesOnTest_104 : decode cX8_qGoesOnTest 104 = .ok (.getfield 237, 3) := by decide +kernel
theorem dX8_qGoesOnTest_107 : decode cX8_qGoesOnTest 107 = .ok (.aload_n 0, 1) := by decide +kernel
theorem dX8_qGoesOnTest_108 : decode cX8_qGoesOnTest 108 = .ok (.getfield 340, 3) := by decide +kernel
theorem dX8_qGoesOnTest_111 : decode cX8_qGoesOnTest 111 = .ok (.bipush 10, 2) := by decide +kernel
theorem dX8_qGoesOnTest_113 : decode cX8_qGoesOnTest 113 = .ok (.iastore, 1) := by decide +kernel
theorem dX8_qGoesOnTest_114 : decode cX8_qGoesOnTest 114 = .ok (.aload_n 0, 1) := by decide +kernel
theorem dX8_qGoesOnTest_115 : decode cX8_qGoesOnTest 115 = .ok (.dup, 1) := by decide +kernel
theorem dX8_qGoesOnTest_116 : decode cX8_qGoesOnTest 116 = .ok (.getfield 340, 3) := by decide +kernel
theorem dX8_qGoesOnTest_119 : decode cX8_qGoesOnTest 119 = .ok (.iconst 1, 1) := by decide +kernel
theorem dX8_qGoesOnTest_120 : decode cX8_qGoesOnTest 120 = .ok (.iadd, 1) := by decide +kernel
theorem dX8_qGoesOnTest_121 : decode cX8_qGoesOnTest 121 = .ok (.putfield 340, 3) := by decide +kernel
theorem dX8_qGoesOnTest_124 : decode cX8_qGoesOnTest 124 = .ok (.iconst 1, 1) := by decide +kernel
theorem dX8_qGoesOnTest_125 : decode cX8_qGoesOnTest 125 = .ok (.ireturn, 1) := by decide +kernel
theorem dX8_qGoesOnTest_126 : decode cX8_qGoesOnTest 126 = .ok (.aload_n 0, 1) := by decide +kernel
theorem dX8_qGoesOnTest_127 : decode cX8_qGoesOnTest 127 = .ok (.aload_n 0, 1) := by decide +kernel
theorem dX8_qGoesOnTest_128 : decode cX8_qGoesOnTest 128 = .ok (.getfield 189, 3) := by decide +kernel
theorem dX8_qGoesOnTest_131 : decode cX8_qGoesOnTest 131 = .ok (.invokevirtual 276, 3) := by decide +kernel
theorem dX8_qGoesOnTest_134 : decode cX8_qGoesOnTest 134 = .ok (.ifCond .eq 51, 3) := by decide +kernel
theorem dX8_qGoesOnTest_137 : decode cX8_qGoesOnTest 137 = .ok (.aload_n 0, 1) := by decide +kernel
theorem dX8_qGoesOnTest_138 : decode cX8_qGoesOnTest 138 = .ok (.bipush 10, 2) := by decide +kernel
theorem dX8_qGoesOnTest_140 : decode cX8_qGoesOnTest 140 = .ok (.invokevirtual 616, 3) := by decide +kernel
theorem dX8_qGoesOnTest_143 : decode cX8_qGoesOnTest 143 = .ok (.ifCond .ne 12, 3) := by decide +kernel
theorem dX8_qGoesOnTest_146 : decode cX8_qGoesOnTest 146 = .ok (.aload_n 0, 1) := by decide +kernel
theorem dX8_qGoesOnTest_147 : decode cX8_qGoesOnTest 147 = .ok (.bipush 11, 2) := by decide +kernel
theorem dX8_qGoesOnTest_149 : decode cX8_qGoesOnTest 149 = .ok (.invokevirtual 616, 3) := by decide +kernel
theorem dX8_qGoesOnTest_152 : decode cX8_qGoesOnTest 152 = .ok (.ifCond .eq 10, 3) := by decide +kernel
theorem dX8_qGoesOnTest_155 : decode cX8_qGoesOnTest 155 = .ok (.aload_n 0, 1) := by decide +kernel
theorem dX8_qGoesOnTest_156 : decode cX8_qGoesOnTest 156 = .ok (.invokevirtual 589, 3) := by decide +kernel
theorem dX8_qGoesOnTest_159 : decode cX8_qGoesOnTest 159 = .ok (.goto (-22), 3) := by decide +kernel
theorem dX8_qGoesOnTest_162 : decode cX8_qGoesOnTest 162 = .ok (.aload_n 0, 1) := by decide +kernel
theorem dX8_qGoesOnTest_163 : decode cX8_qGoesOnTest 163 = .ok (.getfield 237, 3) := by decide +kernel
theorem dX8_qGoesOnTest_166 : decode cX8_qGoesOnTest 166 = .ok (.aload_n 0, 1) := by decide +kernel
theorem dX8_qGoesOnTest_167 : decode cX8_qGoesOnTest 167 = .ok (.getfield 340, 3) := by decide +kernel
theorem dX8_qGoesOnTest_170 : decode cX8_qGoesOnTest 170 = .ok (.bipush 11, 2) := by decide +kernel
theorem dX8_qGoesOnTest_172 : decode cX8_qGoesOnTest 172 = .ok (.iastore, 1) := by decide +kernel
theorem dX8_qGoesOnTest_173 : decode cX8_qGoesOnTest 173 = .ok (.aload_n 0, 1) := by decide +kernel
theorem dX8_qGoesOnTest_174 : decode cX8_qGoesOnTest 174 = .ok (.dup, 1) := by decide +kernel
theorem dX8_qGoesOnTest_175 : decode cX8_qGoesOnTest 175 = .ok (.getfield 340, 3) := by decide +kernel
theorem dX8_qGoesOnTest_178 : decode cX8_qGoesOnTest 178 = .ok (.iconst 1, 1) := by decide +kernel
theorem dX8_qGoesOnTest_179 : decode cX8_qGoesOnTest 179 = .ok (.iadd, 1) := by decide +kernel
theorem dX8_qGoesOnTest_180 : decode cX8_qGoesOnTest 180 = .ok (.putfield 340, 3) := by decide +kernel
theorem dX8_qGoesOnTest_183 : decode cX8_qGoesOnTest 183 = .ok (.iconst 1, 1) := by decide +kernel
theorem dX8_qGoesOnTest_184 : decode cX8_qGoesOnTest 184 = .ok (.ireturn, 1) := by decide +kernel
theorem dX8_qGoesOnTest_185 : decode cX8_qGoesOnTest 185 = .ok (.aload_n 0, 1) := by decide +kernel
theorem dX8_qGoesOnTest_186 : decode cX8_qGoesOnTest 186 = .ok (.getfield 249, 3) := by decide +kernel
theorem dX8_qGoesOnTest_189 : decode cX8_qGoesOnTest 189 = .ok (.ifCond .ne 19, 3) := by decide +kernel
theorem dX8_qGoesOnTest_192 : decode cX8_qGoesOnTest 192 = .ok (.aload_n 0, 1) := by decide +kernel
theorem dX8_qGoesOnTest_193 : decode cX8_qGoesOnTest 193 = .ok (.invokevirtual 634, 3) := by decide +kernel
theorem dX8_qGoesOnTest_196 : decode cX8_qGoesOnTest 196 = .ok (.ifCond .eq 12, 3) := by decide +kernel
theorem dX8_qGoesOnTest_199 : decode cX8_qGoesOnTest 199 = .ok (.aload_n 0, 1) := by decide +kernel
theorem dX8_qGoesOnTest_200 : decode cX8_qGoesOnTest 200 = .ok (.iconst 1, 1) := by decide +kernel
theorem dX8_qGoesOnTest_201 : decode cX8_qGoesOnTest 201 = .ok (.aload_n 0, 1) := by decide +kernel
theorem dX8_qGoesOnTest_202 : decode cX8_qGoesOnTest 202 = .ok (.getfield 255, 3) := by decide +kernel
theorem dX8_qGoesOnTest_205 : decode cX8_qGoesOnTest 205 = .ok (.invokevirtual 279, 3) := by decide +kernel
theorem dX8_qGoesOnTest_208 : decode cX8_qGoesOnTest 208 = .ok (.iconst 0, 1) := by decide +kernel
theorem dX8_qGoesOnTest_209 : decode cX8_qGoesOnTest 209 = .ok (.ireturn, 1) := by decide +kernel
theorem dX8_qClip_0 : decode cX8_qClip 0 = .ok (.lload_n 0, 1) := by decide +kernel
theorem dX8_qClip_1 : decode cX8_qClip 1 = .ok (.ldc2_w 637, 3) := by decide +kernel
theorem dX8_qClip_4 : decode cX8_qClip 4 = .ok (.lcmp, 1) := by decide +kernel
theorem dX8_qClip_5 : decode cX8_qClip 5 = .ok (.ifCond .le 9, 3) := by decide +kernel
theorem dX8_qClip_8 : decode cX8_qClip 8 = .ok (.ldc2_w 637, 3) := by decide +kernel
theorem dX8_qClip_11 : decode cX8_qClip 11 = .ok (.goto 18, 3) := by decide +kernel
theorem dX8_qClip_14 : decode cX8_qClip 14 = .ok (.lload_n 0, 1) := by decide +kernel
theorem dX8_qClip_15 : decode cX8_qClip 15 = .ok (.ldc2_w 639, 3) := by decide +kernel
theorem dX8_qClip_18 : decode cX8_qClip 18 = .ok (.lcmp, 1) := by decide +kernel
theorem dX8_qClip_19 : decode cX8_qClip 19 = .ok (.ifCond .ge 9, 3) := by decide +kernel
theorem dX8_qClip_22 : decode cX8_qClip 22 = .ok (.ldc2_w 639, 3) := by decide +kernel
theorem dX8_qClip_25 : decode cX8_qClip 25 = .ok (.goto 4, 3) := by decide +kernel
theorem dX8_qClip_28 : decode cX8_qClip 28 = .ok (.lload_n 0, 1) := by decide +kernel
theorem dX8_qClip_29 : decode cX8_qClip 29 = .ok (.lreturn, 1) := by decide +kernel
theorem dX8_qFloor_0 : decode cX8_qFloor 0 = .ok (.lload_n 2, 1) := by decide +kernel
theorem dX8_qFloor_1 : decode cX8_qFloor 1 = .ok (.lconst 0, 1) := by decide +kernel
theorem dX8_qFloor_2 : decode cX8_qFloor 2 = .ok (.lcmp, 1) := by decide +kernel
theorem dX8_qFloor_3 : decode cX8_qFloor 3 = .ok (.ifCond .ne 5, 3) := by decide +kernel
theorem dX8_qFloor_6 : decode cX8_qFloor 6 = .ok (.lconst 0, 1) := by decide +kernel
theorem dX8_qFloor_7 : decode cX8_qFloor 7 = .ok (.lreturn, 1) := by decide +kernel
theorem dX8_qFloor_8 : decode cX8_qFloor 8 = .ok (.lload_n 0, 1) := by decide +kernel
theorem dX8_qFloor_9 : decode cX8_qFloor 9 = .ok (.lload_n 2, 1) := by decide +kernel
theorem dX8_qFloor_10 : decode cX8_qFloor 10 = .ok (.ldiv, 1) := by decide +kernel
theorem dX8_qFloor_11 : decode cX8_qFloor 11 = .ok (.lstore 4, 2) := by decide +kernel
theorem dX8_qFloor_13 : decode cX8_qFloor 13 = .ok (.lload_n 0, 1) := by decide +kernel
theorem dX8_qFloor_14 : decode cX8_qFloor 14 = .ok (.lload_n 2, 1) := by decide +kernel
theorem dX8_qFloor_15 : decode cX8_qFloor 15 = .ok (.lrem, 1) := by decide +kernel
theorem dX8_qFloor_16 : decode cX8_qFloor 16 = .ok (.lconst 0, 1) := by decide +kernel
theorem dX8_qFloor_17 : decode cX8_qFloor 17 = .ok (.lcmp, 1) := by decide +kernel
theorem dX8_qFloor_18 : decode cX8_qFloor 18 = .ok (.ifCond .eq 35, 3) := by decide +kernel
theorem dX8_qFloor_21 : decode cX8_qFloor 21 = .ok (.lload_n 0, 1) := by decide +kernel
theorem dX8_qFloor_22 : decode cX8_qFloor 22 = .ok (.lconst 0, 1) := by decide +kernel
theorem dX8_qFloor_23 : decode cX8_qFloor 23 = .ok (.lcmp, 1) := by decide +kernel
theorem dX8_qFloor_24 : decode cX8_qFloor 24 = .ok (.ifCond .ge 7, 3) := by decide +kernel
theorem dX8_qFloor_27 : decode cX8_qFloor 27 = .ok (.iconst 1, 1) := by decide +kernel
theorem dX8_qFloor_28 : decode cX8_qFloor 28 = .ok (.goto 4, 3) := by decide +kernel
theorem dX8_qFloor_31 : decode cX8_qFloor 31 = .ok (.iconst 0, 1) := by decide +kernel
theorem dX8_qFloor_32 : decode cX8_qFloor 32 = .ok (.lload_n 2, 1) := by decide +kernel
theorem dX8_qFloor_33 : decode cX8_qFloor 33 = .ok (.lconst 0, 1) := by decide +kernel
theorem dX8_qFloor_34 : decode cX8_qFloor 34 = .ok (.lcmp, 1) := by decide +kernel
theorem dX8_qFloor_35 : decode cX8_qFloor 35 = .ok (.ifCond .ge 7, 3) := by decide +kernel
theorem dX8_qFloor_38 : decode cX8_qFloor 38 = .ok (.iconst 1, 1) := by decide +kernel
theorem dX8_qFloor_39 : decode cX8_qFloor 39 = .ok (.goto 4, 3) := by decide +kernel
theorem dX8_qFloor_42 : decode cX8_qFloor 42 = .ok (.iconst 0, 1) := by decide +kernel
theorem dX8_qFloor_43 : decode cX8_qFloor 43 = .ok (.if_icmp .eq 10, 3) := by decide +kernel
theorem dX8_qFloor_46 : decode cX8_qFloor 46 = .ok (.lload 4, 2) := by decide +kernel
theorem dX8_qFloor_48 : decode cX8_qFloor 48 = .ok (.lconst 1, 1) := by decide +kernel
theorem dX8_qFloor_49 : decode cX8_qFloor 49 = .ok (.lsub, 1) := by decide +kernel
theorem dX8_qFloor_50 : decode cX8_qFloor 50 = .ok (.goto 5, 3) := by decide +kernel
theorem dX8_qFloor_53 : decode cX8_qFloor 53 = .ok (.lload 4, 2) := by decide +kernel
theorem dX8_qFloor_55 : decode cX8_qFloor 55 = .ok (.lreturn, 1) := by decide +kernel
theorem dX8_qPuts_0 : decode cX8_qPuts 0 = .ok (.aload_n 0, 1) := by decide +kernel
theorem dX8_qPuts_1 : decode cX8_qPuts 1 = .ok (.getfield 240, 3) := by decide +kernel
theorem dX8_qPuts_4 : decode cX8_qPuts 4 = .ok (.aload_n 0, 1) := by decide +kernel
theorem dX8_qPuts_5 : decode cX8_qPuts 5 = .ok (.getfield 411, 3) := by decide +kernel
theorem dX8_qPuts_8 : decode cX8_qPuts 8 = .ok (.lload_n 1, 1) := by decide +kernel
theorem dX8_qPuts_9 : decode cX8_qPuts 9 = .ok (.lastore, 1) := by decide +kernel
theorem dX8_qPuts_10 : decode cX8_qPuts 10 = .ok (.aload_n 0, 1) := by decide +kernel
theorem dX8_qPuts_11 : decode cX8_qPuts 11 = .ok (.dup, 1) := by decide +kernel
theorem dX8_qPuts_12 : decode cX8_qPuts 12 = .ok (.getfield 411, 3) := by decide +kernel
theorem dX8_qPuts_15 : decode cX8_qPuts 15 = .ok (.iconst 1, 1) := by decide +kernel
theorem dX8_qPuts_16 : decode cX8_qPuts 16 = .ok (.iadd, 1) := by decide +kernel
theorem dX8_qPuts_17 : decode cX8_qPuts 17 = .ok (.putfield 411, 3) := by decide +kernel
theorem dX8_qPuts_20 : decode cX8_qPuts 20 = .ok (.return_, 1) := by decide +kernel
theorem dX8_qJoins_0 : decode cX8_qJoins 0 = .ok (.aload_n 0, 1) := by decide +kernel
theorem dX8_qJoins_1 : decode cX8_qJoins 1 = .ok (.getfield 240, 3) := by decide +kernel
theorem dX8_qJoins_4 : decode cX8_qJoins 4 = .ok (.aload_n 0, 1) := by decide +kernel
theorem dX8_qJoins_5 : decode cX8_qJoins 5 = .ok (.getfield 411, 3) := by decide +kernel
theorem dX8_qJoins_8 : decode cX8_qJoins 8 = .ok (.iconst 1, 1) := by decide +kernel
theorem dX8_qJoins_9 : decode cX8_qJoins 9 = .ok (.isub, 1) := by decide +kernel
theorem dX8_qJoins_10 : decode cX8_qJoins 10 = .ok (.laload, 1) := by decide +kernel
theorem dX8_qJoins_11 : decode cX8_qJoins 11 = .ok (.lstore_n 2, 1) := by decide +kernel
theorem dX8_qJoins_12 : decode cX8_qJoins 12 = .ok (.aload_n 0, 1) := by decide +kernel
theorem dX8_qJoins_13 : decode cX8_qJoins 13 = .ok (.getfield 240, 3) := by decide +kernel
theorem dX8_qJoins_16 : decode cX8_qJoins 16 = .ok (.aload_n 0, 1) := by decide +kernel
theorem dX8_qJoins_17 : decode cX8_qJoins 17 = .ok (.getfield 411, 3) := by decide +kernel
theorem dX8_qJoins_20 : decode cX8_qJoins 20 = .ok (.iconst 2, 1) := by decide +kernel
theorem dX8_qJoins_21 : decode cX8_qJoins 21 = .ok (.isub, 1) := by decide +kernel
theorem dX8_qJoins_22 : decode cX8_qJoins 22 = .ok (.laload, 1) := by decide +kernel
theorem dX8_qJoins_23 : decode cX8_qJoins 23 = .ok (.lstore 4, 2) := by decide +kernel
theorem dX8_qJoins_25 : decode cX8_qJoins 25 = .ok (.aload_n 0, 1) := by decide +kernel
theorem dX8_qJoins_26 : decode cX8_qJoins 26 = .ok (.dup, 1) := by decide +kernel
theorem dX8_qJoins_27 : decode cX8_qJoins 27 = .ok (.getfield 411, 3) := by decide +kernel
theorem dX8_qJoins_30 : decode cX8_qJoins 30 = .ok (.iconst 2, 1) := by decide +kernel
theorem dX8_qJoins_31 : decode cX8_qJoins 31 = .ok (.isub, 1) := by decide +kernel
theorem dX8_qJoins_32 : decode cX8_qJoins 32 = .ok (.putfield 411, 3) := by decide +kernel
theorem dX8_qJoins_35 : decode cX8_qJoins 35 = .ok (.iload_n 1, 1) := by decide +kernel
theorem dX8_qJoins_36 : decode cX8_qJoins 36 = .ok (.tableswitch 219 1 10 #[56, 70, 84, 98, 111, 131, 151, 170, 189, 208], 56) := by decide +kernel
theorem dX8_qJoins_92 : decode cX8_qJoins 92 = .ok (.aload_n 0, 1) := by decide +kernel
theorem dX8_qJoins_93 : decode cX8_qJoins 93 = .ok (.lload 4, 2) := by decide +kernel
theorem dX8_qJoins_95 : decode cX8_qJoins 95 = .ok (.lload_n 2, 1) := by decide +kernel
theorem dX8_qJoins_96 : decode cX8_qJoins 96 = .ok (.ladd, 1) := by decide +kernel
theorem dX8_qJoins_97 : decode cX8_qJoins 97 = .ok (.invokestatic 641, 3) := by decide +kernel
theorem dX8_qJoins_100 : decode cX8_qJoins 100 = .ok (.invokevirtual 414, 3) := by decide +kernel
theorem dX8_qJoins_103 : decode cX8_qJoins 103 = .ok (.goto 170, 3) := by decide +kernel
theorem dX8_qJoins_106 : decode cX8_qJoins 106 = .ok (.aload_n 0, 1) := by decide +kernel
theorem dX8_qJoins_107 : decode cX8_qJoins 107 = .ok (.lload 4, 2) := by decide +kernel
theorem dX8_qJoins_109 : decode cX8_qJoins 109 = .ok (.lload_n 2, 1) := by decide +kernel
theorem dX8_qJoins_110 : decode cX8_qJoins 110 = .ok (.lsub, 1) := by decide +kernel
theorem dX8_qJoins_111 : decode cX8_qJoins 111 = .ok (.invokestatic 641, 3) := by decide +kernel
theorem dX8_qJoins_114 : decode cX8_qJoins 114 = .ok (.invokevirtual 414, 3) := by decide +kernel
theorem dX8_qJoins_117 : decode cX8_qJoins 117 = .ok (.goto 156, 3) := by decide +kernel
theorem dX8_qJoins_120 : decode cX8_qJoins 120 = .ok (.aload_n 0, 1) := by decide +kernel
theorem dX8_qJoins_121 : decode cX8_qJoins 121 = .ok (.lload 4, 2) := by decide +kernel
theorem dX8_qJoins_123 : decode cX8_qJoins 123 = .ok (.lload_n 2, 1) := by decide +kernel
theorem dX8_qJoins_124 : decode cX8_qJoins 124 = .ok (.lmul, 1) := by decide +kernel
theorem dX8_qJoins_125 : decode cX8_qJoins 125 = .ok (.invokestatic 641, 3) := by decide +kernel
theorem dX8_qJoins_128 : decode cX8_qJoins 128 = .ok (.invokevirtual 414, 3) := by decide +kernel
theorem dX8_qJoins_131 : decode cX8_qJoins 131 = .ok (.goto 142, 3) := by decide +kernel
theorem dX8_qJoins_134 : decode cX8_qJoins 134 = .ok (.aload_n 0, 1) := by decide +kernel
theorem dX8_qJoins_135 : decode cX8_qJoins 135 = .ok (.lload 4, 2) := by decide +kernel
theorem dX8_qJoins_137 : decode cX8_qJoins 137 = .ok (.lload_n 2, 1) := by decide +kernel
theorem dX8_qJoins_138 : decode cX8_qJoins 138 = .ok (.invokestatic 645, 3) := by decide +kernel
theorem dX8_qJoins_141 : decode cX8_qJoins 141 = .ok (.invokevirtual 414, 3) := by decide +kernel
theorem dX8_qJoins_144 : decode cX8_qJoins 144 = .ok (.goto 129, 3) := by decide +kernel
theorem dX8_qJoins_147 : decode cX8_qJoins 147 = .ok (.aload_n 0, 1) := by decide +kernel
theorem dX8_qJoins_148 : decode cX8_qJoins 148 = .ok (.lload 4, 2) := by decide +kernel
theorem dX8_qJoins_150 : decode cX8_qJoins 150 = .ok (.lload_n 2, 1) := by decide +kernel
theorem dX8_qJoins_151 : decode cX8_qJoins 151 = .ok (.lcmp, 1) := by decide +kernel
theorem dX8_qJoins_152 : decode cX8_qJoins 152 = .ok (.ifCond .ge 8, 3) := by decide +kernel
theorem dX8_qJoins_155 : decode cX8_qJoins 155 = .ok (.lload 4, 2) := by decide +kernel
theorem dX8_qJoins_157 : decode cX8_qJoins 157 = .ok (.goto 4, 3) := by decide +kernel
theorem dX8_qJoins_160 : decode cX8_qJoins 160 = .ok (.lload_n 2, 1) := by decide +kernel
theorem dX8_qJoins_161 : decode cX8_qJoins 161 = .ok (.invokevirtual 414, 3) := by decide +kernel
theorem dX8_qJoins_164 : decode cX8_qJoins 164 = .ok (.goto 109, 3) := by decide +kernel
theorem dX8_qJoins_167 : decode cX8_qJoins 167 = .ok (.aload_n 0, 1) := by decide +kernel
theorem dX8_qJoins_168 : decode cX8_qJoins 168 = .ok (.lload 4, 2) := by decide +kernel
theorem dX8_qJoins_170 : decode cX8_qJoins 170 = .ok (.lload_n 2, 1) := by decide +kernel
theorem dX8_qJoins_171 : decode cX8_qJoins 171 = .ok (.lcmp, 1) := by decide +kernel
theorem dX8_qJoins_172 : decode cX8_qJoins 172 = .ok (.ifCond .le 8, 3) := by decide +kernel
theorem dX8_qJoins_175 : decode cX8_qJoins 175 = .ok (.lload 4, 2) := by decide +kernel
theorem dX8_qJoins_177 : decode cX8_qJoins 177 = .ok (.goto 4, 3) := by decide +kernel
theorem dX8_qJoins_180 : decode cX8_qJoins 180 = .ok (.lload_n 2, 1) := by decide +kernel
theorem dX8_qJoins_181 : decode cX8_qJoins 181 = .ok (.invokevirtual 414, 3) := by decide +kernel
theorem dX8_qJoins_184 : decode cX8_qJoins 184 = .ok (.goto 89, 3) := by decide +kernel
theorem dX8_qJoins_187 : decode cX8_qJoins 187 = .ok (.aload_n 0, 1) := by decide +kernel
theorem dX8_qJoins_188 : decode cX8_qJoins 188 = .ok (.lload 4, 2) := by decide +kernel
theorem dX8_qJoins_190 : decode cX8_qJoins 190 = .ok (.lload_n 2, 1) := by decide +kernel
theorem dX8_qJoins_191 : decode cX8_qJoins 191 = .ok (.lcmp, 1) := by decide +kernel
theorem dX8_qJoins_192 : decode cX8_qJoins 192 = .ok (.ifCond .ge 7, 3) := by decide +kernel
theorem dX8_qJoins_195 : decode cX8_qJoins 195 = .ok (.lconst 1, 1) := by decide +kernel
theorem dX8_qJoins_196 : decode cX8_qJoins 196 = .ok (.goto 4, 3) := by decide +kernel
theorem dX8_qJoins_199 : decode cX8_qJoins 199 = .ok (.lconst 0, 1) := by decide +kernel
theorem dX8_qJoins_200 : decode cX8_qJoins 200 = .ok (.invokevirtual 414, 3) := by decide +kernel
theorem dX8_qJoins_203 : decode cX8_qJoins 203 = .ok (.goto 70, 3) := by decide +kernel
theorem dX8_qJoins_206 : decode cX8_qJoins 206 = .ok (.aload_n 0, 1) := by decide +kernel
theorem dX8_qJoins_207 : decode cX8_qJoins 207 = .ok (.lload 4, 2) := by decide +kernel
theorem dX8_qJoins_209 : decode cX8_qJoins 209 = .ok (.lload_n 2, 1) := by decide +kernel
theorem dX8_qJoins_210 : decode cX8_qJoins 210 = .ok (.lcmp, 1) := by decide +kernel
theorem dX8_qJoins_211 : decode cX8_qJoins 211 = .ok (.ifCond .le 7, 3) := by decide +kernel
theorem dX8_qJoins_214 : decode cX8_qJoins 214 = .ok (.lconst 1, 1) := by decide +kernel
theorem dX8_qJoins_215 : decode cX8_qJoins 215 = .ok (.goto 4, 3) := by decide +kernel
theorem dX8_qJoins_218 : decode cX8_qJoins 218 = .ok (.lconst 0, 1) := by decide +kernel
theorem dX8_qJoins_219 : decode cX8_qJoins 219 = .ok (.invokevirtual 414, 3) := by decide +kernel
theorem dX8_qJoins_222 : decode cX8_qJoins 222 = .ok (.goto 51, 3) := by decide +kernel
theorem dX8_qJoins_225 : decode cX8_qJoins 225 = .ok (.aload_n 0, 1) := by decide +kernel
theorem dX8_qJoins_226 : decode cX8_qJoins 226 = .ok (.lload 4, 2) := by decide +kernel
theorem dX8_qJoins_228 : decode cX8_qJoins 228 = .ok (.lload_n 2, 1) := by decide +kernel
theorem dX8_qJoins_229 : decode cX8_qJoins 229 = .ok (.lcmp, 1) := by decide +kernel
theorem dX8_qJoins_230 : decode cX8_qJoins 230 = .ok (.ifCond .ne 7, 3) := by decide +kernel
theorem dX8_qJoins_233 : decode cX8_qJoins 233 = .ok (.lconst 1, 1) := by decide +kernel
theorem dX8_qJoins_234 : decode cX8_qJoins 234 = .ok (.goto 4, 3) := by decide +kernel
theorem dX8_qJoins_237 : decode cX8_qJoins 237 = .ok (.lconst 0, 1) := by decide +kernel
theorem dX8_qJoins_238 : decode cX8_qJoins 238 = .ok (.invokevirtual 414, 3) := by decide +kernel
theorem dX8_qJoins_241 : decode cX8_qJoins 241 = .ok (.goto 32, 3) := by decide +kernel
theorem dX8_qJoins_244 : decode cX8_qJoins 244 = .ok (.aload_n 0, 1) := by decide +kernel
theorem dX8_qJoins_245 : decode cX8_qJoins 245 = .ok (.lload 4, 2) := by decide +kernel
theorem dX8_qJoins_247 : decode cX8_qJoins 247 = .ok (.lload_n 2, 1) := by decide +kernel
theorem dX8_qJoins_248 : decode cX8_qJoins 248 = .ok (.lmul, 1) := by decide +kernel
theorem dX8_qJoins_249 : decode cX8_qJoins 249 = .ok (.invokevirtual 414, 3) := by decide +kernel
theorem dX8_qJoins_252 : decode cX8_qJoins 252 = .ok (.goto 21, 3) := by decide +kernel
theorem dX8_qJoins_255 : decode cX8_qJoins 255 = .ok (.aload_n 0, 1) := by decide +kernel
theorem dX8_qJoins_256 : decode cX8_qJoins 256 = .ok (.lload 4, 2) := by decide +kernel
theorem dX8_qJoins_258 : decode cX8_qJoins 258 = .ok (.lload_n 2, 1) := by decide +kernel
theorem dX8_qJoins_259 : decode cX8_qJoins 259 = .ok (.ladd, 1) := by decide +kernel
theorem dX8_qJoins_260 : decode cX8_qJoins 260 = .ok (.lconst 0, 1) := by decide +kernel
theorem dX8_qJoins_261 : decode cX8_qJoins 261 = .ok (.lcmp, 1) := by decide +kernel
theorem dX8_qJoins_262 : decode cX8_qJoins 262 = .ok (.ifCond .le 7, 3) := by decide +kernel
theorem dX8_qJoins_265 : decode cX8_qJoins 265 = .ok (.lconst 1, 1) := by decide +kernel
theorem dX8_qJoins_266 : decode cX8_qJoins 266 = .ok (.goto 4, 3) := by decide +kernel
theorem dX8_qJoins_269 : decode cX8_qJoins 269 = .ok (.lconst 0, 1) := by decide +kernel
theorem dX8_qJoins_270 : decode cX8_qJoins 270 = .ok (.invokevirtual 414, 3) := by decide +kernel
theorem dX8_qJoins_273 : decode cX8_qJoins 273 = .ok (.return_, 1) := by decide +kernel
theorem dX8_qPartOf_0 : decode cX8_qPartOf 0 = .ok (.iload_n 1, 1) := by decide +kernel
theorem dX8_qPartOf_1 : decode cX8_qPartOf 1 = .ok (.tableswitch 138 0 8 #[51, 58, 65, 72, 79, 87, 104, 121, 124], 51) := by decide +kernel
theorem dX8_qPartOf_52 : decode cX8_qPartOf 52 = .ok (.aload_n 0, 1) := by decide +kernel
theorem dX8_qPartOf_53 : decode cX8_qPartOf 53 = .ok (.iload_n 2, 1) := by decide +kernel
theorem dX8_qPartOf_54 : decode cX8_qPartOf 54 = .ok (.invokevirtual 425, 3) := by decide +kernel
theorem dX8_qPartOf_57 : decode cX8_qPartOf 57 = .ok (.i2l, 1) := by decide +kernel
theorem dX8_qPartOf_58 : decode cX8_qPartOf 58 = .ok (.lreturn, 1) := by decide +kernel
theorem dX8_qPartOf_59 : decode cX8_qPartOf 59 = .ok (.aload_n 0, 1) := by decide +kernel
theorem dX8_qPartOf_60 : decode cX8_qPartOf 60 = .ok (.iload_n 2, 1) := by decide +kernel
theorem dX8_qPartOf_61 : decode cX8_qPartOf 61 = .ok (.invokevirtual 649, 3) := by decide +kernel
theorem dX8_qPartOf_64 : decode cX8_qPartOf 64 = .ok (.i2l, 1) := by decide +kernel
theorem dX8_qPartOf_65 : decode cX8_qPartOf 65 = .ok (.lreturn, 1) := by decide +kernel
theorem dX8_qPartOf_66 : decode cX8_qPartOf 66 = .ok (.aload_n 0, 1) := by decide +kernel
theorem dX8_qPartOf_67 : decode cX8_qPartOf 67 = .ok (.iload_n 2, 1) := by decide +kernel
theorem dX8_qPartOf_68 : decode cX8_qPartOf 68 = .ok (.invokevirtual 510, 3) := by decide +kernel
theorem dX8_qPartOf_71 : decode cX8_qPartOf 71 = .ok (.i2l, 1) := by decide +kernel
theorem dX8_qPartOf_72 : decode cX8_qPartOf 72 = .ok (.lreturn, 1) := by decide +kernel
theorem dX8_qPartOf_73 : decode cX8_qPartOf 73 = .ok (.aload_n 0, 1) := by decide +kernel
theorem dX8_qPartOf_74 : decode cX8_qPartOf 74 = .ok (.iload_n 2, 1) := by decide +kernel
theorem dX8_qPartOf_75 : decode cX8_qPartOf 75 = .ok (.invokevirtual 464, 3) := by decide +kernel
theorem dX8_qPartOf_78 : decode cX8_qPartOf 78 = .ok (.i2l, 1) := by decide +kernel
theorem dX8_qPartOf_79 : decode cX8_qPartOf 79 = .ok (.lreturn, 1) := by decide +kernel
theorem dX8_qPartOf_80 : decode cX8_qPartOf 80 = .ok (.aload_n 0, 1) := by decide +kernel
theorem dX8_qPartOf_81 : decode cX8_qPartOf 81 = .ok (.getfield 133, 3) := by decide +kernel
theorem dX8_qPartOf_84 : decode cX8_qPartOf 84 = .ok (.iconst 0, 1) := by decide +kernel
theorem dX8_qPartOf_85 : decode cX8_qPartOf 85 = .ok (.iaload, 1) := by decide +kernel
theorem dX8_qPartOf_86 : decode cX8_qPartOf 86 = .ok (.i2l, 1) := by decide +kernel
theorem dX8_qPartOf_87 : decode cX8_qPartOf 87 = .ok (.lreturn, 1) := by decide +kernel
theorem dX8_qPartOf_88 : decode cX8_qPartOf 88 = .ok (.aload_n 0, 1) := by decide +kernel
theorem dX8_qPartOf_89 : decode cX8_qPartOf 89 = .ok (.getfield 115, 3) := by decide +kernel
theorem dX8_qPartOf_92 : decode cX8_qPartOf 92 = .ok (.bipush 12, 2) := by decide +kernel
theorem dX8_qPartOf_94 : decode cX8_qPartOf 94 = .ok (.iconst 2, 1) := by decide +kernel
theorem dX8_qPartOf_95 : decode cX8_qPartOf 95 = .ok (.aload_n 0, 1) := by decide +kernel
theorem dX8_qPartOf_96 : decode cX8_qPartOf 96 = .ok (.iload_n 2, 1) := by decide +kernel
theorem dX8_qPartOf_97 : decode cX8_qPartOf 97 = .ok (.invokevirtual 398, 3) := by decide +kernel
theorem dX8_qPartOf_100 : decode cX8_qPartOf 100 = .ok (.imul, 1) := by decide +kernel
theorem dX8_qPartOf_101 : decode cX8_qPartOf 101 = .ok (.iadd, 1) := by decide +kernel
theorem dX8_qPartOf_102 : decode cX8_qPartOf 102 = .ok (.iaload, 1) := by decide +kernel
theorem dX8_qPartOf_103 : decode cX8_qPartOf 103 = .ok (.i2l, 1) := by decide +kernel
theorem dX8_qPartOf_104 : decode cX8_qPartOf 104 = .ok (.lreturn, 1) := by decide +kernel
theorem dX8_qPartOf_105 : decode cX8_qPartOf 105 = .ok (.aload_n 0, 1) := by decide +kernel
theorem dX8_qPartOf_106 : decode cX8_qPartOf 106 = .ok (.getfield 115, 3) := by decide +kernel
theorem dX8_qPartOf_109 : decode cX8_qPartOf 109 = .ok (.bipush 13, 2) := by decide +kernel
theorem dX8_qPartOf_111 : decode cX8_qPartOf 111 = .ok (.iconst 2, 1) := by decide +kernel
theorem dX8_qPartOf_112 : decode cX8_qPartOf 112 = .ok (.aload_n 0, 1) := by decide +kernel
theorem dX8_qPartOf_113 : decode cX8_qPartOf 113 = .ok (.iload_n 2, 1) := by decide +kernel
theorem dX8_qPartOf_114 : decode cX8_qPartOf 114 = .ok (.invokevirtual 398, 3) := by decide +kernel
theorem dX8_qPartOf_117 : decode cX8_qPartOf 117 = .ok (.imul, 1) := by decide +kernel
theorem dX8_qPartOf_118 : decode cX8_qPartOf 118 = .ok (.iadd, 1) := by decide +kernel
theorem dX8_qPartOf_119 : decode cX8_qPartOf 119 = .ok (.iaload, 1) := by decide +kernel
theorem dX8_qPartOf_120 : decode cX8_qPartOf 120 = .ok (.i2l, 1) := by decide +kernel
theorem dX8_qPartOf_121 : decode cX8_qPartOf 121 = .ok (.lreturn, 1) := by decide +kernel
theorem dX8_qPartOf_122 : decode cX8_qPartOf 122 = .ok (.iload_n 2, 1) := by decide +kernel
theorem dX8_qPartOf_123 : decode cX8_qPartOf 123 = .ok (.i2l, 1) := by decide +kernel
theorem dX8_qPartOf_124 : decode cX8_qPartOf 124 = .ok (.lreturn, 1) := by decide +kernel
theorem dX8_qPartOf_125 : decode cX8_qPartOf 125 = .ok (.aload_n 0, 1) := by decide +kernel
theorem dX8_qPartOf_126 : decode cX8_qPartOf 126 = .ok (.iload_n 2, 1) := by decide +kernel
theorem dX8_qPartOf_127 : decode cX8_qPartOf 127 = .ok (.invokevirtual 405, 3) := by decide +kernel
theorem dX8_qPartOf_130 : decode cX8_qPartOf 130 = .ok (.ifCond .eq 7, 3) := by decide +kernel
theorem dX8_qPartOf_133 : decode cX8_qPartOf 133 = .ok (.lconst 0, 1) := by decide +kernel
theorem dX8_qPartOf_134 : decode cX8_qPartOf 134 = .ok (.goto 4, 3) := by decide +kernel
theorem dX8_qPartOf_137 : decode cX8_qPartOf 137 = .ok (.lconst 1, 1) := by decide +kernel
theorem dX8_qPartOf_138 : decode cX8_qPartOf 138 = .ok (.lreturn, 1) := by decide +kernel
theorem dX8_qPartOf_139 : decode cX8_qPartOf 139 = .ok (.aload_n 0, 1) := by decide +kernel
theorem dX8_qPartOf_140 : decode cX8_qPartOf 140 = .ok (.getfield 449, 3) := by decide +kernel
theorem dX8_qPartOf_143 : decode cX8_qPartOf 143 = .ok (.iload_n 2, 1) := by decide +kernel
theorem dX8_qPartOf_144 : decode cX8_qPartOf 144 = .ok (.ishr, 1) := by decide +kernel
theorem dX8_qPartOf_145 : decode cX8_qPartOf 145 = .ok (.iconst 1, 1) := by decide +kernel
theorem dX8_qPartOf_146 : decode cX8_qPartOf 146 = .ok (.iand, 1) := by decide +kernel
theorem dX8_qPartOf_147 : decode cX8_qPartOf 147 = .ok (.i2l, 1) := by decide +kernel
theorem dX8_qPartOf_148 : decode cX8_qPartOf 148 = .ok (.lreturn, 1) := by decide +kernel
theorem dX8_qOf_0 : decode cX8_qOf 0 = .ok (.iload_n 1, 1) := by decide +kernel
theorem dX8_qOf_1 : decode cX8_qOf 1 = .ok (.lookupswitch 11 #[], 11) := by decide +kernel
theorem dX8_qOf_12 : decode cX8_qOf 12 = .ok (.lload_n 2, 1) := by decide +kernel
theorem dX8_qOf_13 : decode cX8_qOf 13 = .ok (.aload_n 0, 1) := by decide +kernel
theorem dX8_qOf_14 : decode cX8_qOf 14 = .ok (.iload 4, 2) := by decide +kernel
theorem dX8_qOf_16 : decode cX8_qOf 16 = .ok (.invokevirtual 398, 3) := by decide +kernel
theorem dX8_qOf_19 : decode cX8_qOf 19 = .ok (.i2l, 1) := by decide +kernel
theorem dX8_qOf_20 : decode cX8_qOf 20 = .ok (.lcmp, 1) := by decide +kernel
theorem dX8_qOf_21 : decode cX8_qOf 21 = .ok (.ifCond .ne 7, 3) := by decide +kernel
theorem dX8_qOf_24 : decode cX8_qOf 24 = .ok (.lconst 1, 1) := by decide +kernel
theorem dX8_qOf_25 : decode cX8_qOf 25 = .ok (.goto 4, 3) := by decide +kernel
theorem dX8_qOf_28 : decode cX8_qOf 28 = .ok (.lconst 0, 1) := by decide +kernel
theorem dX8_qOf_29 : decode cX8_qOf 29 = .ok (.lreturn, 1) := by decide +kernel
theorem dX8_qTold_0 : decode cX8_qTold 0 = .ok (.aload_n 0, 1) := by decide +kernel
theorem dX8_qTold_1 : decode cX8_qTold 1 = .ok (.iconst 0, 1) := by decide +kernel
theorem dX8_qTold_2 : decode cX8_qTold 2 = .ok (.putfield 411, 3) := by decide +kernel
theorem dX8_qTold_5 : decode cX8_qTold 5 = .ok (.iconst 0, 1) := by decide +kernel
theorem dX8_qTold_6 : decode cX8_qTold 6 = .ok (.istore_n 2, 1) := by decide +kernel
theorem dX8_qTold_7 : decode cX8_qTold 7 = .ok (.iload_n 2, 1) := by decide +kernel
theorem dX8_qTold_8 : decode cX8_qTold 8 = .ok (.aload_n 0, 1) := by decide +kernel
theorem dX8_qTold_9 : decode cX8_qTold 9 = .ok (.getfield 337, 3) := by decide +kernel
theorem dX8_qTold_12 : decode cX8_qTold 12 = .ok (.if_icmp .ge 156, 3) := by decide +kernel
theorem dX8_qTold_15 : decode cX8_qTold 15 = .ok (.aload_n 0, 1) := by decide +kernel
theorem dX8_qTold_16 : decode cX8_qTold 16 = .ok (.getfield 234, 3) := by decide +kernel
theorem dX8_qTold_19 : decode cX8_qTold 19 = .ok (.iload_n 2, 1) := by decide +kernel
theorem dX8_qTold_20 : decode cX8_qTold 20 = .ok (.iaload, 1) := by decide +kernel
theorem dX8_qTold_21 : decode cX8_qTold 21 = .ok (.istore_n 3, 1) := by decide +kernel
theorem dX8_qTold_22 : decode cX8_qTold 22 = .ok (.iload_n 3, 1) := by decide +kernel
theorem dX8_qTold_23 : decode cX8_qTold 23 = .ok (.sipush 1000, 3) := by decide +kernel
theorem dX8_qTold_26 : decode cX8_qTold 26 = .ok (.if_icmp .lt 16, 3) := by decide +kernel
theorem dX8_qTold_29 : decode cX8_qTold 29 = .ok (.aload_n 0, 1) := by decide +kernel
theorem dX8_qTold_30 : decode cX8_qTold 30 = .ok (.iload_n 3, 1) := by decide +kernel
theorem dX8_qTold_31 : decode cX8_qTold 31 = .ok (.sipush 1000, 3) := by decide +kernel
theorem dX8_qTold_34 : decode cX8_qTold 34 = .ok (.isub, 1) := by decide +kernel
theorem dX8_qTold_35 : decode cX8_qTold 35 = .ok (.i2l, 1) := by decide +kernel
theorem dX8_qTold_36 : decode cX8_qTold 36 = .ok (.invokevirtual 414, 3) := by decide +kernel
theorem dX8_qTold_39 : decode cX8_qTold 39 = .ok (.goto 123, 3) := by decide +kernel
theorem dX8_qTold_42 : decode cX8_qTold 42 = .ok (.iload_n 3, 1) := by decide +kernel
theorem dX8_qTold_43 : decode cX8_qTold 43 = .ok (.bipush 60, 2) := by decide +kernel
theorem dX8_qTold_45 : decode cX8_qTold 45 = .ok (.if_icmp .lt 40, 3) := by decide +kernel
theorem dX8_qTold_48 : decode cX8_qTold 48 = .ok (.aload_n 0, 1) := by decide +kernel
theorem dX8_qTold_49 : decode cX8_qTold 49 = .ok (.getfield 240, 3) := by decide +kernel
theorem dX8_qTold_52 : decode cX8_qTold 52 = .ok (.aload_n 0, 1) := by decide +kernel
theorem dX8_qTold_53 : decode cX8_qTold 53 = .ok (.getfield 411, 3) := by decide +kernel
theorem dX8_qTold_56 : decode cX8_qTold 56 = .ok (.iconst 1, 1) := by decide +kernel
theorem dX8_qTold_57 : decode cX8_qTold 57 = .ok (.isub, 1) := by decide +kernel
theorem dX8_qTold_58 : decode cX8_qTold 58 = .ok (.aload_n 0, 1) := by decide +kernel
theorem dX8_qTold_59 : decode cX8_qTold 59 = .ok (.iload_n 3, 1) := by decide +kernel
theorem dX8_qTold_60 : decode cX8_qTold 60 = .ok (.bipush 60, 2) := by decide +kernel
theorem dX8_qTold_62 : decode cX8_qTold 62 = .ok (.isub, 1) := by decide +kernel
theorem dX8_qTold_63 : decode cX8_qTold 63 = .ok (.aload_n 0, 1) := by decide +kernel
theorem dX8_qTold_64 : decode cX8_qTold 64 = .ok (.getfield 240, 3) := by decide +kernel
theorem dX8_qTold_67 : decode cX8_qTold 67 = .ok (.aload_n 0, 1) := by decide +kernel
theorem dX8_qTold_68 : decode cX8_qTold 68 = .ok (.getfield 411, 3) := by decide +kernel
theorem dX8_qTold_71 : decode cX8_qTold 71 = .ok (.iconst 1, 1) := by decide +kernel
theorem dX8_qTold_72 : decode cX8_qTold 72 = .ok (.isub, 1) := by decide +kernel
theorem dX8_qTold_73 : decode cX8_qTold 73 = .ok (.laload, 1) := by decide +kernel
theorem dX8_qTold_74 : decode cX8_qTold 74 = .ok (.iload_n 1, 1) := by decide +kernel
theorem dX8_qTold_75 : decode cX8_qTold 75 = .ok (.invokevirtual 652, 3) := by decide +kernel
theorem dX8_qTold_78 : decode cX8_qTold 78 = .ok (.invokestatic 641, 3) := by decide +kernel
theorem dX8_qTold_81 : decode cX8_qTold 81 = .ok (.lastore, 1) := by decide +kernel
theorem dX8_qTold_82 : decode cX8_qTold 82 = .ok (.goto 80, 3) := by decide +kernel
theorem dX8_qTold_85 : decode cX8_qTold 85 = .ok (.iload_n 3, 1) := by decide +kernel
theorem dX8_qTold_86 : decode cX8_qTold 86 = .ok (.bipush 40, 2) := by decide +kernel
theorem dX8_qTold_88 : decode cX8_qTold 88 = .ok (.if_icmp .lt 22, 3) := by decide +kernel
theorem dX8_qTold_91 : decode cX8_qTold 91 = .ok (.aload_n 0, 1) := by decide +kernel
theorem dX8_qTold_92 : decode cX8_qTold 92 = .ok (.aload_n 0, 1) := by decide +kernel
theorem dX8_qTold_93 : decode cX8_qTold 93 = .ok (.iload_n 3, 1) := by decide +kernel
theorem dX8_qTold_94 : decode cX8_qTold 94 = .ok (.bipush 40, 2) := by decide +kernel
theorem dX8_qTold_96 : decode cX8_qTold 96 = .ok (.isub, 1) := by decide +kernel
theorem dX8_qTold_97 : decode cX8_qTold 97 = .ok (.iload_n 1, 1) := by decide +kernel
theorem dX8_qTold_98 : decode cX8_qTold 98 = .ok (.invokevirtual 418, 3) := by decide +kernel
theorem dX8_qTold_101 : decode cX8_qTold 101 = .ok (.invokestatic 641, 3) := by decide +kernel
theorem dX8_qTold_104 : decode cX8_qTold 104 = .ok (.invokevirtual 414, 3) := by decide +kernel
theorem dX8_qTold_107 : decode cX8_qTold 107 = .ok (.goto 55, 3) := by decide +kernel
theorem dX8_qTold_110 : decode cX8_qTold 110 = .ok (.iload_n 3, 1) := by decide +kernel
theorem dX8_qTold_111 : decode cX8_qTold 111 = .ok (.bipush 13, 2) := by decide +kernel
theorem dX8_qTold_113 : decode cX8_qTold 113 = .ok (.if_icmp .ne 11, 3) := by decide +kernel
theorem dX8_qTold_116 : decode cX8_qTold 116 = .ok (.aload_n 0, 1) := by decide +kernel
theorem dX8_qTold_117 : decode cX8_qTold 117 = .ok (.lconst 1, 1) := by decide +kernel
theorem dX8_qTold_118 : decode cX8_qTold 118 = .ok (.invokevirtual 414, 3) := by decide +kernel
theorem dX8_qTold_121 : decode cX8_qTold 121 = .ok (.goto 41, 3) := by decide +kernel
theorem dX8_qTold_124 : decode cX8_qTold 124 = .ok (.iload_n 3, 1) := by decide +kernel
theorem dX8_qTold_125 : decode cX8_qTold 125 = .ok (.bipush 12, 2) := by decide +kernel
theorem dX8_qTold_127 : decode cX8_qTold 127 = .ok (.if_icmp .ne 30, 3) := by decide +kernel
theorem dX8_qTold_130 : decode cX8_qTold 130 = .ok (.aload_n 0, 1) := by decide +kernel
theorem dX8_qTold_131 : decode cX8_qTold 131 = .ok (.getfield 240, 3) := by decide +kernel
theorem dX8_qTold_134 : decode cX8_qTold 134 = .ok (.aload_n 0, 1) := by decide +kernel
theorem dX8_qTold_135 : decode cX8_qTold 135 = .ok (.getfield 411, 3) := by decide +kernel
theorem dX8_qTold_138 : decode cX8_qTold 138 = .ok (.iconst 1, 1) := by decide +kernel
theorem dX8_qTold_139 : decode cX8_qTold 139 = .ok (.isub, 1) := by decide +kernel
theorem dX8_qTold_140 : decode cX8_qTold 140 = .ok (.lconst 1, 1) := by decide +kernel
theorem dX8_qTold_141 : decode cX8_qTold 141 = .ok (.aload_n 0, 1) := by decide +kernel
theorem dX8_qTold_142 : decode cX8_qTold 142 = .ok (.getfield 240, 3) := by decide +kernel
theorem dX8_qTold_145 : decode cX8_qTold 145 = .ok (.aload_n 0, 1) := by decide +kernel
theorem dX8_qTold_146 : decode cX8_qTold 146 = .ok (.getfield 411, 3) := by decide +kernel
theorem dX8_qTold_149 : decode cX8_qTold 149 = .ok (.iconst 1, 1) := by decide +kernel
theorem dX8_qTold_150 : decode cX8_qTold 150 = .ok (.isub, 1) := by decide +kernel
theorem dX8_qTold_151 : decode cX8_qTold 151 = .ok (.laload, 1) := by decide +kernel
theorem dX8_qTold_152 : decode cX8_qTold 152 = .ok (.lsub, 1) := by decide +kernel
theorem dX8_qTold_153 : decode cX8_qTold 153 = .ok (.lastore, 1) := by decide +kernel
theorem dX8_qTold_154 : decode cX8_qTold 154 = .ok (.goto 8, 3) := by decide +kernel
theorem dX8_qTold_157 : decode cX8_qTold 157 = .ok (.aload_n 0, 1) := by decide +kernel
theorem dX8_qTold_158 : decode cX8_qTold 158 = .ok (.iload_n 3, 1) := by decide +kernel
theorem dX8_qTold_159 : decode cX8_qTold 159 = .ok (.invokevirtual 422, 3) := by decide +kernel
theorem dX8_qTold_162 : decode cX8_qTold 162 = .ok (.iinc 2 1, 3) := by decide +kernel
theorem dX8_qTold_165 : decode cX8_qTold 165 = .ok (.goto (-158), 3) := by decide +kernel
theorem dX8_qTold_168 : decode cX8_qTold 168 = .ok (.aload_n 0, 1) := by decide +kernel
theorem dX8_qTold_169 : decode cX8_qTold 169 = .ok (.getfield 240, 3) := by decide +kernel
theorem dX8_qTold_172 : decode cX8_qTold 172 = .ok (.iconst 0, 1) := by decide +kernel
theorem dX8_qTold_173 : decode cX8_qTold 173 = .ok (.laload, 1) := by decide +kernel
theorem dX8_qTold_174 : decode cX8_qTold 174 = .ok (.lreturn, 1) := by decide +kernel
theorem dX8_qKind_0 : decode cX8_qKind 0 = .ok (.aload_n 0, 1) := by decide +kernel
theorem dX8_qKind_1 : decode cX8_qKind 1 = .ok (.aload_n 0, 1) := by decide +kernel
theorem dX8_qKind_2 : decode cX8_qKind 2 = .ok (.getfield 165, 3) := by decide +kernel
theorem dX8_qKind_5 : decode cX8_qKind 5 = .ok (.invokevirtual 276, 3) := by decide +kernel
theorem dX8_qKind_8 : decode cX8_qKind 8 = .ok (.ifCond .eq 7, 3) := by decide +kernel
theorem dX8_qKind_11 : decode cX8_qKind 11 = .ok (.iconst 0, 1) := by decide +kernel
theorem dX8_qKind_12 : decode cX8_qKind 12 = .ok (.goto 64, 3) := by decide +kernel
theorem dX8_qKind_15 : decode cX8_qKind 15 = .ok (.aload_n 0, 1) := by decide +kernel
theorem dX8_qKind_16 : decode cX8_qKind 16 = .ok (.aload_n 0, 1) := by decide +kernel
theorem dX8_qKind_17 : decode cX8_qKind 17 = .ok (.getfield 168, 3) := by decide +kernel
theorem dX8_qKind_20 : decode cX8_qKind 20 = .ok (.invokevirtual 276, 3) := by decide +kernel
theorem dX8_qKind_23 : decode cX8_qKind 23 = .ok (.ifCond .eq 7, 3) := by decide +kernel
theorem dX8_qKind_26 : decode cX8_qKind 26 = .ok (.iconst 1, 1) := by decide +kernel
theorem dX8_qKind_27 : decode cX8_qKind 27 = .ok (.goto 49, 3) := by decide +kernel
theorem dX8_qKind_30 : decode cX8_qKind 30 = .ok (.aload_n 0, 1) := by decide +kernel
theorem dX8_qKind_31 : decode cX8_qKind 31 = .ok (.aload_n 0, 1) := by decide +kernel
theorem dX8_qKind_32 : decode cX8_qKind 32 = .ok (.getfield 171, 3) := by decide +kernel
theorem dX8_qKind_35 : decode cX8_qKind 35 = .ok (.invokevirtual 276, 3) := by decide +kernel
theorem dX8_qKind_38 : decode cX8_qKind 38 = .ok (.ifCond .eq 7, 3) := by decide +kernel
theorem dX8_qKind_41 : decode cX8_qKind 41 = .ok (.iconst 2, 1) := by decide +kernel
theorem dX8_qKind_42 : decode cX8_qKind 42 = .ok (.goto 34, 3) := by decide +kernel
theorem dX8_qKind_45 : decode cX8_qKind 45 = .ok (.aload_n 0, 1) := by decide +kernel
theorem dX8_qKind_46 : decode cX8_qKind 46 = .ok (.aload_n 0, 1) := by decide +kernel
theorem dX8_qKind_47 : decode cX8_qKind 47 = .ok (.getfield 174, 3) := by decide +kernel
theorem dX8_qKind_50 : decode cX8_qKind 50 = .ok (.invokevirtual 276, 3) := by decide +kernel
theorem dX8_qKind_53 : decode cX8_qKind 53 = .ok (.ifCond .eq 7, 3) := by decide +kernel
theorem dX8_qKind_56 : decode cX8_qKind 56 = .ok (.iconst 3, 1) := by decide +kernel
theorem dX8_qKind_57 : decode cX8_qKind 57 = .ok (.goto 19, 3) := by decide +kernel
theorem dX8_qKind_60 : decode cX8_qKind 60 = .ok (.aload_n 0, 1) := by decide +kernel
theorem dX8_qKind_61 : decode cX8_qKind 61 = .ok (.aload_n 0, 1) := by decide +kernel
theorem dX8_qKind_62 : decode cX8_qKind 62 = .ok (.getfield 177, 3) := by decide +kernel
theorem dX8_qKind_65 : decode cX8_qKind 65 = .ok (.invokevirtual 276, 3) := by decide +kernel
theorem dX8_qKind_68 : decode cX8_qKind 68 = .ok (.ifCond .eq 7, 3) := by decide +kernel
theorem dX8_qKind_71 : decode cX8_qKind 71 = .ok (.iconst 4, 1) := by decide +kernel
theorem dX8_qKind_72 : decode cX8_qKind 72 = .ok (.goto 4, 3) := by decide +kernel
theorem dX8_qKind_75 : decode cX8_qKind 75 = .ok (.iconst 5, 1) := by decide +kernel
theorem dX8_qKind_76 : decode cX8_qKind 76 = .ok (.istore_n 1, 1) := by decide +kernel
theorem dX8_qKind_77 : decode cX8_qKind 77 = .ok (.iload_n 1, 1) := by decide +kernel
theorem dX8_qKind_78 : decode cX8_qKind 78 = .ok (.iconst 5, 1) := by decide +kernel
theorem dX8_qKind_79 : decode cX8_qKind 79 = .ok (.if_icmp .ne 11, 3) := by decide +kernel
theorem dX8_qKind_82 : decode cX8_qKind 82 = .ok (.aload_n 0, 1) := by decide +kernel
theorem dX8_qKind_83 : decode cX8_qKind 83 = .ok (.aload_n 0, 1) := by decide +kernel
theorem dX8_qKind_84 : decode cX8_qKind 84 = .ok (.getfield 180, 3) := by decide +kernel
theorem dX8_qKind_87 : decode cX8_qKind 87 = .ok (.invokevirtual 311, 3) := by decide +kernel
theorem dX8_qKind_90 : decode cX8_qKind 90 = .ok (.iload_n 1, 1) := by decide +kernel
theorem dX8_qKind_91 : decode cX8_qKind 91 = .ok (.ireturn, 1) := by decide +kernel
theorem dX8_qTakes_0 : decode cX8_qTakes 0 = .ok (.iload_n 1, 1) := by decide +kernel
theorem dX8_qTakes_1 : decode cX8_qTakes 1 = .ok (.iconst 3, 1) := by decide +kernel
theorem dX8_qTakes_2 : decode cX8_qTakes 2 = .ok (.if_icmp .ge 13, 3) := by decide +kernel
theorem dX8_qTakes_5 : decode cX8_qTakes 5 = .ok (.lload_n 2, 1) := by decide +kernel
theorem dX8_qTakes_6 : decode cX8_qTakes 6 = .ok (.lconst 1, 1) := by decide +kernel
theorem dX8_qTakes_7 : decode cX8_qTakes 7 = .ok (.lcmp, 1) := by decide +kernel
theorem dX8_qTakes_8 : decode cX8_qTakes 8 = .ok (.ifCond .ne 7, 3) := by decide +kernel
theorem dX8_qTakes_11 : decode cX8_qTakes 11 = .ok (.iconst 1, 1) := by decide +kernel
theorem dX8_qTakes_12 : decode cX8_qTakes 12 = .ok (.goto 4, 3) := by decide +kernel
theorem dX8_qTakes_15 : decode cX8_qTakes 15 = .ok (.iconst 0, 1) := by decide +kernel
theorem dX8_qTakes_16 : decode cX8_qTakes 16 = .ok (.istore 5, 2) := by decide +kernel
theorem dX8_qTakes_18 : decode cX8_qTakes 18 = .ok (.iload_n 1, 1) := by decide +kernel
theorem dX8_qTakes_19 : decode cX8_qTakes 19 = .ok (.ifCond .ne 19, 3) := by decide +kernel
theorem dX8_qTakes_22 : decode cX8_qTakes 22 = .ok (.iload 5, 2) := by decide +kernel
theorem dX8_qTakes_24 : decode cX8_qTakes 24 = .ok (.ifCond .eq 14, 3) := by decide +kernel
theorem dX8_qTakes_27 : decode cX8_qTakes 27 = .ok (.aload_n 0, 1) := by decide +kernel
theorem dX8_qTakes_28 : decode cX8_qTakes 28 = .ok (.getfield 656, 3) := by decide +kernel
theorem dX8_qTakes_31 : decode cX8_qTakes 31 = .ok (.ldc2_w 659, 3) := by decide +kernel
theorem dX8_qTakes_34 : decode cX8_qTakes 34 = .ok (.lcmp, 1) := by decide +kernel
theorem dX8_qTakes_35 : decode cX8_qTakes 35 = .ok (.ifCond .eq 13, 3) := by decide +kernel
theorem dX8_qTakes_38 : decode cX8_qTakes 38 = .ok (.iload_n 1, 1) := by decide +kernel
theorem dX8_qTakes_39 : decode cX8_qTakes 39 = .ok (.iconst 1, 1) := by decide +kernel
theorem dX8_qTakes_40 : decode cX8_qTakes 40 = .ok (.if_icmp .ne 15, 3) := by decide +kernel
theorem dX8_qTakes_43 : decode cX8_qTakes 43 = .ok (.iload 5, 2) := by decide +kernel
theorem dX8_qTakes_45 : decode cX8_qTakes 45 = .ok (.ifCond .eq 10, 3) := by decide +kernel
theorem dX8_qTakes_48 : decode cX8_qTakes 48 = .ok (.aload_n 0, 1) := by decide +kernel
theorem dX8_qTakes_49 : decode cX8_qTakes 49 = .ok (.iload 4, 2) := by decide +kernel
theorem dX8_qTakes_51 : decode cX8_qTakes 51 = .ok (.i2l, 1) := by decide +kernel
theorem dX8_qTakes_52 : decode cX8_qTakes 52 = .ok (.putfield 656, 3) := by decide +kernel
theorem dX8_qTakes_55 : decode cX8_qTakes 55 = .ok (.iload_n 1, 1) := by decide +kernel
theorem dX8_qTakes_56 : decode cX8_qTakes 56 = .ok (.iconst 2, 1) := by decide +kernel
theorem dX8_qTakes_57 : decode cX8_qTakes 57 = .ok (.if_icmp .ne 18, 3) := by decide +kernel
theorem dX8_qTakes_60 : decode cX8_qTakes 60 = .ok (.iload 5, 2) := by decide +kernel
theorem dX8_qTakes_62 : decode cX8_qTakes 62 = .ok (.ifCond .eq 13, 3) := by decide +kernel
theorem dX8_qTakes_65 : decode cX8_qTakes 65 = .ok (.aload_n 0, 1) := by decide +kernel
theorem dX8_qTakes_66 : decode cX8_qTakes 66 = .ok (.dup, 1) := by decide +kernel
theorem dX8_qTakes_67 : decode cX8_qTakes 67 = .ok (.getfield 656, 3) := by decide +kernel
theorem dX8_qTakes_70 : decode cX8_qTakes 70 = .ok (.lconst 1, 1) := by decide +kernel
theorem dX8_qTakes_71 : decode cX8_qTakes 71 = .ok (.ladd, 1) := by decide +kernel
theorem dX8_qTakes_72 : decode cX8_qTakes 72 = .ok (.putfield 656, 3) := by decide +kernel
theorem dX8_qTakes_75 : decode cX8_qTakes 75 = .ok (.iload_n 1, 1) := by decide +kernel
theorem dX8_qTakes_76 : decode cX8_qTakes 76 = .ok (.iconst 3, 1) := by decide +kernel
theorem dX8_qTakes_77 : decode cX8_qTakes 77 = .ok (.if_icmp .ne 13, 3) := by decide +kernel
theorem dX8_qTakes_80 : decode cX8_qTakes 80 = .ok (.aload_n 0, 1) := by decide +kernel
theorem dX8_qTakes_81 : decode cX8_qTakes 81 = .ok (.dup, 1) := by decide +kernel
theorem dX8_qTakes_82 : decode cX8_qTakes 82 = .ok (.getfield 656, 3) := by decide +kernel
theorem dX8_qTakes_85 : decode cX8_qTakes 85 = .ok (.lload_n 2, 1) := by decide +kernel
theorem dX8_qTakes_86 : decode cX8_qTakes 86 = .ok (.ladd, 1) := by decide +kernel
theorem dX8_qTakes_87 : decode cX8_qTakes 87 = .ok (.putfield 656, 3) := by decide +kernel
theorem dX8_qTakes_90 : decode cX8_qTakes 90 = .ok (.iload_n 1, 1) := by decide +kernel
theorem dX8_qTakes_91 : decode cX8_qTakes 91 = .ok (.iconst 3, 1) := by decide +kernel
theorem dX8_qTakes_92 : decode cX8_qTakes 92 = .ok (.if_icmp .le 41, 3) := by decide +kernel
theorem dX8_qTakes_95 : decode cX8_qTakes 95 = .ok (.aload_n 0, 1) := by decide +kernel
theorem dX8_qTakes_96 : decode cX8_qTakes 96 = .ok (.getfield 661, 3) := by decide +kernel
theorem dX8_qTakes_99 : decode cX8_qTakes 99 = .ok (.ifCond .ne 29, 3) := by decide +kernel
theorem dX8_qTakes_102 : decode cX8_qTakes 102 = .ok (.iload_n 1, 1) := by decide +kernel
theorem dX8_qTakes_103 : decode cX8_qTakes 103 = .ok (.iconst 4, 1) := by decide +kernel
theorem dX8_qTakes_104 : decode cX8_qTakes 104 = .ok (.if_icmp .ne 15, 3) := by decide +kernel
theorem dX8_qTakes_107 : decode cX8_qTakes 107 = .ok (.lload_n 2, 1) := by decide +kernel
theorem dX8_qTakes_108 : decode cX8_qTakes 108 = .ok (.aload_n 0, 1) := by decide +kernel
theorem dX8_qTakes_109 : decode cX8_qTakes 109 = .ok (.getfield 656, 3) := by decide +kernel
theorem dX8_qTakes_112 : decode cX8_qTakes 112 = .ok (.lcmp, 1) := by decide +kernel
theorem dX8_qTakes_113 : decode cX8_qTakes 113 = .ok (.ifCond .le 20, 3) := by decide +kernel
theorem dX8_qTakes_116 : decode cX8_qTakes 116 = .ok (.goto 12, 3) := by decide +kernel
theorem dX8_qTakes_119 : decode cX8_qTakes 119 = .ok (.lload_n 2, 1) := by decide +kernel
theorem dX8_qTakes_120 : decode cX8_qTakes 120 = .ok (.aload_n 0, 1) := by decide +kernel
theorem dX8_qTakes_121 : decode cX8_qTakes 121 = .ok (.getfield 656, 3) := by decide +kernel
theorem dX8_qTakes_124 : decode cX8_qTakes 124 = .ok (.lcmp, 1) := by decide +kernel
theorem dX8_qTakes_125 : decode cX8_qTakes 125 = .ok (.ifCond .ge 8, 3) := by decide +kernel
theorem dX8_qTakes_128 : decode cX8_qTakes 128 = .ok (.aload_n 0, 1) := by decide +kernel
theorem dX8_qTakes_129 : decode cX8_qTakes 129 = .ok (.lload_n 2, 1) := by decide +kernel
theorem dX8_qTakes_130 : decode cX8_qTakes 130 = .ok (.putfield 656, 3) := by decide +kernel
theorem dX8_qTakes_133 : decode cX8_qTakes 133 = .ok (.aload_n 0, 1) := by decide +kernel
theorem dX8_qTakes_134 : decode cX8_qTakes 134 = .ok (.iconst 0, 1) := by decide +kernel
theorem dX8_qTakes_135 : decode cX8_qTakes 135 = .ok (.putfield 661, 3) := by decide +kernel
theorem dX8_qTakes_138 : decode cX8_qTakes 138 = .ok (.return_, 1) := by decide +kernel
theorem dX8_ask_0 : decode cX8_ask 0 = .ok (.aload_n 0, 1) := by decide +kernel
theorem dX8_ask_1 : decode cX8_ask 1 = .ok (.getfield 385, 3) := by decide +kernel
theorem dX8_ask_4 : decode cX8_ask 4 = .ok (.ifCond .ne 12, 3) := by decide +kernel
theorem dX8_ask_7 : decode cX8_ask 7 = .ok (.aload_n 0, 1) := by decide +kernel
theorem dX8_ask_8 : decode cX8_ask 8 = .ok (.iconst 0, 1) := by decide +kernel
theorem dX8_ask_9 : decode cX8_ask 9 = .ok (.putfield 246, 3) := by decide +kernel
theorem dX8_ask_12 : decode cX8_ask 12 = .ok (.ldc2_w 513, 3) := by decide +kernel
theorem dX8_ask_15 : decode cX8_ask 15 = .ok (.lreturn, 1) := by decide +kernel
theorem dX8_ask_16 : decode cX8_ask 16 = .ok (.aload_n 0, 1) := by decide +kernel
theorem dX8_ask_17 : decode cX8_ask 17 = .ok (.aload_n 0, 1) := by decide +kernel
theorem dX8_ask_18 : decode cX8_ask 18 = .ok (.getfield 246, 3) := by decide +kernel
theorem dX8_ask_21 : decode cX8_ask 21 = .ok (.putfield 258, 3) := by decide +kernel
theorem dX8_ask_24 : decode cX8_ask 24 = .ok (.aload_n 0, 1) := by decide +kernel
theorem dX8_ask_25 : decode cX8_ask 25 = .ok (.iconst 0, 1) := by decide +kernel
theorem dX8_ask_26 : decode cX8_ask 26 = .ok (.putfield 246, 3) := by decide +kernel
theorem dX8_ask_29 : decode cX8_ask 29 = .ok (.aload_n 0, 1) := by decide +kernel
theorem dX8_ask_30 : decode cX8_ask 30 = .ok (.iconst 0, 1) := by decide +kernel
theorem dX8_ask_31 : decode cX8_ask 31 = .ok (.putfield 255, 3) := by decide +kernel
theorem dX8_ask_34 : decode cX8_ask 34 = .ok (.aload_n 0, 1) := by decide +kernel
theorem dX8_ask_35 : decode cX8_ask 35 = .ok (.iconst (-1), 1) := by decide +kernel
theorem dX8_ask_36 : decode cX8_ask 36 = .ok (.putfield 269, 3) := by decide +kernel
theorem dX8_ask_39 : decode cX8_ask 39 = .ok (.aload_n 0, 1) := by decide +kernel
theorem dX8_ask_40 : decode cX8_ask 40 = .ok (.iconst 0, 1) := by decide +kernel
theorem dX8_ask_41 : decode cX8_ask 41 = .ok (.putfield 249, 3) := by decide +kernel
theorem dX8_ask_44 : decode cX8_ask 44 = .ok (.aload_n 0, 1) := by decide +kernel
theorem dX8_ask_45 : decode cX8_ask 45 = .ok (.iconst (-1), 1) := by decide +kernel
theorem dX8_ask_46 : decode cX8_ask 46 = .ok (.putfield 252, 3) := by decide +kernel
theorem dX8_ask_49 : decode cX8_ask 49 = .ok (.aload_n 0, 1) := by decide +kernel
theorem dX8_ask_50 : decode cX8_ask 50 = .ok (.iconst 2, 1) := by decide +kernel
theorem dX8_ask_51 : decode cX8_ask 51 = .ok (.putfield 304, 3) := by decide +kernel
theorem dX8_ask_54 : decode cX8_ask 54 = .ok (.aload_n 0, 1) := by decide +kernel
theorem dX8_ask_55 : decode cX8_ask 55 = .ok (.iconst 0, 1) := by decide +kernel
theorem dX8_ask_56 : decode cX8_ask 56 = .ok (.putfield 337, 3) := by decide +kernel
theorem dX8_ask_59 : decode cX8_ask 59 = .ok (.aload_n 0, 1) := by decide +kernel
theorem dX8_ask_60 : decode cX8_ask 60 = .ok (.iconst 0, 1) := by decide +kernel
theorem dX8_ask_61 : decode cX8_ask 61 = .ok (.putfield 340, 3) := by decide +kernel
theorem dX8_ask_64 : decode cX8_ask 64 = .ok (.aload_n 0, 1) := by decide +kernel
theorem dX8_ask_65 : decode cX8_ask 65 = .ok (.iconst 0, 1) := by decide +kernel
theorem dX8_ask_66 : decode cX8_ask 66 = .ok (.putfield 343, 3) := by decide +kernel
theorem dX8_ask_69 : decode cX8_ask 69 = .ok (.aload_n 0, 1) := by decide +kernel
theorem dX8_ask_70 : decode cX8_ask 70 = .ok (.iconst 0, 1) := by decide +kernel
theorem dX8_ask_71 : decode cX8_ask 71 = .ok (.putfield 346, 3) := by decide +kernel
theorem dX8_ask_74 : decode cX8_ask 74 = .ok (.aload_n 0, 1) := by decide +kernel
theorem dX8_ask_75 : decode cX8_ask 75 = .ok (.invokevirtual 664, 3) := by decide +kernel
theorem dX8_ask_78 : decode cX8_ask 78 = .ok (.istore_n 1, 1) := by decide +kernel
theorem dX8_ask_79 : decode cX8_ask 79 = .ok (.aload_n 0, 1) := by decide +kernel
theorem dX8_ask_80 : decode cX8_ask 80 = .ok (.getfield 249, 3) := by decide +kernel
theorem dX8_ask_83 : decode cX8_ask 83 = .ok (.ifCond .ne 15, 3) := by decide +kernel
theorem dX8_ask_86 : decode cX8_ask 86 = .ok (.iload_n 1, 1) := by decide +kernel
theorem dX8_ask_87 : decode cX8_ask 87 = .ok (.iconst 3, 1) := by decide +kernel
theorem dX8_ask_88 : decode cX8_ask 88 = .ok (.if_icmp .ge 10, 3) := by decide +kernel
theorem dX8_ask_91 : decode cX8_ask 91 = .ok (.aload_n 0, 1) := by decide +kernel
theorem dX8_ask_92 : decode cX8_ask 92 = .ok (.invokevirtual 349, 3) := by decide +kernel
theorem dX8_ask_95 : decode cX8_ask 95 = .ok (.goto 14, 3) := by decide +kernel
theorem dX8_ask_98 : decode cX8_ask 98 = .ok (.aload_n 0, 1) := by decide +kernel
theorem dX8_ask_99 : decode cX8_ask 99 = .ok (.getfield 249, 3) := by decide +kernel
theorem dX8_ask_102 : decode cX8_ask 102 = .ok (.ifCond .ne 7, 3) := by decide +kernel
theorem dX8_ask_105 : decode cX8_ask 105 = .ok (.aload_n 0, 1) := by decide +kernel
theorem dX8_ask_106 : decode cX8_ask 106 = .ok (.invokevirtual 352, 3) := by decide +kernel
theorem dX8_ask_109 : decode cX8_ask 109 = .ok (.aload_n 0, 1) := by decide +kernel
theorem dX8_ask_110 : decode cX8_ask 110 = .ok (.getfield 249, 3) := by decide +kernel
theorem dX8_ask_113 : decode cX8_ask 113 = .ok (.ifCond .ne 20, 3) := by decide +kernel
theorem dX8_ask_116 : decode cX8_ask 116 = .ok (.aload_n 0, 1) := by decide +kernel
theorem dX8_ask_117 : decode cX8_ask 117 = .ok (.invokevirtual 261, 3) := by decide +kernel
theorem dX8_ask_120 : decode cX8_ask 120 = .ok (.iconst (-1), 1) := by decide +kernel
theorem dX8_ask_121 : decode cX8_ask 121 = .ok (.if_icmp .eq 12, 3) := by decide +kernel
theorem dX8_ask_124 : decode cX8_ask 124 = .ok (.aload_n 0, 1) := by decide +kernel
theorem dX8_ask_125 : decode cX8_ask 125 = .ok (.iconst 1, 1) := by decide +kernel
theorem dX8_ask_126 : decode cX8_ask 126 = .ok (.aload_n 0, 1) := by decide +kernel
theorem dX8_ask_127 : decode cX8_ask 127 = .ok (.getfield 255, 3) := by decide +kernel
theorem dX8_ask_130 : decode cX8_ask 130 = .ok (.invokevirtual 279, 3) := by decide +kernel
theorem dX8_ask_133 : decode cX8_ask 133 = .ok (.aload_n 0, 1) := by decide +kernel
theorem dX8_ask_134 : decode cX8_ask 134 = .ok (.aload_n 0, 1) := by decide +kernel
theorem dX8_ask_135 : decode cX8_ask 135 = .ok (.getfield 249, 3) := by decide +kernel
theorem dX8_ask_138 : decode cX8_ask 138 = .ok (.putfield 379, 3) := by decide +kernel
theorem dX8_ask_141 : decode cX8_ask 141 = .ok (.aload_n 0, 1) := by decide +kernel
theorem dX8_ask_142 : decode cX8_ask 142 = .ok (.aload_n 0, 1) := by decide +kernel
theorem dX8_ask_143 : decode cX8_ask 143 = .ok (.getfield 252, 3) := by decide +kernel
theorem dX8_ask_146 : decode cX8_ask 146 = .ok (.putfield 13, 3) := by decide +kernel
theorem dX8_ask_149 : decode cX8_ask 149 = .ok (.aload_n 0, 1) := by decide +kernel
theorem dX8_ask_150 : decode cX8_ask 150 = .ok (.getfield 249, 3) := by decide +kernel
theorem dX8_ask_153 : decode cX8_ask 153 = .ok (.ifCond .eq 7, 3) := by decide +kernel
theorem dX8_ask_156 : decode cX8_ask 156 = .ok (.ldc2_w 513, 3) := by decide +kernel
theorem dX8_ask_159 : decode cX8_ask 159 = .ok (.lreturn, 1) := by decide +kernel
theorem dX8_ask_160 : decode cX8_ask 160 = .ok (.aload_n 0, 1) := by decide +kernel
theorem dX8_ask_161 : decode cX8_ask 161 = .ok (.iload_n 1, 1) := by decide +kernel
theorem dX8_ask_162 : decode cX8_ask 162 = .ok (.iconst 2, 1) := by decide +kernel
theorem dX8_ask_163 : decode cX8_ask 163 = .ok (.if_icmp .ge 9, 3) := by decide +kernel
theorem dX8_ask_166 : decode cX8_ask 166 = .ok (.ldc2_w 659, 3) := by decide +kernel
theorem dX8_ask_169 : decode cX8_ask 169 = .ok (.goto 4, 3) := by decide +kernel
theorem dX8_ask_172 : decode cX8_ask 172 = .ok (.lconst 0, 1) := by decide +kernel
theorem dX8_ask_173 : decode cX8_ask 173 = .ok (.putfield 656, 3) := by decide +kernel
theorem dX8_ask_176 : decode cX8_ask 176 = .ok (.aload_n 0, 1) := by decide +kernel
theorem dX8_ask_177 : decode cX8_ask 177 = .ok (.iconst 1, 1) := by decide +kernel
theorem dX8_ask_178 : decode cX8_ask 178 = .ok (.putfield 661, 3) := by decide +kernel
theorem dX8_ask_181 : decode cX8_ask 181 = .ok (.aload_n 0, 1) := by decide +kernel
theorem dX8_ask_182 : decode cX8_ask 182 = .ok (.invokevirtual 479, 3) := by decide +kernel
theorem dX8_ask_185 : decode cX8_ask 185 = .ok (.aload_n 0, 1) := by decide +kernel
theorem dX8_ask_186 : decode cX8_ask 186 = .ok (.iconst 2, 1) := by decide +kernel
theorem dX8_ask_187 : decode cX8_ask 187 = .ok (.putfield 304, 3) := by decide +kernel
theorem dX8_ask_190 : decode cX8_ask 190 = .ok (.iconst 0, 1) := by decide +kernel
theorem dX8_ask_191 : decode cX8_ask 191 = .ok (.istore_n 2, 1) := by decide +kernel
theorem dX8_ask_192 : decode cX8_ask 192 = .ok (.iload_n 2, 1) := by decide +kernel
theorem dX8_ask_193 : decode cX8_ask 193 = .ok (.aload_n 0, 1) := by decide +kernel
theorem dX8_ask_194 : decode cX8_ask 194 = .ok (.invokevirtual 395, 3) := by decide +kernel
theorem dX8_ask_197 : decode cX8_ask 197 = .ok (.if_icmp .ge 20, 3) := by decide +kernel
theorem dX8_ask_200 : decode cX8_ask 200 = .ok (.aload_n 0, 1) := by decide +kernel
theorem dX8_ask_201 : decode cX8_ask 201 = .ok (.iload_n 1, 1) := by decide +kernel
theorem dX8_ask_202 : decode cX8_ask 202 = .ok (.aload_n 0, 1) := by decide +kernel
theorem dX8_ask_203 : decode cX8_ask 203 = .ok (.iload_n 2, 1) := by decide +kernel
theorem dX8_ask_204 : decode cX8_ask 204 = .ok (.invokevirtual 667, 3) := by decide +kernel
theorem dX8_ask_207 : decode cX8_ask 207 = .ok (.iload_n 2, 1) := by decide +kernel
theorem dX8_ask_208 : decode cX8_ask 208 = .ok (.invokevirtual 670, 3) := by decide +kernel
theorem dX8_ask_211 : decode cX8_ask 211 = .ok (.iinc 2 1, 3) := by decide +kernel
theorem dX8_ask_214 : decode cX8_ask 214 = .ok (.goto (-22), 3) := by decide +kernel
theorem dX8_ask_217 : decode cX8_ask 217 = .ok (.aload_n 0, 1) := by decide +kernel
theorem dX8_ask_218 : decode cX8_ask 218 = .ok (.getfield 656, 3) := by decide +kernel
theorem dX8_ask_221 : decode cX8_ask 221 = .ok (.lreturn, 1) := by decide +kernel
theorem dX8_checked_0 : decode cX8_checked 0 = .ok (.sipush 151, 3) := by decide +kernel
theorem dX8_checked_3 : decode cX8_checked 3 = .ok (.istore_n 2, 1) := by decide +kernel
theorem dX8_checked_4 : decode cX8_checked 4 = .ok (.iconst 0, 1) := by decide +kernel
theorem dX8_checked_5 : decode cX8_checked 5 = .ok (.istore_n 3, 1) := by decide +kernel
theorem dX8_checked_6 : decode cX8_checked 6 = .ok (.iload_n 3, 1) := by decide +kernel
theorem dX8_checked_7 : decode cX8_checked 7 = .ok (.iload_n 1, 1) := by decide +kernel
theorem dX8_checked_8 : decode cX8_checked 8 = .ok (.if_icmp .ge 21, 3) := by decide +kernel
theorem dX8_checked_11 : decode cX8_checked 11 = .ok (.iconst 3, 1) := by decide +kernel
theorem dX8_checked_12 : decode cX8_checked 12 = .ok (.iload_n 2, 1) := by decide +kernel
theorem dX8_checked_13 : decode cX8_checked 13 = .ok (.imul, 1) := by decide +kernel
theorem dX8_checked_14 : decode cX8_checked 14 = .ok (.aload_n 0, 1) := by decide +kernel
theorem dX8_checked_15 : decode cX8_checked 15 = .ok (.iload_n 3, 1) := by decide +kernel
theorem dX8_checked_16 : decode cX8_checked 16 = .ok (.iaload, 1) := by decide +kernel
theorem dX8_checked_17 : decode cX8_checked 17 = .ok (.iadd, 1) := by decide +kernel
theorem dX8_checked_18 : decode cX8_checked 18 = .ok (.sipush 251, 3) := by decide +kernel
theorem dX8_checked_21 : decode cX8_checked 21 = .ok (.irem, 1) := by decide +kernel
theorem dX8_checked_22 : decode cX8_checked 22 = .ok (.istore_n 2, 1) := by decide +kernel
theorem dX8_checked_23 : decode cX8_checked 23 = .ok (.iinc 3 1, 3) := by decide +kernel
theorem dX8_checked_26 : decode cX8_checked 26 = .ok (.goto (-20), 3) := by decide +kernel
theorem dX8_checked_29 : decode cX8_checked 29 = .ok (.iload_n 2, 1) := by decide +kernel
theorem dX8_checked_30 : decode cX8_checked 30 = .ok (.ireturn, 1) := by decide +kernel
theorem dX8_writes_0 : decode cX8_writes 0 = .ok (.aload_n 0, 1) := by decide +kernel
theorem dX8_writes_1 : decode cX8_writes 1 = .ok (.getfield 243, 3) := by decide +kernel
theorem dX8_writes_4 : decode cX8_writes 4 = .ok (.aload_n 0, 1) := by decide +kernel
theorem dX8_writes_5 : decode cX8_writes 5 = .ok (.getfield 674, 3) := by decide +kernel
theorem dX8_writes_8 : decode cX8_writes 8 = .ok (.iload_n 1, 1) := by decide +kernel
theorem dX8_writes_9 : decode cX8_writes 9 = .ok (.iastore, 1) := by decide +kernel
theorem dX8_writes_10 : decode cX8_writes 10 = .ok (.aload_n 0, 1) := by decide +kernel
theorem dX8_writes_11 : decode cX8_writes 11 = .ok (.dup, 1) := by decide +kernel
theorem dX8_writes_12 : decode cX8_writes 12 = .ok (.getfield 674, 3) := by decide +kernel
theorem dX8_writes_15 : decode cX8_writes 15 = .ok (.iconst 1, 1) := by decide +kernel
theorem dX8_writes_16 : decode cX8_writes 16 = .ok (.iadd, 1) := by decide +kernel
theorem dX8_writes_17 : decode cX8_writes 17 = .ok (.putfield 674, 3) := by decide +kernel
theorem dX8_writes_20 : decode cX8_writes 20 = .ok (.return_, 1) := by decide +kernel
theorem dX8_writesTwo_0 : decode cX8_writesTwo 0 = .ok (.aload_n 0, 1) := by decide +kernel
theorem dX8_writesTwo_1 : decode cX8_writesTwo 1 = .ok (.iload_n 1, 1) := by decide +kernel
theorem dX8_writesTwo_2 : decode cX8_writesTwo 2 = .ok (.sipush 256, 3) := by decide +kernel
theorem dX8_writesTwo_5 : decode cX8_writesTwo 5 = .ok (.idiv, 1) := by decide +kernel
theorem dX8_writesTwo_6 : decode cX8_writesTwo 6 = .ok (.invokevirtual 677, 3) := by decide +kernel
theorem dX8_writesTwo_9 : decode cX8_writesTwo 9 = .ok (.aload_n 0, 1) := by decide +kernel
theorem dX8_writesTwo_10 : decode cX8_writesTwo 10 = .ok (.iload_n 1, 1) := by decide +kernel
theorem dX8_writesTwo_11 : decode cX8_writesTwo 11 = .ok (.sipush 256, 3) := by decide +kernel
theorem dX8_writesTwo_14 : decode cX8_writesTwo 14 = .ok (.irem, 1) := by decide +kernel
theorem dX8_writesTwo_15 : decode cX8_writesTwo 15 = .ok (.invokevirtual 677, 3) := by decide +kernel
theorem dX8_writesTwo_18 : decode cX8_writesTwo 18 = .ok (.return_, 1) := by decide +kernel
theorem dX8_image_0 : decode cX8_image 0 = .ok (.aload_n 0, 1) := by decide +kernel
theorem dX8_image_1 : decode cX8_image 1 = .ok (.iconst 0, 1) := by decide +kernel
theorem dX8_image_2 : decode cX8_image 2 = .ok (.putfield 674, 3) := by decide +kernel
theorem dX8_image_5 : decode cX8_image 5 = .ok (.aload_n 0, 1) := by decide +kernel
theorem dX8_image_6 : decode cX8_image 6 = .ok (.aload_n 0, 1) := by decide +kernel
theorem dX8_image_7 : decode cX8_image 7 = .ok (.getfield 133, 3) := by decide +kernel
theorem dX8_image_10 : decode cX8_image 10 = .ok (.iconst 0, 1) := by decide +kernel
theorem dX8_image_11 : decode cX8_image 11 = .ok (.iaload, 1) := by decide +kernel
theorem dX8_image_12 : decode cX8_image 12 = .ok (.invokevirtual 680, 3) := by decide +kernel
theorem dX8_image_15 : decode cX8_image 15 = .ok (.aload_n 0, 1) := by decide +kernel
theorem dX8_image_16 : decode cX8_image 16 = .ok (.aload_n 0, 1) := by decide +kernel
theorem dX8_image_17 : decode cX8_image 17 = .ok (.getfield 133, 3) := by decide +kernel
theorem dX8_image_20 : decode cX8_image 20 = .ok (.iconst 1, 1) := by decide +kernel
theorem dX8_image_21 : decode cX8_image 21 = .ok (.iaload, 1) := by decide +kernel
theorem dX8_image_22 : decode cX8_image 22 = .ok (.invokevirtual 680, 3) := by decide +kernel
theorem dX8_image_25 : decode cX8_image 25 = .ok (.iconst 0, 1) := by decide +kernel
theorem dX8_image_26 : decode cX8_image 26 = .ok (.istore_n 1, 1) := by decide +kernel
theorem dX8_image_27 : decode cX8_image 27 = .ok (.iload_n 1, 1) := by decide +kernel
theorem dX8_image_28 : decode cX8_image 28 = .ok (.aload_n 0, 1) := by decide +kernel
theorem dX8_image_29 : decode cX8_image 29 = .ok (.invokevirtual 395, 3) := by decide +kernel
theorem dX8_image_32 : decode cX8_image 32 = .ok (.if_icmp .ge 54, 3) := by decide +kernel
theorem dX8_image_35 : decode cX8_image 35 = .ok (.aload_n 0, 1) := by decide +kernel
theorem dX8_image_36 : decode cX8_image 36 = .ok (.aload_n 0, 1) := by decide +kernel
theorem dX8_image_37 : decode cX8_image 37 = .ok (.iload_n 1, 1) := by decide +kernel
theorem dX8_image_38 : decode cX8_image 38 = .ok (.invokevirtual 398, 3) := by decide +kernel
theorem dX8_image_41 : decode cX8_image 41 = .ok (.invokevirtual 677, 3) := by decide +kernel
theorem dX8_image_44 : decode cX8_image 44 = .ok (.aload_n 0, 1) := by decide +kernel
theorem dX8_image_45 : decode cX8_image 45 = .ok (.aload_n 0, 1) := by decide +kernel
theorem dX8_image_46 : decode cX8_image 46 = .ok (.iload_n 1, 1) := by decide +kernel
theorem dX8_image_47 : decode cX8_image 47 = .ok (.invokevirtual 402, 3) := by decide +kernel
theorem dX8_image_50 : decode cX8_image 50 = .ok (.invokevirtual 680, 3) := by decide +kernel
theorem dX8_image_53 : decode cX8_image 53 = .ok (.aload_n 0, 1) := by decide +kernel
theorem dX8_image_54 : decode cX8_image 54 = .ok (.aload_n 0, 1) := by decide +kernel
theorem dX8_image_55 : decode cX8_image 55 = .ok (.iload_n 1, 1) := by decide +kernel
theorem dX8_image_56 : decode cX8_image 56 = .ok (.invokevirtual 425, 3) := by decide +kernel
theorem dX8_image_59 : decode cX8_image 59 = .ok (.invokevirtual 677, 3) := by decide +kernel
theorem dX8_image_62 : decode cX8_image 62 = .ok (.aload_n 0, 1) := by decide +kernel
theorem dX8_image_63 : decode cX8_image 63 = .ok (.aload_n 0, 1) := by decide +kernel
theorem dX8_image_64 : decode cX8_image 64 = .ok (.iload_n 1, 1) := by decide +kernel
theorem dX8_image_65 : decode cX8_image 65 = .ok (.invokevirtual 408, 3) := by decide +kernel
theorem dX8_image_68 : decode cX8_image 68 = .ok (.invokevirtual 680, 3) := by decide +kernel
theorem dX8_image_71 : decode cX8_image 71 = .ok (.aload_n 0, 1) := by decide +kernel
theorem dX8_image_72 : decode cX8_image 72 = .ok (.aload_n 0, 1) := by decide +kernel
theorem dX8_image_73 : decode cX8_image 73 = .ok (.iload_n 1, 1) := by decide +kernel
theorem dX8_image_74 : decode cX8_image 74 = .ok (.invokevirtual 464, 3) := by decide +kernel
theorem dX8_image_77 : decode cX8_image 77 = .ok (.invokevirtual 680, 3) := by decide +kernel
theorem dX8_image_80 : decode cX8_image 80 = .ok (.iinc 1 1, 3) := by decide +kernel
theorem dX8_image_83 : decode cX8_image 83 = .ok (.goto (-56), 3) := by decide +kernel
theorem dX8_image_86 : decode cX8_image 86 = .ok (.aload_n 0, 1) := by decide +kernel
theorem dX8_image_87 : decode cX8_image 87 = .ok (.aload_n 0, 1) := by decide +kernel
theorem dX8_image_88 : decode cX8_image 88 = .ok (.getfield 243, 3) := by decide +kernel
theorem dX8_image_91 : decode cX8_image 91 = .ok (.aload_n 0, 1) := by decide +kernel
theorem dX8_image_92 : decode cX8_image 92 = .ok (.getfield 674, 3) := by decide +kernel
theorem dX8_image_95 : decode cX8_image 95 = .ok (.invokestatic 683, 3) := by decide +kernel
theorem dX8_image_98 : decode cX8_image 98 = .ok (.invokevirtual 677, 3) := by decide +kernel
theorem dX8_image_101 : decode cX8_image 101 = .ok (.aload_n 0, 1) := by decide +kernel
theorem dX8_image_102 : decode cX8_image 102 = .ok (.getfield 674, 3) := by decide +kernel
theorem dX8_image_105 : decode cX8_image 105 = .ok (.ireturn, 1) := by decide +kernel
theorem dX8_octet_0 : decode cX8_octet 0 = .ok (.iload_n 1, 1) := by decide +kernel
theorem dX8_octet_1 : decode cX8_octet 1 = .ok (.ifCond .lt 20, 3) := by decide +kernel
theorem dX8_octet_4 : decode cX8_octet 4 = .ok (.iload_n 1, 1) := by decide +kernel
theorem dX8_octet_5 : decode cX8_octet 5 = .ok (.aload_n 0, 1) := by decide +kernel
theorem dX8_octet_6 : decode cX8_octet 6 = .ok (.getfield 674, 3) := by decide +kernel
theorem dX8_octet_9 : decode cX8_octet 9 = .ok (.if_icmp .ge 12, 3) := by decide +kernel
theorem dX8_octet_12 : decode cX8_octet 12 = .ok (.aload_n 0, 1) := by decide +kernel
theorem dX8_octet_13 : decode cX8_octet 13 = .ok (.getfield 243, 3) := by decide +kernel
theorem dX8_octet_16 : decode cX8_octet 16 = .ok (.iload_n 1, 1) := by decide +kernel
theorem dX8_octet_17 : decode cX8_octet 17 = .ok (.iaload, 1) := by decide +kernel
theorem dX8_octet_18 : decode cX8_octet 18 = .ok (.goto 4, 3) := by decide +kernel
theorem dX8_octet_21 : decode cX8_octet 21 = .ok (.iconst (-1), 1) := by decide +kernel
theorem dX8_octet_22 : decode cX8_octet 22 = .ok (.ireturn, 1) := by decide +kernel
theorem dX8_twoAt_0 : decode cX8_twoAt 0 = .ok (.sipush 256, 3) := by decide +kernel
theorem dX8_twoAt_3 : decode cX8_twoAt 3 = .ok (.aload_n 0, 1) := by decide +kernel
theorem dX8_twoAt_4 : decode cX8_twoAt 4 = .ok (.getfield 7, 3) := by decide +kernel
theorem dX8_twoAt_7 : decode cX8_twoAt 7 = .ok (.iload_n 1, 1) := by decide +kernel
theorem dX8_twoAt_8 : decode cX8_twoAt 8 = .ok (.iaload, 1) := by decide +kernel
