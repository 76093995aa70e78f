/-! what the bytes of the methods decode to -/
theorem dX0_init_0 : decode cX0_init 0 = .ok (.aload_n 0, 1) := by decide +kernel
theorem dX0_init_1 : decode cX0_init 1 = .ok (.invokespecial 3, 3) := by decide +kernel
theorem dX0_init_4 : decode cX0_init 4 = .ok (.aload_n 0, 1) := by decide +kernel
theorem dX0_init_5 : decode cX0_init 5 = .ok (.bipush 20, 2) := by decide +kernel
theorem dX0_init_7 : decode cX0_init 7 = .ok (.anewarray 9, 3) := by decide +kernel
theorem dX0_init_10 : decode cX0_init 10 = .ok (.putfield 11, 3) := by decide +kernel
theorem dX0_init_13 : decode cX0_init 13 = .ok (.aload_n 0, 1) := by decide +kernel
theorem dX0_init_14 : decode cX0_init 14 = .ok (.iconst 0, 1) := by decide +kernel
theorem dX0_init_15 : decode cX0_init 15 = .ok (.putfield 17, 3) := by decide +kernel
theorem dX0_init_18 : decode cX0_init 18 = .ok (.iconst 0, 1) := by decide +kernel
theorem dX0_init_19 : decode cX0_init 19 = .ok (.istore_n 1, 1) := by decide +kernel
theorem dX0_init_20 : decode cX0_init 20 = .ok (.iload_n 1, 1) := by decide +kernel
theorem dX0_init_21 : decode cX0_init 21 = .ok (.bipush 20, 2) := by decide +kernel
theorem dX0_init_23 : decode cX0_init 23 = .ok (.if_icmp .ge 22, 3) := by decide +kernel
theorem dX0_init_26 : decode cX0_init 26 = .ok (.aload_n 0, 1) := by decide +kernel
theorem dX0_init_27 : decode cX0_init 27 = .ok (.getfield 11, 3) := by decide +kernel
theorem dX0_init_30 : decode cX0_init 30 = .ok (.iload_n 1, 1) := by decide +kernel
theorem dX0_init_31 : decode cX0_init 31 = .ok (.new 9, 3) := by decide +kernel
theorem dX0_init_34 : decode cX0_init 34 = .ok (.dup, 1) := by decide +kernel
theorem dX0_init_35 : decode cX0_init 35 = .ok (.invokespecial 21, 3) := by decide +kernel
theorem dX0_init_38 : decode cX0_init 38 = .ok (.aastore, 1) := by decide +kernel
theorem dX0_init_39 : decode cX0_init 39 = .ok (.iinc 1 1, 3) := by decide +kernel
theorem dX0_init_42 : decode cX0_init 42 = .ok (.goto (-22), 3) := by decide +kernel
theorem dX0_init_45 : decode cX0_init 45 = .ok (.return_, 1) := by decide +kernel
theorem dX0_forget_0 : decode cX0_forget 0 = .ok (.aload_n 0, 1) := by decide +kernel
theorem dX0_forget_1 : decode cX0_forget 1 = .ok (.iconst 0, 1) := by decide +kernel
theorem dX0_forget_2 : decode cX0_forget 2 = .ok (.putfield 17, 3) := by decide +kernel
theorem dX0_forget_5 : decode cX0_forget 5 = .ok (.return_, 1) := by decide +kernel
theorem dX0_remember_0 : decode cX0_remember 0 = .ok (.aload_n 0, 1) := by decide +kernel
theorem dX0_remember_1 : decode cX0_remember 1 = .ok (.getfield 17, 3) := by decide +kernel
theorem dX0_remember_4 : decode cX0_remember 4 = .ok (.bipush 20, 2) := by decide +kernel
theorem dX0_remember_6 : decode cX0_remember 6 = .ok (.if_icmp .lt 52, 3) := by decide +kernel
theorem dX0_remember_9 : decode cX0_remember 9 = .ok (.aload_n 0, 1) := by decide +kernel
theorem dX0_remember_10 : decode cX0_remember 10 = .ok (.getfield 11, 3) := by decide +kernel
theorem dX0_remember_13 : decode cX0_remember 13 = .ok (.iconst 0, 1) := by decide +kernel
theorem dX0_remember_14 : decode cX0_remember 14 = .ok (.aaload, 1) := by decide +kernel
theorem dX0_remember_15 : decode cX0_remember 15 = .ok (.astore_n 2, 1) := by decide +kernel
theorem dX0_remember_16 : decode cX0_remember 16 = .ok (.iconst 1, 1) := by decide +kernel
theorem dX0_remember_17 : decode cX0_remember 17 = .ok (.istore_n 3, 1) := by decide +kernel
theorem dX0_remember_18 : decode cX0_remember 18 = .ok (.iload_n 3, 1) := by decide +kernel
theorem dX0_remember_19 : decode cX0_remember 19 = .ok (.bipush 20, 2) := by decide +kernel
theorem dX0_remember_21 : decode cX0_remember 21 = .ok (.if_icmp .ge 23, 3) := by decide +kernel
theorem dX0_remember_24 : decode cX0_remember 24 = .ok (.aload_n 0, 1) := by decide +kernel
theorem dX0_remember_25 : decode cX0_remember 25 = .ok (.getfield 11, 3) := by decide +kernel
theorem dX0_remember_28 : decode cX0_remember 28 = .ok (.iload_n 3, 1) := by decide +kernel
theorem dX0_remember_29 : decode cX0_remember 29 = .ok (.iconst 1, 1) := by decide +kernel
theorem dX0_remember_30 : decode cX0_remember 30 = .ok (.isub, 1) := by decide +kernel
theorem dX0_remember_31 : decode cX0_remember 31 = .ok (.aload_n 0, 1) := by decide +kernel
theorem dX0_remember_32 : decode cX0_remember 32 = .ok (.getfield 11, 3) := by decide +kernel
theorem dX0_remember_35 : decode cX0_remember 35 = .ok (.iload_n 3, 1) := by decide +kernel
theorem dX0_remember_36 : decode cX0_remember 36 = .ok (.aaload, 1) := by decide +kernel
theorem dX0_remember_37 : decode cX0_remember 37 = .ok (.aastore, 1) := by decide +kernel
theorem dX0_remember_38 : decode cX0_remember 38 = .ok (.iinc 3 1, 3) := by decide +kernel
theorem dX0_remember_41 : decode cX0_remember 41 = .ok (.goto (-23), 3) := by decide +kernel
theorem dX0_remember_44 : decode cX0_remember 44 = .ok (.aload_n 0, 1) := by decide +kernel
theorem dX0_remember_45 : decode cX0_remember 45 = .ok (.getfield 11, 3) := by decide +kernel
theorem dX0_remember_48 : decode cX0_remember 48 = .ok (.bipush 19, 2) := by decide +kernel
theorem dX0_remember_50 : decode cX0_remember 50 = .ok (.aload_n 2, 1) := by decide +kernel
theorem dX0_remember_51 : decode cX0_remember 51 = .ok (.aastore, 1) := by decide +kernel
theorem dX0_remember_52 : decode cX0_remember 52 = .ok (.aload_n 0, 1) := by decide +kernel
theorem dX0_remember_53 : decode cX0_remember 53 = .ok (.bipush 19, 2) := by decide +kernel
theorem dX0_remember_55 : decode cX0_remember 55 = .ok (.putfield 17, 3) := by decide +kernel
theorem dX0_remember_58 : decode cX0_remember 58 = .ok (.aload_n 0, 1) := by decide +kernel
theorem dX0_remember_59 : decode cX0_remember 59 = .ok (.getfield 11, 3) := by decide +kernel
theorem dX0_remember_62 : decode cX0_remember 62 = .ok (.aload_n 0, 1) := by decide +kernel
theorem dX0_remember_63 : decode cX0_remember 63 = .ok (.getfield 17, 3) := by decide +kernel
theorem dX0_remember_66 : decode cX0_remember 66 = .ok (.aaload, 1) := by decide +kernel
theorem dX0_remember_67 : decode cX0_remember 67 = .ok (.aload_n 1, 1) := by decide +kernel
theorem dX0_remember_68 : decode cX0_remember 68 = .ok (.invokevirtual 22, 3) := by decide +kernel
theorem dX0_remember_71 : decode cX0_remember 71 = .ok (.aload_n 0, 1) := by decide +kernel
theorem dX0_remember_72 : decode cX0_remember 72 = .ok (.dup, 1) := by decide +kernel
theorem dX0_remember_73 : decode cX0_remember 73 = .ok (.getfield 17, 3) := by decide +kernel
theorem dX0_remember_76 : decode cX0_remember 76 = .ok (.iconst 1, 1) := by decide +kernel
theorem dX0_remember_77 : decode cX0_remember 77 = .ok (.iadd, 1) := by decide +kernel
theorem dX0_remember_78 : decode cX0_remember 78 = .ok (.putfield 17, 3) := by decide +kernel
theorem dX0_remember_81 : decode cX0_remember 81 = .ok (.return_, 1) := by decide +kernel
theorem dX0_takeBack_0 : decode cX0_takeBack 0 = .ok (.aload_n 0, 1) := by decide +kernel
theorem dX0_takeBack_1 : decode cX0_takeBack 1 = .ok (.getfield 17, 3) := by decide +kernel
theorem dX0_takeBack_4 : decode cX0_takeBack 4 = .ok (.ifCond .le 26, 3) := by decide +kernel
theorem dX0_takeBack_7 : decode cX0_takeBack 7 = .ok (.aload_n 0, 1) := by decide +kernel
theorem dX0_takeBack_8 : decode cX0_takeBack 8 = .ok (.dup, 1) := by decide +kernel
theorem dX0_takeBack_9 : decode cX0_takeBack 9 = .ok (.getfield 17, 3) := by decide +kernel
theorem dX0_takeBack_12 : decode cX0_takeBack 12 = .ok (.iconst 1, 1) := by decide +kernel
theorem dX0_takeBack_13 : decode cX0_takeBack 13 = .ok (.isub, 1) := by decide +kernel
theorem dX0_takeBack_14 : decode cX0_takeBack 14 = .ok (.putfield 17, 3) := by decide +kernel
theorem dX0_takeBack_17 : decode cX0_takeBack 17 = .ok (.aload_n 1, 1) := by decide +kernel
theorem dX0_takeBack_18 : decode cX0_takeBack 18 = .ok (.aload_n 0, 1) := by decide +kernel
theorem dX0_takeBack_19 : decode cX0_takeBack 19 = .ok (.getfield 11, 3) := by decide +kernel
theorem dX0_takeBack_22 : decode cX0_takeBack 22 = .ok (.aload_n 0, 1) := by decide +kernel
theorem dX0_takeBack_23 : decode cX0_takeBack 23 = .ok (.getfield 17, 3) := by decide +kernel
theorem dX0_takeBack_26 : decode cX0_takeBack 26 = .ok (.aaload, 1) := by decide +kernel
theorem dX0_takeBack_27 : decode cX0_takeBack 27 = .ok (.invokevirtual 22, 3) := by decide +kernel
theorem dX0_takeBack_30 : decode cX0_takeBack 30 = .ok (.return_, 1) := by decide +kernel
theorem dX1_init_0 : decode cX1_init 0 = .ok (.aload_n 0, 1) := by decide +kernel
theorem dX1_init_1 : decode cX1_init 1 = .ok (.invokespecial 3, 3) := by decide +kernel
theorem dX1_init_4 : decode cX1_init 4 = .ok (.aload_n 0, 1) := by decide +kernel
theorem dX1_init_5 : decode cX1_init 5 = .ok (.sipush 128, 3) := by decide +kernel
theorem dX1_init_8 : decode cX1_init 8 = .ok (.newarray .int, 2) := by decide +kernel
theorem dX1_init_10 : decode cX1_init 10 = .ok (.putfield 11, 3) := by decide +kernel
theorem dX1_init_13 : decode cX1_init 13 = .ok (.aload_n 0, 1) := by decide +kernel
theorem dX1_init_14 : decode cX1_init 14 = .ok (.bipush 28, 2) := by decide +kernel
theorem dX1_init_16 : decode cX1_init 16 = .ok (.newarray .int, 2) := by decide +kernel
theorem dX1_init_18 : decode cX1_init 18 = .ok (.putfield 15, 3) := by decide +kernel
theorem dX1_init_21 : decode cX1_init 21 = .ok (.aload_n 0, 1) := by decide +kernel
theorem dX1_init_22 : decode cX1_init 22 = .ok (.bipush 8, 2) := by decide +kernel
theorem dX1_init_24 : decode cX1_init 24 = .ok (.newarray .int, 2) := by decide +kernel
theorem dX1_init_26 : decode cX1_init 26 = .ok (.putfield 18, 3) := by decide +kernel
theorem dX1_init_29 : decode cX1_init 29 = .ok (.aload_n 0, 1) := by decide +kernel
theorem dX1_init_30 : decode cX1_init 30 = .ok (.sipush 256, 3) := by decide +kernel
theorem dX1_init_33 : decode cX1_init 33 = .ok (.newarray .int, 2) := by decide +kernel
theorem dX1_init_35 : decode cX1_init 35 = .ok (.putfield 21, 3) := by decide +kernel
theorem dX1_init_38 : decode cX1_init 38 = .ok (.aload_n 0, 1) := by decide +kernel
theorem dX1_init_39 : decode cX1_init 39 = .ok (.sipush 256, 3) := by decide +kernel
theorem dX1_init_42 : decode cX1_init 42 = .ok (.newarray .int, 2) := by decide +kernel
theorem dX1_init_44 : decode cX1_init 44 = .ok (.putfield 24, 3) := by decide +kernel
theorem dX1_init_47 : decode cX1_init 47 = .ok (.aload_n 0, 1) := by decide +kernel
theorem dX1_init_48 : decode cX1_init 48 = .ok (.bipush 6, 2) := by decide +kernel
theorem dX1_init_50 : decode cX1_init 50 = .ok (.sipush 256, 3) := by decide +kernel
theorem dX1_init_53 : decode cX1_init 53 = .ok (.multianewarray 27 2, 4) := by decide +kernel
theorem dX1_init_57 : decode cX1_init 57 = .ok (.putfield 29, 3) := by decide +kernel
theorem dX1_init_60 : decode cX1_init 60 = .ok (.return_, 1) := by decide +kernel
theorem dX1_lookAt_0 : decode cX1_lookAt 0 = .ok (.aload_n 2, 1) := by decide +kernel
theorem dX1_lookAt_1 : decode cX1_lookAt 1 = .ok (.getfield 32, 3) := by decide +kernel
theorem dX1_lookAt_4 : decode cX1_lookAt 4 = .ok (.iload_n 3, 1) := by decide +kernel
theorem dX1_lookAt_5 : decode cX1_lookAt 5 = .ok (.iaload, 1) := by decide +kernel
theorem dX1_lookAt_6 : decode cX1_lookAt 6 = .ok (.istore 4, 2) := by decide +kernel
theorem dX1_lookAt_8 : decode cX1_lookAt 8 = .ok (.aload_n 0, 1) := by decide +kernel
theorem dX1_lookAt_9 : decode cX1_lookAt 9 = .ok (.getfield 15, 3) := by decide +kernel
theorem dX1_lookAt_12 : decode cX1_lookAt 12 = .ok (.bipush 7, 2) := by decide +kernel
theorem dX1_lookAt_14 : decode cX1_lookAt 14 = .ok (.aload_n 2, 1) := by decide +kernel
theorem dX1_lookAt_15 : decode cX1_lookAt 15 = .ok (.getfield 37, 3) := by decide +kernel
theorem dX1_lookAt_18 : decode cX1_lookAt 18 = .ok (.iload_n 3, 1) := by decide +kernel
theorem dX1_lookAt_19 : decode cX1_lookAt 19 = .ok (.iaload, 1) := by decide +kernel
theorem dX1_lookAt_20 : decode cX1_lookAt 20 = .ok (.iastore, 1) := by decide +kernel
theorem dX1_lookAt_21 : decode cX1_lookAt 21 = .ok (.aload_n 0, 1) := by decide +kernel
theorem dX1_lookAt_22 : decode cX1_lookAt 22 = .ok (.getfield 15, 3) := by decide +kernel
theorem dX1_lookAt_25 : decode cX1_lookAt 25 = .ok (.bipush 15, 2) := by decide +kernel
theorem dX1_lookAt_27 : decode cX1_lookAt 27 = .ok (.aload_n 2, 1) := by decide +kernel
theorem dX1_lookAt_28 : decode cX1_lookAt 28 = .ok (.iload_n 3, 1) := by decide +kernel
theorem dX1_lookAt_29 : decode cX1_lookAt 29 = .ok (.invokevirtual 40, 3) := by decide +kernel
theorem dX1_lookAt_32 : decode cX1_lookAt 32 = .ok (.iastore, 1) := by decide +kernel
theorem dX1_lookAt_33 : decode cX1_lookAt 33 = .ok (.aload_n 0, 1) := by decide +kernel
theorem dX1_lookAt_34 : decode cX1_lookAt 34 = .ok (.getfield 15, 3) := by decide +kernel
theorem dX1_lookAt_37 : decode cX1_lookAt 37 = .ok (.bipush 16, 2) := by decide +kernel
theorem dX1_lookAt_39 : decode cX1_lookAt 39 = .ok (.aload_n 2, 1) := by decide +kernel
theorem dX1_lookAt_40 : decode cX1_lookAt 40 = .ok (.iload_n 3, 1) := by decide +kernel
theorem dX1_lookAt_41 : decode cX1_lookAt 41 = .ok (.invokevirtual 44, 3) := by decide +kernel
theorem dX1_lookAt_44 : decode cX1_lookAt 44 = .ok (.iastore, 1) := by decide +kernel
theorem dX1_lookAt_45 : decode cX1_lookAt 45 = .ok (.aload_n 0, 1) := by decide +kernel
theorem dX1_lookAt_46 : decode cX1_lookAt 46 = .ok (.getfield 15, 3) := by decide +kernel
theorem dX1_lookAt_49 : decode cX1_lookAt 49 = .ok (.bipush 17, 2) := by decide +kernel
theorem dX1_lookAt_51 : decode cX1_lookAt 51 = .ok (.aload_n 2, 1) := by decide +kernel
theorem dX1_lookAt_52 : decode cX1_lookAt 52 = .ok (.getfield 47, 3) := by decide +kernel
theorem dX1_lookAt_55 : decode cX1_lookAt 55 = .ok (.iload_n 3, 1) := by decide +kernel
theorem dX1_lookAt_56 : decode cX1_lookAt 56 = .ok (.iaload, 1) := by decide +kernel
theorem dX1_lookAt_57 : decode cX1_lookAt 57 = .ok (.iastore, 1) := by decide +kernel
theorem dX1_lookAt_58 : decode cX1_lookAt 58 = .ok (.aload_n 0, 1) := by decide +kernel
theorem dX1_lookAt_59 : decode cX1_lookAt 59 = .ok (.getfield 15, 3) := by decide +kernel
theorem dX1_lookAt_62 : decode cX1_lookAt 62 = .ok (.bipush 18, 2) := by decide +kernel
theorem dX1_lookAt_64 : decode cX1_lookAt 64 = .ok (.aload_n 2, 1) := by decide +kernel
theorem dX1_lookAt_65 : decode cX1_lookAt 65 = .ok (.getfield 50, 3) := by decide +kernel
theorem dX1_lookAt_68 : decode cX1_lookAt 68 = .ok (.iastore, 1) := by decide +kernel
theorem dX1_lookAt_69 : decode cX1_lookAt 69 = .ok (.aload_n 0, 1) := by decide +kernel
theorem dX1_lookAt_70 : decode cX1_lookAt 70 = .ok (.getfield 15, 3) := by decide +kernel
theorem dX1_lookAt_73 : decode cX1_lookAt 73 = .ok (.iconst 2, 1) := by decide +kernel
theorem dX1_lookAt_74 : decode cX1_lookAt 74 = .ok (.aload_n 1, 1) := by decide +kernel
theorem dX1_lookAt_75 : decode cX1_lookAt 75 = .ok (.iload 4, 2) := by decide +kernel
theorem dX1_lookAt_77 : decode cX1_lookAt 77 = .ok (.invokevirtual 54, 3) := by decide +kernel
theorem dX1_lookAt_80 : decode cX1_lookAt 80 = .ok (.iastore, 1) := by decide +kernel
theorem dX1_lookAt_81 : decode cX1_lookAt 81 = .ok (.aload_n 0, 1) := by decide +kernel
theorem dX1_lookAt_82 : decode cX1_lookAt 82 = .ok (.getfield 15, 3) := by decide +kernel
theorem dX1_lookAt_85 : decode cX1_lookAt 85 = .ok (.iconst 3, 1) := by decide +kernel
theorem dX1_lookAt_86 : decode cX1_lookAt 86 = .ok (.aload_n 1, 1) := by decide +kernel
theorem dX1_lookAt_87 : decode cX1_lookAt 87 = .ok (.iload 4, 2) := by decide +kernel
theorem dX1_lookAt_89 : decode cX1_lookAt 89 = .ok (.invokevirtual 59, 3) := by decide +kernel
theorem dX1_lookAt_92 : decode cX1_lookAt 92 = .ok (.iastore, 1) := by decide +kernel
theorem dX1_lookAt_93 : decode cX1_lookAt 93 = .ok (.aload_n 0, 1) := by decide +kernel
theorem dX1_lookAt_94 : decode cX1_lookAt 94 = .ok (.getfield 15, 3) := by decide +kernel
theorem dX1_lookAt_97 : decode cX1_lookAt 97 = .ok (.bipush 19, 2) := by decide +kernel
theorem dX1_lookAt_99 : decode cX1_lookAt 99 = .ok (.iload_n 3, 1) := by decide +kernel
theorem dX1_lookAt_100 : decode cX1_lookAt 100 = .ok (.iastore, 1) := by decide +kernel
theorem dX1_lookAt_101 : decode cX1_lookAt 101 = .ok (.aload_n 0, 1) := by decide +kernel
theorem dX1_lookAt_102 : decode cX1_lookAt 102 = .ok (.getfield 15, 3) := by decide +kernel
theorem dX1_lookAt_105 : decode cX1_lookAt 105 = .ok (.bipush 20, 2) := by decide +kernel
theorem dX1_lookAt_107 : decode cX1_lookAt 107 = .ok (.aload_n 2, 1) := by decide +kernel
theorem dX1_lookAt_108 : decode cX1_lookAt 108 = .ok (.iload_n 3, 1) := by decide +kernel
theorem dX1_lookAt_109 : decode cX1_lookAt 109 = .ok (.invokevirtual 62, 3) := by decide +kernel
theorem dX1_lookAt_112 : decode cX1_lookAt 112 = .ok (.ifCond .eq 7, 3) := by decide +kernel
theorem dX1_lookAt_115 : decode cX1_lookAt 115 = .ok (.iconst 0, 1) := by decide +kernel
theorem dX1_lookAt_116 : decode cX1_lookAt 116 = .ok (.goto 4, 3) := by decide +kernel
theorem dX1_lookAt_119 : decode cX1_lookAt 119 = .ok (.iconst 1, 1) := by decide +kernel
theorem dX1_lookAt_120 : decode cX1_lookAt 120 = .ok (.iastore, 1) := by decide +kernel
theorem dX1_lookAt_121 : decode cX1_lookAt 121 = .ok (.aload_n 0, 1) := by decide +kernel
theorem dX1_lookAt_122 : decode cX1_lookAt 122 = .ok (.getfield 15, 3) := by decide +kernel
theorem dX1_lookAt_125 : decode cX1_lookAt 125 = .ok (.iconst 5, 1) := by decide +kernel
theorem dX1_lookAt_126 : decode cX1_lookAt 126 = .ok (.iload 4, 2) := by decide +kernel
theorem dX1_lookAt_128 : decode cX1_lookAt 128 = .ok (.iastore, 1) := by decide +kernel
theorem dX1_lookAt_129 : decode cX1_lookAt 129 = .ok (.return_, 1) := by decide +kernel
theorem dX1_lookOn_0 : decode cX1_lookOn 0 = .ok (.aload_n 0, 1) := by decide +kernel
theorem dX1_lookOn_1 : decode cX1_lookOn 1 = .ok (.getfield 15, 3) := by decide +kernel
theorem dX1_lookOn_4 : decode cX1_lookOn 4 = .ok (.bipush 21, 2) := by decide +kernel
theorem dX1_lookOn_6 : decode cX1_lookOn 6 = .ok (.iload_n 1, 1) := by decide +kernel
theorem dX1_lookOn_7 : decode cX1_lookOn 7 = .ok (.iastore, 1) := by decide +kernel
theorem dX1_lookOn_8 : decode cX1_lookOn 8 = .ok (.return_, 1) := by decide +kernel
theorem dX1_valueOf_0 : decode cX1_valueOf 0 = .ok (.iload_n 2, 1) := by decide +kernel
theorem dX1_valueOf_1 : decode cX1_valueOf 1 = .ok (.ifCond .lt 8, 3) := by decide +kernel
theorem dX1_valueOf_4 : decode cX1_valueOf 4 = .ok (.iload_n 2, 1) := by decide +kernel
theorem dX1_valueOf_5 : decode cX1_valueOf 5 = .ok (.iconst 3, 1) := by decide +kernel
theorem dX1_valueOf_6 : decode cX1_valueOf 6 = .ok (.if_icmp .lt 5, 3) := by decide +kernel
theorem dX1_valueOf_9 : decode cX1_valueOf 9 = .ok (.iconst 0, 1) := by decide +kernel
theorem dX1_valueOf_10 : decode cX1_valueOf 10 = .ok (.ireturn, 1) := by decide +kernel
theorem dX1_valueOf_11 : decode cX1_valueOf 11 = .ok (.iconst 0, 1) := by decide +kernel
theorem dX1_valueOf_12 : decode cX1_valueOf 12 = .ok (.istore_n 3, 1) := by decide +kernel
theorem dX1_valueOf_13 : decode cX1_valueOf 13 = .ok (.aload_n 1, 1) := by decide +kernel
theorem dX1_valueOf_14 : decode cX1_valueOf 14 = .ok (.getfield 66, 3) := by decide +kernel
theorem dX1_valueOf_17 : decode cX1_valueOf 17 = .ok (.iload_n 2, 1) := by decide +kernel
theorem dX1_valueOf_18 : decode cX1_valueOf 18 = .ok (.iaload, 1) := by decide +kernel
theorem dX1_valueOf_19 : decode cX1_valueOf 19 = .ok (.istore 4, 2) := by decide +kernel
theorem dX1_valueOf_21 : decode cX1_valueOf 21 = .ok (.iload 4, 2) := by decide +kernel
theorem dX1_valueOf_23 : decode cX1_valueOf 23 = .ok (.aload_n 1, 1) := by decide +kernel
theorem dX1_valueOf_24 : decode cX1_valueOf 24 = .ok (.getfield 71, 3) := by decide +kernel
theorem dX1_valueOf_27 : decode cX1_valueOf 27 = .ok (.iload_n 2, 1) := by decide +kernel
theorem dX1_valueOf_28 : decode cX1_valueOf 28 = .ok (.iaload, 1) := by decide +kernel
theorem dX1_valueOf_29 : decode cX1_valueOf 29 = .ok (.if_icmp .ge 189, 3) := by decide +kernel
theorem dX1_valueOf_32 : decode cX1_valueOf 32 = .ok (.iload 4, 2) := by decide +kernel
theorem dX1_valueOf_34 : decode cX1_valueOf 34 = .ok (.sipush 1600, 3) := by decide +kernel
theorem dX1_valueOf_37 : decode cX1_valueOf 37 = .ok (.if_icmp .ge 181, 3) := by decide +kernel
theorem dX1_valueOf_40 : decode cX1_valueOf 40 = .ok (.aload_n 1, 1) := by decide +kernel
theorem dX1_valueOf_41 : decode cX1_valueOf 41 = .ok (.getfield 74, 3) := by decide +kernel
theorem dX1_valueOf_44 : decode cX1_valueOf 44 = .ok (.iload 4, 2) := by decide +kernel
theorem dX1_valueOf_46 : decode cX1_valueOf 46 = .ok (.iaload, 1) := by decide +kernel
theorem dX1_valueOf_47 : decode cX1_valueOf 47 = .ok (.istore 5, 2) := by decide +kernel
theorem dX1_valueOf_49 : decode cX1_valueOf 49 = .ok (.iload 5, 2) := by decide +kernel
theorem dX1_valueOf_51 : decode cX1_valueOf 51 = .ok (.sipush 10000, 3) := by decide +kernel
theorem dX1_valueOf_54 : decode cX1_valueOf 54 = .ok (.if_icmp .lt 11, 3) := by decide +kernel
theorem dX1_valueOf_57 : decode cX1_valueOf 57 = .ok (.iload 5, 2) := by decide +kernel
theorem dX1_valueOf_59 : decode cX1_valueOf 59 = .ok (.sipush 10100, 3) := by decide +kernel
theorem dX1_valueOf_62 : decode cX1_valueOf 62 = .ok (.if_icmp .lt 45, 3) := by decide +kernel
theorem dX1_valueOf_65 : decode cX1_valueOf 65 = .ok (.iload_n 3, 1) := by decide +kernel
theorem dX1_valueOf_66 : decode cX1_valueOf 66 = .ok (.sipush 128, 3) := by decide +kernel
theorem dX1_valueOf_69 : decode cX1_valueOf 69 = .ok (.if_icmp .ge 143, 3) := by decide +kernel
theorem dX1_valueOf_72 : decode cX1_valueOf 72 = .ok (.aload_n 0, 1) := by decide +kernel
theorem dX1_valueOf_73 : decode cX1_valueOf 73 = .ok (.getfield 11, 3) := by decide +kernel
theorem dX1_valueOf_76 : decode cX1_valueOf 76 = .ok (.iload_n 3, 1) := by decide +kernel
theorem dX1_valueOf_77 : decode cX1_valueOf 77 = .ok (.iload 5, 2) := by decide +kernel
theorem dX1_valueOf_79 : decode cX1_valueOf 79 = .ok (.sipush 10000, 3) := by decide +kernel
theorem dX1_valueOf_82 : decode cX1_valueOf 82 = .ok (.if_icmp .ge 8, 3) := by decide +kernel
theorem dX1_valueOf_85 : decode cX1_valueOf 85 = .ok (.iload 5, 2) := by decide +kernel
theorem dX1_valueOf_87 : decode cX1_valueOf 87 = .ok (.goto 13, 3) := by decide +kernel
theorem dX1_valueOf_90 : decode cX1_valueOf 90 = .ok (.aload_n 0, 1) := by decide +kernel
theorem dX1_valueOf_91 : decode cX1_valueOf 91 = .ok (.iload 5, 2) := by decide +kernel
theorem dX1_valueOf_93 : decode cX1_valueOf 93 = .ok (.sipush 10100, 3) := by decide +kernel
theorem dX1_valueOf_96 : decode cX1_valueOf 96 = .ok (.isub, 1) := by decide +kernel
theorem dX1_valueOf_97 : decode cX1_valueOf 97 = .ok (.invokevirtual 77, 3) := by decide +kernel
theorem dX1_valueOf_100 : decode cX1_valueOf 100 = .ok (.iastore, 1) := by decide +kernel
theorem dX1_valueOf_101 : decode cX1_valueOf 101 = .ok (.iinc 3 1, 3) := by decide +kernel
theorem dX1_valueOf_104 : decode cX1_valueOf 104 = .ok (.goto 108, 3) := by decide +kernel
theorem dX1_valueOf_107 : decode cX1_valueOf 107 = .ok (.iload 5, 2) := by decide +kernel
theorem dX1_valueOf_109 : decode cX1_valueOf 109 = .ok (.sipush 10011, 3) := by decide +kernel
theorem dX1_valueOf_112 : decode cX1_valueOf 112 = .ok (.if_icmp .eq 11, 3) := by decide +kernel
theorem dX1_valueOf_115 : decode cX1_valueOf 115 = .ok (.iload 5, 2) := by decide +kernel
theorem dX1_valueOf_117 : decode cX1_valueOf 117 = .ok (.sipush 10012, 3) := by decide +kernel
theorem dX1_valueOf_120 : decode cX1_valueOf 120 = .ok (.if_icmp .ne 57, 3) := by decide +kernel
theorem dX1_valueOf_123 : decode cX1_valueOf 123 = .ok (.iload_n 3, 1) := by decide +kernel
theorem dX1_valueOf_124 : decode cX1_valueOf 124 = .ok (.iconst 1, 1) := by decide +kernel
theorem dX1_valueOf_125 : decode cX1_valueOf 125 = .ok (.if_icmp .lt 87, 3) := by decide +kernel
theorem dX1_valueOf_128 : decode cX1_valueOf 128 = .ok (.iload 5, 2) := by decide +kernel
theorem dX1_valueOf_130 : decode cX1_valueOf 130 = .ok (.sipush 10011, 3) := by decide +kernel
theorem dX1_valueOf_133 : decode cX1_valueOf 133 = .ok (.if_icmp .ne 7, 3) := by decide +kernel
theorem dX1_valueOf_136 : decode cX1_valueOf 136 = .ok (.iconst 0, 1) := by decide +kernel
theorem dX1_valueOf_137 : decode cX1_valueOf 137 = .ok (.goto 9, 3) := by decide +kernel
theorem dX1_valueOf_140 : decode cX1_valueOf 140 = .ok (.aload_n 0, 1) := by decide +kernel
theorem dX1_valueOf_141 : decode cX1_valueOf 141 = .ok (.getfield 15, 3) := by decide +kernel
theorem dX1_valueOf_144 : decode cX1_valueOf 144 = .ok (.iconst 5, 1) := by decide +kernel
theorem dX1_valueOf_145 : decode cX1_valueOf 145 = .ok (.iaload, 1) := by decide +kernel
theorem dX1_valueOf_146 : decode cX1_valueOf 146 = .ok (.istore 6, 2) := by decide +kernel
theorem dX1_valueOf_148 : decode cX1_valueOf 148 = .ok (.aload_n 0, 1) := by decide +kernel
theorem dX1_valueOf_149 : decode cX1_valueOf 149 = .ok (.getfield 11, 3) := by decide +kernel
theorem dX1_valueOf_152 : decode cX1_valueOf 152 = .ok (.iload_n 3, 1) := by decide +kernel
theorem dX1_valueOf_153 : decode cX1_valueOf 153 = .ok (.iconst 1, 1) := by decide +kernel
theorem dX1_valueOf_154 : decode cX1_valueOf 154 = .ok (.isub, 1) := by decide +kernel
theorem dX1_valueOf_155 : decode cX1_valueOf 155 = .ok (.aload_n 0, 1) := by decide +kernel
theorem dX1_valueOf_156 : decode cX1_valueOf 156 = .ok (.getfield 11, 3) := by decide +kernel
theorem dX1_valueOf_159 : decode cX1_valueOf 159 = .ok (.iload_n 3, 1) := by decide +kernel
theorem dX1_valueOf_160 : decode cX1_valueOf 160 = .ok (.iconst 1, 1) := by decide +kernel
theorem dX1_valueOf_161 : decode cX1_valueOf 161 = .ok (.isub, 1) := by decide +kernel
theorem dX1_valueOf_162 : decode cX1_valueOf 162 = .ok (.iaload, 1) := by decide +kernel
theorem dX1_valueOf_163 : decode cX1_valueOf 163 = .ok (.iload 6, 2) := by decide +kernel
theorem dX1_valueOf_165 : decode cX1_valueOf 165 = .ok (.if_icmp .ne 7, 3) := by decide +kernel
theorem dX1_valueOf_168 : decode cX1_valueOf 168 = .ok (.iconst 1, 1) := by decide +kernel
theorem dX1_valueOf_169 : decode cX1_valueOf 169 = .ok (.goto 4, 3) := by decide +kernel
theorem dX1_valueOf_172 : decode cX1_valueOf 172 = .ok (.iconst 0, 1) := by decide +kernel
theorem dX1_valueOf_173 : decode cX1_valueOf 173 = .ok (.iastore, 1) := by decide +kernel
theorem dX1_valueOf_174 : decode cX1_valueOf 174 = .ok (.goto 38, 3) := by decide +kernel
theorem dX1_valueOf_177 : decode cX1_valueOf 177 = .ok (.iload_n 3, 1) := by decide +kernel
theorem dX1_valueOf_178 : decode cX1_valueOf 178 = .ok (.iconst 2, 1) := by decide +kernel
theorem dX1_valueOf_179 : decode cX1_valueOf 179 = .ok (.if_icmp .lt 33, 3) := by decide +kernel
theorem dX1_valueOf_182 : decode cX1_valueOf 182 = .ok (.iinc 3 (-1), 3) := by decide +kernel
theorem dX1_valueOf_185 : decode cX1_valueOf 185 = .ok (.aload_n 0, 1) := by decide +kernel
theorem dX1_valueOf_186 : decode cX1_valueOf 186 = .ok (.getfield 11, 3) := by decide +kernel
theorem dX1_valueOf_189 : decode cX1_valueOf 189 = .ok (.iload_n 3, 1) := by decide +kernel
theorem dX1_valueOf_190 : decode cX1_valueOf 190 = .ok (.iconst 1, 1) := by decide +kernel
theorem dX1_valueOf_191 : decode cX1_valueOf 191 = .ok (.isub, 1) := by decide +kernel
theorem dX1_valueOf_192 : decode cX1_valueOf 192 = .ok (.iload 5, 2) := by decide +kernel
theorem dX1_valueOf_194 : decode cX1_valueOf 194 = .ok (.aload_n 0, 1) := by decide +kernel
theorem dX1_valueOf_195 : decode cX1_valueOf 195 = .ok (.getfield 11, 3) := by decide +kernel
theorem dX1_valueOf_198 : decode cX1_valueOf 198 = .ok (.iload_n 3, 1) := by decide +kernel
theorem dX1_valueOf_199 : decode cX1_valueOf 199 = .ok (.iconst 1, 1) := by decide +kernel
theorem dX1_valueOf_200 : decode cX1_valueOf 200 = .ok (.isub, 1) := by decide +kernel
theorem dX1_valueOf_201 : decode cX1_valueOf 201 = .ok (.iaload, 1) := by decide +kernel
theorem dX1_valueOf_202 : decode cX1_valueOf 202 = .ok (.aload_n 0, 1) := by decide +kernel
theorem dX1_valueOf_203 : decode cX1_valueOf 203 = .ok (.getfield 11, 3) := by decide +kernel
theorem dX1_valueOf_206 : decode cX1_valueOf 206 = .ok (.iload_n 3, 1) := by decide +kernel
theorem dX1_valueOf_207 : decode cX1_valueOf 207 = .ok (.iaload, 1) := by decide +kernel
theorem dX1_valueOf_208 : decode cX1_valueOf 208 = .ok (.invokestatic 80, 3) := by decide +kernel
theorem dX1_valueOf_211 : decode cX1_valueOf 211 = .ok (.iastore, 1) := by decide +kernel
theorem dX1_valueOf_212 : decode cX1_valueOf 212 = .ok (.iinc 4 1, 3) := by decide +kernel
theorem dX1_valueOf_215 : decode cX1_valueOf 215 = .ok (.goto (-194), 3) := by decide +kernel
theorem dX1_valueOf_218 : decode cX1_valueOf 218 = .ok (.iload_n 3, 1) := by decide +kernel
theorem dX1_valueOf_219 : decode cX1_valueOf 219 = .ok (.ifCond .le 12, 3) := by decide +kernel
theorem dX1_valueOf_222 : decode cX1_valueOf 222 = .ok (.aload_n 0, 1) := by decide +kernel
theorem dX1_valueOf_223 : decode cX1_valueOf 223 = .ok (.getfield 11, 3) := by decide +kernel
theorem dX1_valueOf_226 : decode cX1_valueOf 226 = .ok (.iconst 0, 1) := by decide +kernel
theorem dX1_valueOf_227 : decode cX1_valueOf 227 = .ok (.iaload, 1) := by decide +kernel
theorem dX1_valueOf_228 : decode cX1_valueOf 228 = .ok (.goto 4, 3) := by decide +kernel
theorem dX1_valueOf_231 : decode cX1_valueOf 231 = .ok (.iconst 0, 1) := by decide +kernel
theorem dX1_valueOf_232 : decode cX1_valueOf 232 = .ok (.ireturn, 1) := by decide +kernel
theorem dX1_factOf_0 : decode cX1_factOf 0 = .ok (.iload_n 1, 1) := by decide +kernel
theorem dX1_factOf_1 : decode cX1_factOf 1 = .ok (.ifCond .lt 18, 3) := by decide +kernel
theorem dX1_factOf_4 : decode cX1_factOf 4 = .ok (.iload_n 1, 1) := by decide +kernel
theorem dX1_factOf_5 : decode cX1_factOf 5 = .ok (.bipush 28, 2) := by decide +kernel
theorem dX1_factOf_7 : decode cX1_factOf 7 = .ok (.if_icmp .ge 12, 3) := by decide +kernel
theorem dX1_factOf_10 : decode cX1_factOf 10 = .ok (.aload_n 0, 1) := by decide +kernel
theorem dX1_factOf_11 : decode cX1_factOf 11 = .ok (.getfield 15, 3) := by decide +kernel
theorem dX1_factOf_14 : decode cX1_factOf 14 = .ok (.iload_n 1, 1) := by decide +kernel
theorem dX1_factOf_15 : decode cX1_factOf 15 = .ok (.iaload, 1) := by decide +kernel
theorem dX1_factOf_16 : decode cX1_factOf 16 = .ok (.goto 4, 3) := by decide +kernel
theorem dX1_factOf_19 : decode cX1_factOf 19 = .ok (.iconst 0, 1) := by decide +kernel
theorem dX1_factOf_20 : decode cX1_factOf 20 = .ok (.ireturn, 1) := by decide +kernel
theorem dX1_join_0 : decode cX1_join 0 = .ok (.iload_n 0, 1) := by decide +kernel
theorem dX1_join_1 : decode cX1_join 1 = .ok (.tableswitch 182 10000 10010 #[59, 68, 77, 86, 104, 118, 132, 146, 154, 162, 172], 59) := by decide +kernel
theorem dX1_join_60 : decode cX1_join 60 = .ok (.iload_n 1, 1) := by decide +kernel
theorem dX1_join_61 : decode cX1_join 61 = .ok (.i2l, 1) := by decide +kernel
theorem dX1_join_62 : decode cX1_join 62 = .ok (.iload_n 2, 1) := by decide +kernel
theorem dX1_join_63 : decode cX1_join 63 = .ok (.i2l, 1) := by decide +kernel
theorem dX1_join_64 : decode cX1_join 64 = .ok (.ladd, 1) := by decide +kernel
theorem dX1_join_65 : decode cX1_join 65 = .ok (.lstore_n 3, 1) := by decide +kernel
theorem dX1_join_66 : decode cX1_join 66 = .ok (.goto 119, 3) := by decide +kernel
theorem dX1_join_69 : decode cX1_join 69 = .ok (.iload_n 1, 1) := by decide +kernel
theorem dX1_join_70 : decode cX1_join 70 = .ok (.i2l, 1) := by decide +kernel
theorem dX1_join_71 : decode cX1_join 71 = .ok (.iload_n 2, 1) := by decide +kernel
theorem dX1_join_72 : decode cX1_join 72 = .ok (.i2l, 1) := by decide +kernel
theorem dX1_join_73 : decode cX1_join 73 = .ok (.lsub, 1) := by decide +kernel
theorem dX1_join_74 : decode cX1_join 74 = .ok (.lstore_n 3, 1) := by decide +kernel
theorem dX1_join_75 : decode cX1_join 75 = .ok (.goto 110, 3) := by decide +kernel
theorem dX1_join_78 : decode cX1_join 78 = .ok (.iload_n 1, 1) := by decide +kernel
theorem dX1_join_79 : decode cX1_join 79 = .ok (.i2l, 1) := by decide +kernel
theorem dX1_join_80 : decode cX1_join 80 = .ok (.iload_n 2, 1) := by decide +kernel
theorem dX1_join_81 : decode cX1_join 81 = .ok (.i2l, 1) := by decide +kernel
theorem dX1_join_82 : decode cX1_join 82 = .ok (.lmul, 1) := by decide +kernel
theorem dX1_join_83 : decode cX1_join 83 = .ok (.lstore_n 3, 1) := by decide +kernel
theorem dX1_join_84 : decode cX1_join 84 = .ok (.goto 101, 3) := by decide +kernel
theorem dX1_join_87 : decode cX1_join 87 = .ok (.iload_n 2, 1) := by decide +kernel
theorem dX1_join_88 : decode cX1_join 88 = .ok (.ifCond .ne 7, 3) := by decide +kernel
theorem dX1_join_91 : decode cX1_join 91 = .ok (.lconst 0, 1) := by decide +kernel
theorem dX1_join_92 : decode cX1_join 92 = .ok (.goto 9, 3) := by decide +kernel
theorem dX1_join_95 : decode cX1_join 95 = .ok (.iload_n 1, 1) := by decide +kernel
theorem dX1_join_96 : decode cX1_join 96 = .ok (.iload_n 2, 1) := by decide +kernel
theorem dX1_join_97 : decode cX1_join 97 = .ok (.invokestatic 84, 3) := by decide +kernel
theorem dX1_join_100 : decode cX1_join 100 = .ok (.i2l, 1) := by decide +kernel
theorem dX1_join_101 : decode cX1_join 101 = .ok (.lstore_n 3, 1) := by decide +kernel
theorem dX1_join_102 : decode cX1_join 102 = .ok (.goto 83, 3) := by decide +kernel
theorem dX1_join_105 : decode cX1_join 105 = .ok (.iload_n 1, 1) := by decide +kernel
theorem dX1_join_106 : decode cX1_join 106 = .ok (.iload_n 2, 1) := by decide +kernel
theorem dX1_join_107 : decode cX1_join 107 = .ok (.if_icmp .ge 7, 3) := by decide +kernel
theorem dX1_join_110 : decode cX1_join 110 = .ok (.lconst 1, 1) := by decide +kernel
theorem dX1_join_111 : decode cX1_join 111 = .ok (.goto 4, 3) := by decide +kernel
theorem dX1_join_114 : decode cX1_join 114 = .ok (.lconst 0, 1) := by decide +kernel
theorem dX1_join_115 : decode cX1_join 115 = .ok (.lstore_n 3, 1) := by decide +kernel
theorem dX1_join_116 : decode cX1_join 116 = .ok (.goto 69, 3) := by decide +kernel
theorem dX1_join_119 : decode cX1_join 119 = .ok (.iload_n 1, 1) := by decide +kernel
theorem dX1_join_120 : decode cX1_join 120 = .ok (.iload_n 2, 1) := by decide +kernel
theorem dX1_join_121 : decode cX1_join 121 = .ok (.if_icmp .le 7, 3) := by decide +kernel
theorem dX1_join_124 : decode cX1_join 124 = .ok (.lconst 1, 1) := by decide +kernel
theorem dX1_join_125 : decode cX1_join 125 = .ok (.goto 4, 3) := by decide +kernel
theorem dX1_join_128 : decode cX1_join 128 = .ok (.lconst 0, 1) := by decide +kernel
theorem dX1_join_129 : decode cX1_join 129 = .ok (.lstore_n 3, 1) := by decide +kernel
theorem dX1_join_130 : decode cX1_join 130 = .ok (.goto 55, 3) := by decide +kernel
theorem dX1_join_133 : decode cX1_join 133 = .ok (.iload_n 1, 1) := by decide +kernel
theorem dX1_join_134 : decode cX1_join 134 = .ok (.iload_n 2, 1) := by decide +kernel
theorem dX1_join_135 : decode cX1_join 135 = .ok (.if_icmp .ne 7, 3) := by decide +kernel
theorem dX1_join_138 : decode cX1_join 138 = .ok (.lconst 1, 1) := by decide +kernel
theorem dX1_join_139 : decode cX1_join 139 = .ok (.goto 4, 3) := by decide +kernel
theorem dX1_join_142 : decode cX1_join 142 = .ok (.lconst 0, 1) := by decide +kernel
theorem dX1_join_143 : decode cX1_join 143 = .ok (.lstore_n 3, 1) := by decide +kernel
theorem dX1_join_144 : decode cX1_join 144 = .ok (.goto 41, 3) := by decide +kernel
theorem dX1_join_147 : decode cX1_join 147 = .ok (.iload_n 1, 1) := by decide +kernel
theorem dX1_join_148 : decode cX1_join 148 = .ok (.iload_n 2, 1) := by decide +kernel
theorem dX1_join_149 : decode cX1_join 149 = .ok (.iand, 1) := by decide +kernel
theorem dX1_join_150 : decode cX1_join 150 = .ok (.i2l, 1) := by decide +kernel
theorem dX1_join_151 : decode cX1_join 151 = .ok (.lstore_n 3, 1) := by decide +kernel
theorem dX1_join_152 : decode cX1_join 152 = .ok (.goto 33, 3) := by decide +kernel
theorem dX1_join_155 : decode cX1_join 155 = .ok (.iload_n 1, 1) := by decide +kernel
theorem dX1_join_156 : decode cX1_join 156 = .ok (.iload_n 2, 1) := by decide +kernel
theorem dX1_join_157 : decode cX1_join 157 = .ok (.ior, 1) := by decide +kernel
theorem dX1_join_158 : decode cX1_join 158 = .ok (.i2l, 1) := by decide +kernel
theorem dX1_join_159 : decode cX1_join 159 = .ok (.lstore_n 3, 1) := by decide +kernel
theorem dX1_join_160 : decode cX1_join 160 = .ok (.goto 25, 3) := by decide +kernel
theorem dX1_join_163 : decode cX1_join 163 = .ok (.iload_n 1, 1) := by decide +kernel
theorem dX1_join_164 : decode cX1_join 164 = .ok (.iload_n 2, 1) := by decide +kernel
theorem dX1_join_165 : decode cX1_join 165 = .ok (.invokestatic 90, 3) := by decide +kernel
theorem dX1_join_168 : decode cX1_join 168 = .ok (.i2l, 1) := by decide +kernel
theorem dX1_join_169 : decode cX1_join 169 = .ok (.lstore_n 3, 1) := by decide +kernel
theorem dX1_join_170 : decode cX1_join 170 = .ok (.goto 15, 3) := by decide +kernel
theorem dX1_join_173 : decode cX1_join 173 = .ok (.iload_n 1, 1) := by decide +kernel
theorem dX1_join_174 : decode cX1_join 174 = .ok (.iload_n 2, 1) := by decide +kernel
theorem dX1_join_175 : decode cX1_join 175 = .ok (.invokestatic 93, 3) := by decide +kernel
theorem dX1_join_178 : decode cX1_join 178 = .ok (.i2l, 1) := by decide +kernel
theorem dX1_join_179 : decode cX1_join 179 = .ok (.lstore_n 3, 1) := by decide +kernel
theorem dX1_join_180 : decode cX1_join 180 = .ok (.goto 5, 3) := by decide +kernel
theorem dX1_join_183 : decode cX1_join 183 = .ok (.lconst 0, 1) := by decide +kernel
theorem dX1_join_184 : decode cX1_join 184 = .ok (.lstore_n 3, 1) := by decide +kernel
theorem dX1_join_185 : decode cX1_join 185 = .ok (.ldc2_w 96, 3) := by decide +kernel
theorem dX1_join_188 : decode cX1_join 188 = .ok (.ldc2_w 98, 3) := by decide +kernel
theorem dX1_join_191 : decode cX1_join 191 = .ok (.lload_n 3, 1) := by decide +kernel
theorem dX1_join_192 : decode cX1_join 192 = .ok (.invokestatic 100, 3) := by decide +kernel
theorem dX1_join_195 : decode cX1_join 195 = .ok (.invokestatic 103, 3) := by decide +kernel
theorem dX1_join_198 : decode cX1_join 198 = .ok (.l2i, 1) := by decide +kernel
theorem dX1_join_199 : decode cX1_join 199 = .ok (.ireturn, 1) := by decide +kernel
theorem dX1_canPlay_0 : decode cX1_canPlay 0 = .ok (.aload_n 2, 1) := by decide +kernel
theorem dX1_canPlay_1 : decode cX1_canPlay 1 = .ok (.iload_n 3, 1) := by decide +kernel
theorem dX1_canPlay_2 : decode cX1_canPlay 2 = .ok (.invokevirtual 62, 3) := by decide +kernel
theorem dX1_canPlay_5 : decode cX1_canPlay 5 = .ok (.ifCond .eq 12, 3) := by decide +kernel
theorem dX1_canPlay_8 : decode cX1_canPlay 8 = .ok (.aload_n 2, 1) := by decide +kernel
theorem dX1_canPlay_9 : decode cX1_canPlay 9 = .ok (.getfield 37, 3) := by decide +kernel
theorem dX1_canPlay_12 : decode cX1_canPlay 12 = .ok (.iload_n 3, 1) := by decide +kernel
theorem dX1_canPlay_13 : decode cX1_canPlay 13 = .ok (.iaload, 1) := by decide +kernel
theorem dX1_canPlay_14 : decode cX1_canPlay 14 = .ok (.ifCond .ne 5, 3) := by decide +kernel
theorem dX1_canPlay_17 : decode cX1_canPlay 17 = .ok (.iconst 0, 1) := by decide +kernel
theorem dX1_canPlay_18 : decode cX1_canPlay 18 = .ok (.ireturn, 1) := by decide +kernel
theorem dX1_canPlay_19 : decode cX1_canPlay 19 = .ok (.aload_n 0, 1) := by decide +kernel
theorem dX1_canPlay_20 : decode cX1_canPlay 20 = .ok (.aload_n 1, 1) := by decide +kernel
theorem dX1_canPlay_21 : decode cX1_canPlay 21 = .ok (.aload_n 2, 1) := by decide +kernel
theorem dX1_canPlay_22 : decode cX1_canPlay 22 = .ok (.iload_n 3, 1) := by decide +kernel
theorem dX1_canPlay_23 : decode cX1_canPlay 23 = .ok (.invokevirtual 105, 3) := by decide +kernel
theorem dX1_canPlay_26 : decode cX1_canPlay 26 = .ok (.aload_n 0, 1) := by decide +kernel
theorem dX1_canPlay_27 : decode cX1_canPlay 27 = .ok (.aload_n 1, 1) := by decide +kernel
theorem dX1_canPlay_28 : decode cX1_canPlay 28 = .ok (.getfield 109, 3) := by decide +kernel
theorem dX1_canPlay_31 : decode cX1_canPlay 31 = .ok (.iconst 1, 1) := by decide +kernel
theorem dX1_canPlay_32 : decode cX1_canPlay 32 = .ok (.invokevirtual 113, 3) := by decide +kernel
theorem dX1_canPlay_35 : decode cX1_canPlay 35 = .ok (.ifCond .eq 7, 3) := by decide +kernel
theorem dX1_canPlay_38 : decode cX1_canPlay 38 = .ok (.iconst 1, 1) := by decide +kernel
theorem dX1_canPlay_39 : decode cX1_canPlay 39 = .ok (.goto 4, 3) := by decide +kernel
theorem dX1_canPlay_42 : decode cX1_canPlay 42 = .ok (.iconst 0, 1) := by decide +kernel
theorem dX1_canPlay_43 : decode cX1_canPlay 43 = .ok (.ireturn, 1) := by decide +kernel
theorem dX1_canBits_0 : decode cX1_canBits 0 = .ok (.iconst 0, 1) := by decide +kernel
theorem dX1_canBits_1 : decode cX1_canBits 1 = .ok (.istore_n 3, 1) := by decide +kernel
theorem dX1_canBits_2 : decode cX1_canBits 2 = .ok (.iconst 0, 1) := by decide +kernel
theorem dX1_canBits_3 : decode cX1_canBits 3 = .ok (.istore 4, 2) := by decide +kernel
theorem dX1_canBits_5 : decode cX1_canBits 5 = .ok (.iload 4, 2) := by decide +kernel
theorem dX1_canBits_7 : decode cX1_canBits 7 = .ok (.aload_n 1, 1) := by decide +kernel
theorem dX1_canBits_8 : decode cX1_canBits 8 = .ok (.getfield 117, 3) := by decide +kernel
theorem dX1_canBits_11 : decode cX1_canBits 11 = .ok (.if_icmp .ge 27, 3) := by decide +kernel
theorem dX1_canBits_14 : decode cX1_canBits 14 = .ok (.aload_n 0, 1) := by decide +kernel
theorem dX1_canBits_15 : decode cX1_canBits 15 = .ok (.aload_n 1, 1) := by decide +kernel
theorem dX1_canBits_16 : decode cX1_canBits 16 = .ok (.aload_n 2, 1) := by decide +kernel
theorem dX1_canBits_17 : decode cX1_canBits 17 = .ok (.iload 4, 2) := by decide +kernel
theorem dX1_canBits_19 : decode cX1_canBits 19 = .ok (.invokevirtual 120, 3) := by decide +kernel
theorem dX1_canBits_22 : decode cX1_canBits 22 = .ok (.ifCond .eq 10, 3) := by decide +kernel
theorem dX1_canBits_25 : decode cX1_canBits 25 = .ok (.iload_n 3, 1) := by decide +kernel
theorem dX1_canBits_26 : decode cX1_canBits 26 = .ok (.iconst 1, 1) := by decide +kernel
theorem dX1_canBits_27 : decode cX1_canBits 27 = .ok (.iload 4, 2) := by decide +kernel
theorem dX1_canBits_29 : decode cX1_canBits 29 = .ok (.ishl, 1) := by decide +kernel
theorem dX1_canBits_30 : decode cX1_canBits 30 = .ok (.ior, 1) := by decide +kernel
theorem dX1_canBits_31 : decode cX1_canBits 31 = .ok (.istore_n 3, 1) := by decide +kernel
theorem dX1_canBits_32 : decode cX1_canBits 32 = .ok (.iinc 4 1, 3) := by decide +kernel
theorem dX1_canBits_35 : decode cX1_canBits 35 = .ok (.goto (-30), 3) := by decide +kernel
theorem dX1_canBits_38 : decode cX1_canBits 38 = .ok (.iload_n 3, 1) := by decide +kernel
theorem dX1_canBits_39 : decode cX1_canBits 39 = .ok (.ireturn, 1) := by decide +kernel
theorem dX1_worthOf_0 : decode cX1_worthOf 0 = .ok (.aload_n 0, 1) := by decide +kernel
theorem dX1_worthOf_1 : decode cX1_worthOf 1 = .ok (.aload_n 1, 1) := by decide +kernel
theorem dX1_worthOf_2 : decode cX1_worthOf 2 = .ok (.aload_n 2, 1) := by decide +kernel
theorem dX1_worthOf_3 : decode cX1_worthOf 3 = .ok (.iload_n 3, 1) := by decide +kernel
theorem dX1_worthOf_4 : decode cX1_worthOf 4 = .ok (.invokevirtual 105, 3) := by decide +kernel
theorem dX1_worthOf_7 : decode cX1_worthOf 7 = .ok (.aload_n 0, 1) := by decide +kernel
theorem dX1_worthOf_8 : decode cX1_worthOf 8 = .ok (.aload_n 1, 1) := by decide +kernel
theorem dX1_worthOf_9 : decode cX1_worthOf 9 = .ok (.getfield 109, 3) := by decide +kernel
theorem dX1_worthOf_12 : decode cX1_worthOf 12 = .ok (.iconst 2, 1) := by decide +kernel
theorem dX1_worthOf_13 : decode cX1_worthOf 13 = .ok (.invokevirtual 113, 3) := by decide +kernel
theorem dX1_worthOf_16 : decode cX1_worthOf 16 = .ok (.ireturn, 1) := by decide +kernel
theorem dX1_minutesOf_0 : decode cX1_minutesOf 0 = .ok (.iconst 0, 1) := by decide +kernel
theorem dX1_minutesOf_1 : decode cX1_minutesOf 1 = .ok (.istore 4, 2) := by decide +kernel
theorem dX1_minutesOf_3 : decode cX1_minutesOf 3 = .ok (.iconst 0, 1) := by decide +kernel
theorem dX1_minutesOf_4 : decode cX1_minutesOf 4 = .ok (.istore 5, 2) := by decide +kernel
theorem dX1_minutesOf_6 : decode cX1_minutesOf 6 = .ok (.iload 5, 2) := by decide +kernel
theorem dX1_minutesOf_8 : decode cX1_minutesOf 8 = .ok (.aload_n 1, 1) := by decide +kernel
theorem dX1_minutesOf_9 : decode cX1_minutesOf 9 = .ok (.getfield 117, 3) := by decide +kernel
theorem dX1_minutesOf_12 : decode cX1_minutesOf 12 = .ok (.if_icmp .ge 35, 3) := by decide +kernel
theorem dX1_minutesOf_15 : decode cX1_minutesOf 15 = .ok (.iload_n 3, 1) := by decide +kernel
theorem dX1_minutesOf_16 : decode cX1_minutesOf 16 = .ok (.iload 5, 2) := by decide +kernel
theorem dX1_minutesOf_18 : decode cX1_minutesOf 18 = .ok (.ishr, 1) := by decide +kernel
theorem dX1_minutesOf_19 : decode cX1_minutesOf 19 = .ok (.iconst 1, 1) := by decide +kernel
theorem dX1_minutesOf_20 : decode cX1_minutesOf 20 = .ok (.iand, 1) := by decide +kernel
theorem dX1_minutesOf_21 : decode cX1_minutesOf 21 = .ok (.iconst 1, 1) := by decide +kernel
theorem dX1_minutesOf_22 : decode cX1_minutesOf 22 = .ok (.if_icmp .ne 19, 3) := by decide +kernel
theorem dX1_minutesOf_25 : decode cX1_minutesOf 25 = .ok (.iload 4, 2) := by decide +kernel
theorem dX1_minutesOf_27 : decode cX1_minutesOf 27 = .ok (.aload_n 1, 1) := by decide +kernel
theorem dX1_minutesOf_28 : decode cX1_minutesOf 28 = .ok (.aload_n 2, 1) := by decide +kernel
theorem dX1_minutesOf_29 : decode cX1_minutesOf 29 = .ok (.getfield 32, 3) := by decide +kernel
theorem dX1_minutesOf_32 : decode cX1_minutesOf 32 = .ok (.iload 5, 2) := by decide +kernel
theorem dX1_minutesOf_34 : decode cX1_minutesOf 34 = .ok (.iaload, 1) := by decide +kernel
theorem dX1_minutesOf_35 : decode cX1_minutesOf 35 = .ok (.invokevirtual 54, 3) := by decide +kernel
theorem dX1_minutesOf_38 : decode cX1_minutesOf 38 = .ok (.iadd, 1) := by decide +kernel
theorem dX1_minutesOf_39 : decode cX1_minutesOf 39 = .ok (.istore 4, 2) := by decide +kernel
theorem dX1_minutesOf_41 : decode cX1_minutesOf 41 = .ok (.iinc 5 1, 3) := by decide +kernel
theorem dX1_minutesOf_44 : decode cX1_minutesOf 44 = .ok (.goto (-38), 3) := by decide +kernel
theorem dX1_minutesOf_47 : decode cX1_minutesOf 47 = .ok (.iload 4, 2) := by decide +kernel
theorem dX1_minutesOf_49 : decode cX1_minutesOf 49 = .ok (.ireturn, 1) := by decide +kernel
theorem dX1_gather_0 : decode cX1_gather 0 = .ok (.iconst 0, 1) := by decide +kernel
theorem dX1_gather_1 : decode cX1_gather 1 = .ok (.istore_n 3, 1) := by decide +kernel
theorem dX1_gather_2 : decode cX1_gather 2 = .ok (.aload_n 0, 1) := by decide +kernel
theorem dX1_gather_3 : decode cX1_gather 3 = .ok (.getfield 21, 3) := by decide +kernel
theorem dX1_gather_6 : decode cX1_gather 6 = .ok (.iconst 0, 1) := by decide +kernel
theorem dX1_gather_7 : decode cX1_gather 7 = .ok (.iconst 0, 1) := by decide +kernel
theorem dX1_gather_8 : decode cX1_gather 8 = .ok (.iastore, 1) := by decide +kernel
theorem dX1_gather_9 : decode cX1_gather 9 = .ok (.aload_n 0, 1) := by decide +kernel
theorem dX1_gather_10 : decode cX1_gather 10 = .ok (.getfield 24, 3) := by decide +kernel
theorem dX1_gather_13 : decode cX1_gather 13 = .ok (.iconst 0, 1) := by decide +kernel
theorem dX1_gather_14 : decode cX1_gather 14 = .ok (.iconst 0, 1) := by decide +kernel
theorem dX1_gather_15 : decode cX1_gather 15 = .ok (.iastore, 1) := by decide +kernel
theorem dX1_gather_16 : decode cX1_gather 16 = .ok (.iconst 0, 1) := by decide +kernel
theorem dX1_gather_17 : decode cX1_gather 17 = .ok (.istore 4, 2) := by decide +kernel
theorem dX1_gather_19 : decode cX1_gather 19 = .ok (.iload 4, 2) := by decide +kernel
theorem dX1_gather_21 : decode cX1_gather 21 = .ok (.aload_n 1, 1) := by decide +kernel
theorem dX1_gather_22 : decode cX1_gather 22 = .ok (.getfield 117, 3) := by decide +kernel
theorem dX1_gather_25 : decode cX1_gather 25 = .ok (.if_icmp .ge 64, 3) := by decide +kernel
theorem dX1_gather_28 : decode cX1_gather 28 = .ok (.iload 4, 2) := by decide +kernel
theorem dX1_gather_30 : decode cX1_gather 30 = .ok (.bipush 8, 2) := by decide +kernel
theorem dX1_gather_32 : decode cX1_gather 32 = .ok (.if_icmp .ge 57, 3) := by decide +kernel
theorem dX1_gather_35 : decode cX1_gather 35 = .ok (.aload_n 0, 1) := by decide +kernel
theorem dX1_gather_36 : decode cX1_gather 36 = .ok (.aload_n 1, 1) := by decide +kernel
theorem dX1_gather_37 : decode cX1_gather 37 = .ok (.aload_n 2, 1) := by decide +kernel
theorem dX1_gather_38 : decode cX1_gather 38 = .ok (.iload 4, 2) := by decide +kernel
theorem dX1_gather_40 : decode cX1_gather 40 = .ok (.invokevirtual 120, 3) := by decide +kernel
theorem dX1_gather_43 : decode cX1_gather 43 = .ok (.ifCond .eq 40, 3) := by decide +kernel
theorem dX1_gather_46 : decode cX1_gather 46 = .ok (.aload_n 0, 1) := by decide +kernel
theorem dX1_gather_47 : decode cX1_gather 47 = .ok (.getfield 18, 3) := by decide +kernel
theorem dX1_gather_50 : decode cX1_gather 50 = .ok (.iload_n 3, 1) := by decide +kernel
theorem dX1_gather_51 : decode cX1_gather 51 = .ok (.iload 4, 2) := by decide +kernel
theorem dX1_gather_53 : decode cX1_gather 53 = .ok (.iastore, 1) := by decide +kernel
theorem dX1_gather_54 : decode cX1_gather 54 = .ok (.aload_n 0, 1) := by decide +kernel
theorem dX1_gather_55 : decode cX1_gather 55 = .ok (.iconst 1, 1) := by decide +kernel
theorem dX1_gather_56 : decode cX1_gather 56 = .ok (.iload_n 3, 1) := by decide +kernel
theorem dX1_gather_57 : decode cX1_gather 57 = .ok (.ishl, 1) := by decide +kernel
theorem dX1_gather_58 : decode cX1_gather 58 = .ok (.aload_n 1, 1) := by decide +kernel
theorem dX1_gather_59 : decode cX1_gather 59 = .ok (.aload_n 2, 1) := by decide +kernel
theorem dX1_gather_60 : decode cX1_gather 60 = .ok (.getfield 32, 3) := by decide +kernel
theorem dX1_gather_63 : decode cX1_gather 63 = .ok (.iload 4, 2) := by decide +kernel
theorem dX1_gather_65 : decode cX1_gather 65 = .ok (.iaload, 1) := by decide +kernel
theorem dX1_gather_66 : decode cX1_gather 66 = .ok (.invokevirtual 54, 3) := by decide +kernel
theorem dX1_gather_69 : decode cX1_gather 69 = .ok (.aload_n 0, 1) := by decide +kernel
theorem dX1_gather_70 : decode cX1_gather 70 = .ok (.aload_n 1, 1) := by decide +kernel
theorem dX1_gather_71 : decode cX1_gather 71 = .ok (.aload_n 2, 1) := by decide +kernel
theorem dX1_gather_72 : decode cX1_gather 72 = .ok (.iload 4, 2) := by decide +kernel
theorem dX1_gather_74 : decode cX1_gather 74 = .ok (.invokevirtual 124, 3) := by decide +kernel
theorem dX1_gather_77 : decode cX1_gather 77 = .ok (.invokevirtual 128, 3) := by decide +kernel
theorem dX1_gather_80 : decode cX1_gather 80 = .ok (.iinc 3 1, 3) := by decide +kernel
theorem dX1_gather_83 : decode cX1_gather 83 = .ok (.iinc 4 1, 3) := by decide +kernel
theorem dX1_gather_86 : decode cX1_gather 86 = .ok (.goto (-67), 3) := by decide +kernel
theorem dX1_gather_89 : decode cX1_gather 89 = .ok (.iload_n 3, 1) := by decide +kernel
theorem dX1_gather_90 : decode cX1_gather 90 = .ok (.ireturn, 1) := by decide +kernel
theorem dX1_addToSets_0 : decode cX1_addToSets 0 = .ok (.iconst 0, 1) := by decide +kernel
theorem dX1_addToSets_1 : decode cX1_addToSets 1 = .ok (.istore 4, 2) := by decide +kernel
theorem dX1_addToSets_3 : decode cX1_addToSets 3 = .ok (.iload 4, 2) := by decide +kernel
theorem dX1_addToSets_5 : decode cX1_addToSets 5 = .ok (.iload_n 1, 1) := by decide +kernel
theorem dX1_addToSets_6 : decode cX1_addToSets 6 = .ok (.if_icmp .ge 55, 3) := by decide +kernel
theorem dX1_addToSets_9 : decode cX1_addToSets 9 = .ok (.iload_n 1, 1) := by decide +kernel
theorem dX1_addToSets_10 : decode cX1_addToSets 10 = .ok (.iload 4, 2) := by decide +kernel
theorem dX1_addToSets_12 : decode cX1_addToSets 12 = .ok (.iadd, 1) := by decide +kernel
theorem dX1_addToSets_13 : decode cX1_addToSets 13 = .ok (.sipush 256, 3) := by decide +kernel
theorem dX1_addToSets_16 : decode cX1_addToSets 16 = .ok (.if_icmp .ge 45, 3) := by decide +kernel
theorem dX1_addToSets_19 : decode cX1_addToSets 19 = .ok (.aload_n 0, 1) := by decide +kernel
theorem dX1_addToSets_20 : decode cX1_addToSets 20 = .ok (.getfield 21, 3) := by decide +kernel
theorem dX1_addToSets_23 : decode cX1_addToSets 23 = .ok (.iload_n 1, 1) := by decide +kernel
theorem dX1_addToSets_24 : decode cX1_addToSets 24 = .ok (.iload 4, 2) := by decide +kernel
theorem dX1_addToSets_26 : decode cX1_addToSets 26 = .ok (.iadd, 1) := by decide +kernel
theorem dX1_addToSets_27 : decode cX1_addToSets 27 = .ok (.aload_n 0, 1) := by decide +kernel
theorem dX1_addToSets_28 : decode cX1_addToSets 28 = .ok (.getfield 21, 3) := by decide +kernel
theorem dX1_addToSets_31 : decode cX1_addToSets 31 = .ok (.iload 4, 2) := by decide +kernel
theorem dX1_addToSets_33 : decode cX1_addToSets 33 = .ok (.iaload, 1) := by decide +kernel
theorem dX1_addToSets_34 : decode cX1_addToSets 34 = .ok (.iload_n 2, 1) := by decide +kernel
theorem dX1_addToSets_35 : decode cX1_addToSets 35 = .ok (.iadd, 1) := by decide +kernel
theorem dX1_addToSets_36 : decode cX1_addToSets 36 = .ok (.iastore, 1) := by decide +kernel
theorem dX1_addToSets_37 : decode cX1_addToSets 37 = .ok (.aload_n 0, 1) := by decide +kernel
theorem dX1_addToSets_38 : decode cX1_addToSets 38 = .ok (.getfield 24, 3) := by decide +kernel
theorem dX1_addToSets_41 : decode cX1_addToSets 41 = .ok (.iload_n 1, 1) := by decide +kernel
theorem dX1_addToSets_42 : decode cX1_addToSets 42 = .ok (.iload 4, 2) := by decide +kernel
theorem dX1_addToSets_44 : decode cX1_addToSets 44 = .ok (.iadd, 1) := by decide +kernel
theorem dX1_addToSets_45 : decode cX1_addToSets 45 = .ok (.aload_n 0, 1) := by decide +kernel
theorem dX1_addToSets_46 : decode cX1_addToSets 46 = .ok (.getfield 24, 3) := by decide +kernel
theorem dX1_addToSets_49 : decode cX1_addToSets 49 = .ok (.iload 4, 2) := by decide +kernel
theorem dX1_addToSets_51 : decode cX1_addToSets 51 = .ok (.iaload, 1) := by decide +kernel
theorem dX1_addToSets_52 : decode cX1_addToSets 52 = .ok (.iload_n 3, 1) := by decide +kernel
theorem dX1_addToSets_53 : decode cX1_addToSets 53 = .ok (.iadd, 1) := by decide +kernel
theorem dX1_addToSets_54 : decode cX1_addToSets 54 = .ok (.iastore, 1) := by decide +kernel
theorem dX1_addToSets_55 : decode cX1_addToSets 55 = .ok (.iinc 4 1, 3) := by decide +kernel
theorem dX1_addToSets_58 : decode cX1_addToSets 58 = .ok (.goto (-55), 3) := by decide +kernel
theorem dX1_addToSets_61 : decode cX1_addToSets 61 = .ok (.return_, 1) := by decide +kernel
theorem dX1_spread_0 : decode cX1_spread 0 = .ok (.iconst 0, 1) := by decide +kernel
theorem dX1_spread_1 : decode cX1_spread 1 = .ok (.istore_n 3, 1) := by decide +kernel
theorem dX1_spread_2 : decode cX1_spread 2 = .ok (.iconst 0, 1) := by decide +kernel
theorem dX1_spread_3 : decode cX1_spread 3 = .ok (.istore 4, 2) := by decide +kernel
theorem dX1_spread_5 : decode cX1_spread 5 = .ok (.iload 4, 2) := by decide +kernel
theorem dX1_spread_7 : decode cX1_spread 7 = .ok (.iload_n 2, 1) := by decide +kernel
theorem dX1_spread_8 : decode cX1_spread 8 = .ok (.if_icmp .ge 33, 3) := by decide +kernel
theorem dX1_spread_11 : decode cX1_spread 11 = .ok (.iload 4, 2) := by decide +kernel
theorem dX1_spread_13 : decode cX1_spread 13 = .ok (.bipush 8, 2) := by decide +kernel
theorem dX1_spread_15 : decode cX1_spread 15 = .ok (.if_icmp .ge 26, 3) := by decide +kernel
theorem dX1_spread_18 : decode cX1_spread 18 = .ok (.iload_n 3, 1) := by decide +kernel
theorem dX1_spread_19 : decode cX1_spread 19 = .ok (.iload_n 1, 1) := by decide +kernel
theorem dX1_spread_20 : decode cX1_spread 20 = .ok (.iload 4, 2) := by decide +kernel
theorem dX1_spread_22 : decode cX1_spread 22 = .ok (.ishr, 1) := by decide +kernel
theorem dX1_spread_23 : decode cX1_spread 23 = .ok (.iconst 1, 1) := by decide +kernel
theorem dX1_spread_24 : decode cX1_spread 24 = .ok (.iand, 1) := by decide +kernel
theorem dX1_spread_25 : decode cX1_spread 25 = .ok (.aload_n 0, 1) := by decide +kernel
theorem dX1_spread_26 : decode cX1_spread 26 = .ok (.getfield 18, 3) := by decide +kernel
theorem dX1_spread_29 : decode cX1_spread 29 = .ok (.iload 4, 2) := by decide +kernel
theorem dX1_spread_31 : decode cX1_spread 31 = .ok (.iaload, 1) := by decide +kernel
theorem dX1_spread_32 : decode cX1_spread 32 = .ok (.ishl, 1) := by decide +kernel
theorem dX1_spread_33 : decode cX1_spread 33 = .ok (.ior, 1) := by decide +kernel
theorem dX1_spread_34 : decode cX1_spread 34 = .ok (.istore_n 3, 1) := by decide +kernel
theorem dX1_spread_35 : decode cX1_spread 35 = .ok (.iinc 4 1, 3) := by decide +kernel
theorem dX1_spread_38 : decode cX1_spread 38 = .ok (.goto (-33), 3) := by decide +kernel
theorem dX1_spread_41 : decode cX1_spread 41 = .ok (.iload_n 3, 1) := by decide +kernel
theorem dX1_spread_42 : decode cX1_spread 42 = .ok (.ireturn, 1) := by decide +kernel
theorem dX1_bestBits_0 : decode cX1_bestBits 0 = .ok (.aload_n 0, 1) := by decide +kernel
theorem dX1_bestBits_1 : decode cX1_bestBits 1 = .ok (.aload_n 1, 1) := by decide +kernel
theorem dX1_bestBits_2 : decode cX1_bestBits 2 = .ok (.aload_n 2, 1) := by decide +kernel
theorem dX1_bestBits_3 : decode cX1_bestBits 3 = .ok (.invokevirtual 132, 3) := by decide +kernel
theorem dX1_bestBits_6 : decode cX1_bestBits 6 = .ok (.istore_n 3, 1) := by decide +kernel
theorem dX1_bestBits_7 : decode cX1_bestBits 7 = .ok (.iconst 0, 1) := by decide +kernel
theorem dX1_bestBits_8 : decode cX1_bestBits 8 = .ok (.istore 4, 2) := by decide +kernel
theorem dX1_bestBits_10 : decode cX1_bestBits 10 = .ok (.iconst 1, 1) := by decide +kernel
theorem dX1_bestBits_11 : decode cX1_bestBits 11 = .ok (.istore 5, 2) := by decide +kernel
theorem dX1_bestBits_13 : decode cX1_bestBits 13 = .ok (.iload 5, 2) := by decide +kernel
theorem dX1_bestBits_15 : decode cX1_bestBits 15 = .ok (.iconst 1, 1) := by decide +kernel
theorem dX1_bestBits_16 : decode cX1_bestBits 16 = .ok (.iload_n 3, 1) := by decide +kernel
theorem dX1_bestBits_17 : decode cX1_bestBits 17 = .ok (.ishl, 1) := by decide +kernel
theorem dX1_bestBits_18 : decode cX1_bestBits 18 = .ok (.if_icmp .ge 46, 3) := by decide +kernel
theorem dX1_bestBits_21 : decode cX1_bestBits 21 = .ok (.iload 5, 2) := by decide +kernel
theorem dX1_bestBits_23 : decode cX1_bestBits 23 = .ok (.sipush 256, 3) := by decide +kernel
theorem dX1_bestBits_26 : decode cX1_bestBits 26 = .ok (.if_icmp .ge 38, 3) := by decide +kernel
theorem dX1_bestBits_29 : decode cX1_bestBits 29 = .ok (.aload_n 0, 1) := by decide +kernel
theorem dX1_bestBits_30 : decode cX1_bestBits 30 = .ok (.getfield 21, 3) := by decide +kernel
theorem dX1_bestBits_33 : decode cX1_bestBits 33 = .ok (.iload 5, 2) := by decide +kernel
theorem dX1_bestBits_35 : decode cX1_bestBits 35 = .ok (.iaload, 1) := by decide +kernel
theorem dX1_bestBits_36 : decode cX1_bestBits 36 = .ok (.aload_n 1, 1) := by decide +kernel
theorem dX1_bestBits_37 : decode cX1_bestBits 37 = .ok (.getfield 136, 3) := by decide +kernel
theorem dX1_bestBits_40 : decode cX1_bestBits 40 = .ok (.if_icmp .gt 18, 3) := by decide +kernel
theorem dX1_bestBits_43 : decode cX1_bestBits 43 = .ok (.aload_n 0, 1) := by decide +kernel
theorem dX1_bestBits_44 : decode cX1_bestBits 44 = .ok (.iload 5, 2) := by decide +kernel
theorem dX1_bestBits_46 : decode cX1_bestBits 46 = .ok (.iload 4, 2) := by decide +kernel
theorem dX1_bestBits_48 : decode cX1_bestBits 48 = .ok (.invokevirtual 139, 3) := by decide +kernel
theorem dX1_bestBits_51 : decode cX1_bestBits 51 = .ok (.ifCond .eq 7, 3) := by decide +kernel
theorem dX1_bestBits_54 : decode cX1_bestBits 54 = .ok (.iload 5, 2) := by decide +kernel
theorem dX1_bestBits_56 : decode cX1_bestBits 56 = .ok (.istore 4, 2) := by decide +kernel
theorem dX1_bestBits_58 : decode cX1_bestBits 58 = .ok (.iinc 5 1, 3) := by decide +kernel
theorem dX1_bestBits_61 : decode cX1_bestBits 61 = .ok (.goto (-48), 3) := by decide +kernel
theorem dX1_bestBits_64 : decode cX1_bestBits 64 = .ok (.aload_n 0, 1) := by decide +kernel
theorem dX1_bestBits_65 : decode cX1_bestBits 65 = .ok (.iload 4, 2) := by decide +kernel
theorem dX1_bestBits_67 : decode cX1_bestBits 67 = .ok (.iload_n 3, 1) := by decide +kernel
theorem dX1_bestBits_68 : decode cX1_bestBits 68 = .ok (.invokevirtual 143, 3) := by decide +kernel
theorem dX1_bestBits_71 : decode cX1_bestBits 71 = .ok (.ireturn, 1) := by decide +kernel
theorem dX1_isBetter_0 : decode cX1_isBetter 0 = .ok (.aload_n 0, 1) := by decide +kernel
theorem dX1_isBetter_1 : decode cX1_isBetter 1 = .ok (.getfield 24, 3) := by decide +kernel
theorem dX1_isBetter_4 : decode cX1_isBetter 4 = .ok (.iload_n 1, 1) := by decide +kernel
theorem dX1_isBetter_5 : decode cX1_isBetter 5 = .ok (.iaload, 1) := by decide +kernel
theorem dX1_isBetter_6 : decode cX1_isBetter 6 = .ok (.aload_n 0, 1) := by decide +kernel
theorem dX1_isBetter_7 : decode cX1_isBetter 7 = .ok (.getfield 24, 3) := by decide +kernel
theorem dX1_isBetter_10 : decode cX1_isBetter 10 = .ok (.iload_n 2, 1) := by decide +kernel
theorem dX1_isBetter_11 : decode cX1_isBetter 11 = .ok (.iaload, 1) := by decide +kernel
theorem dX1_isBetter_12 : decode cX1_isBetter 12 = .ok (.if_icmp .gt 33, 3) := by decide +kernel
theorem dX1_isBetter_15 : decode cX1_isBetter 15 = .ok (.aload_n 0, 1) := by decide +kernel
theorem dX1_isBetter_16 : decode cX1_isBetter 16 = .ok (.getfield 24, 3) := by decide +kernel
theorem dX1_isBetter_19 : decode cX1_isBetter 19 = .ok (.iload_n 1, 1) := by decide +kernel
theorem dX1_isBetter_20 : decode cX1_isBetter 20 = .ok (.iaload, 1) := by decide +kernel
theorem dX1_isBetter_21 : decode cX1_isBetter 21 = .ok (.aload_n 0, 1) := by decide +kernel
theorem dX1_isBetter_22 : decode cX1_isBetter 22 = .ok (.getfield 24, 3) := by decide +kernel
theorem dX1_isBetter_25 : decode cX1_isBetter 25 = .ok (.iload_n 2, 1) := by decide +kernel
theorem dX1_isBetter_26 : decode cX1_isBetter 26 = .ok (.iaload, 1) := by decide +kernel
theorem dX1_isBetter_27 : decode cX1_isBetter 27 = .ok (.if_icmp .ne 22, 3) := by decide +kernel
theorem dX1_isBetter_30 : decode cX1_isBetter 30 = .ok (.aload_n 0, 1) := by decide +kernel
theorem dX1_isBetter_31 : decode cX1_isBetter 31 = .ok (.getfield 21, 3) := by decide +kernel
theorem dX1_isBetter_34 : decode cX1_isBetter 34 = .ok (.iload_n 1, 1) := by decide +kernel
theorem dX1_isBetter_35 : decode cX1_isBetter 35 = .ok (.iaload, 1) := by decide +kernel
theorem dX1_isBetter_36 : decode cX1_isBetter 36 = .ok (.aload_n 0, 1) := by decide +kernel
theorem dX1_isBetter_37 : decode cX1_isBetter 37 = .ok (.getfield 21, 3) := by decide +kernel
theorem dX1_isBetter_40 : decode cX1_isBetter 40 = .ok (.iload_n 2, 1) := by decide +kernel
theorem dX1_isBetter_41 : decode cX1_isBetter 41 = .ok (.iaload, 1) := by decide +kernel
theorem dX1_isBetter_42 : decode cX1_isBetter 42 = .ok (.if_icmp .ge 7, 3) := by decide +kernel
theorem dX1_isBetter_45 : decode cX1_isBetter 45 = .ok (.iconst 1, 1) := by decide +kernel
theorem dX1_isBetter_46 : decode cX1_isBetter 46 = .ok (.goto 4, 3) := by decide +kernel
theorem dX1_isBetter_49 : decode cX1_isBetter 49 = .ok (.iconst 0, 1) := by decide +kernel
theorem dX1_isBetter_50 : decode cX1_isBetter 50 = .ok (.ireturn, 1) := by decide +kernel
theorem dX1_shareBits_0 : decode cX1_shareBits 0 = .ok (.aload_n 0, 1) := by decide +kernel
theorem dX1_shareBits_1 : decode cX1_shareBits 1 = .ok (.aload_n 1, 1) := by decide +kernel
theorem dX1_shareBits_2 : decode cX1_shareBits 2 = .ok (.aload_n 2, 1) := by decide +kernel
theorem dX1_shareBits_3 : decode cX1_shareBits 3 = .ok (.invokevirtual 132, 3) := by decide +kernel
theorem dX1_shareBits_6 : decode cX1_shareBits 6 = .ok (.istore_n 3, 1) := by decide +kernel
theorem dX1_shareBits_7 : decode cX1_shareBits 7 = .ok (.iconst 1, 1) := by decide +kernel
theorem dX1_shareBits_8 : decode cX1_shareBits 8 = .ok (.iload_n 3, 1) := by decide +kernel
theorem dX1_shareBits_9 : decode cX1_shareBits 9 = .ok (.ishl, 1) := by decide +kernel
theorem dX1_shareBits_10 : decode cX1_shareBits 10 = .ok (.sipush 256, 3) := by decide +kernel
theorem dX1_shareBits_13 : decode cX1_shareBits 13 = .ok (.invokestatic 90, 3) := by decide +kernel
theorem dX1_shareBits_16 : decode cX1_shareBits 16 = .ok (.iconst 1, 1) := by decide +kernel
theorem dX1_shareBits_17 : decode cX1_shareBits 17 = .ok (.isub, 1) := by decide +kernel
theorem dX1_shareBits_18 : decode cX1_shareBits 18 = .ok (.istore 4, 2) := by decide +kernel
theorem dX1_shareBits_20 : decode cX1_shareBits 20 = .ok (.iconst 0, 1) := by decide +kernel
theorem dX1_shareBits_21 : decode cX1_shareBits 21 = .ok (.istore 5, 2) := by decide +kernel
theorem dX1_shareBits_23 : decode cX1_shareBits 23 = .ok (.aload_n 0, 1) := by decide +kernel
theorem dX1_shareBits_24 : decode cX1_shareBits 24 = .ok (.getfield 24, 3) := by decide +kernel
theorem dX1_shareBits_27 : decode cX1_shareBits 27 = .ok (.iconst 0, 1) := by decide +kernel
theorem dX1_shareBits_28 : decode cX1_shareBits 28 = .ok (.iaload, 1) := by decide +kernel
theorem dX1_shareBits_29 : decode cX1_shareBits 29 = .ok (.aload_n 0, 1) := by decide +kernel
theorem dX1_shareBits_30 : decode cX1_shareBits 30 = .ok (.getfield 24, 3) := by decide +kernel
theorem dX1_shareBits_33 : decode cX1_shareBits 33 = .ok (.iload 4, 2) := by decide +kernel
theorem dX1_shareBits_35 : decode cX1_shareBits 35 = .ok (.iaload, 1) := by decide +kernel
theorem dX1_shareBits_36 : decode cX1_shareBits 36 = .ok (.invokestatic 90, 3) := by decide +kernel
theorem dX1_shareBits_39 : decode cX1_shareBits 39 = .ok (.istore 6, 2) := by decide +kernel
theorem dX1_shareBits_41 : decode cX1_shareBits 41 = .ok (.iconst 1, 1) := by decide +kernel
theorem dX1_shareBits_42 : decode cX1_shareBits 42 = .ok (.istore 7, 2) := by decide +kernel
theorem dX1_shareBits_44 : decode cX1_shareBits 44 = .ok (.iload 7, 2) := by decide +kernel
theorem dX1_shareBits_46 : decode cX1_shareBits 46 = .ok (.iload 4, 2) := by decide +kernel
theorem dX1_shareBits_48 : decode cX1_shareBits 48 = .ok (.if_icmp .gt 46, 3) := by decide +kernel
theorem dX1_shareBits_51 : decode cX1_shareBits 51 = .ok (.aload_n 0, 1) := by decide +kernel
theorem dX1_shareBits_52 : decode cX1_shareBits 52 = .ok (.getfield 24, 3) := by decide +kernel
theorem dX1_shareBits_55 : decode cX1_shareBits 55 = .ok (.iload 7, 2) := by decide +kernel
theorem dX1_shareBits_57 : decode cX1_shareBits 57 = .ok (.iaload, 1) := by decide +kernel
theorem dX1_shareBits_58 : decode cX1_shareBits 58 = .ok (.aload_n 0, 1) := by decide +kernel
theorem dX1_shareBits_59 : decode cX1_shareBits 59 = .ok (.getfield 24, 3) := by decide +kernel
theorem dX1_shareBits_62 : decode cX1_shareBits 62 = .ok (.iload 4, 2) := by decide +kernel
theorem dX1_shareBits_64 : decode cX1_shareBits 64 = .ok (.iload 7, 2) := by decide +kernel
theorem dX1_shareBits_66 : decode cX1_shareBits 66 = .ok (.isub, 1) := by decide +kernel
theorem dX1_shareBits_67 : decode cX1_shareBits 67 = .ok (.iaload, 1) := by decide +kernel
theorem dX1_shareBits_68 : decode cX1_shareBits 68 = .ok (.invokestatic 90, 3) := by decide +kernel
theorem dX1_shareBits_71 : decode cX1_shareBits 71 = .ok (.istore 8, 2) := by decide +kernel
theorem dX1_shareBits_73 : decode cX1_shareBits 73 = .ok (.iload 8, 2) := by decide +kernel
theorem dX1_shareBits_75 : decode cX1_shareBits 75 = .ok (.iload 6, 2) := by decide +kernel
theorem dX1_shareBits_77 : decode cX1_shareBits 77 = .ok (.if_icmp .le 11, 3) := by decide +kernel
theorem dX1_shareBits_80 : decode cX1_shareBits 80 = .ok (.iload 8, 2) := by decide +kernel
theorem dX1_shareBits_82 : decode cX1_shareBits 82 = .ok (.istore 6, 2) := by decide +kernel
theorem dX1_shareBits_84 : decode cX1_shareBits 84 = .ok (.iload 7, 2) := by decide +kernel
theorem dX1_shareBits_86 : decode cX1_shareBits 86 = .ok (.istore 5, 2) := by decide +kernel
theorem dX1_shareBits_88 : decode cX1_shareBits 88 = .ok (.iinc 7 1, 3) := by decide +kernel
theorem dX1_shareBits_91 : decode cX1_shareBits 91 = .ok (.goto (-47), 3) := by decide +kernel
theorem dX1_shareBits_94 : decode cX1_shareBits 94 = .ok (.aload_n 0, 1) := by decide +kernel
theorem dX1_shareBits_95 : decode cX1_shareBits 95 = .ok (.iload 5, 2) := by decide +kernel
theorem dX1_shareBits_97 : decode cX1_shareBits 97 = .ok (.iload_n 3, 1) := by decide +kernel
theorem dX1_shareBits_98 : decode cX1_shareBits 98 = .ok (.invokevirtual 143, 3) := by decide +kernel
theorem dX1_shareBits_101 : decode cX1_shareBits 101 = .ok (.ireturn, 1) := by decide +kernel
theorem dX1_playDay_0 : decode cX1_playDay 0 = .ok (.aload_n 1, 1) := by decide +kernel
theorem dX1_playDay_1 : decode cX1_playDay 1 = .ok (.getfield 136, 3) := by decide +kernel
theorem dX1_playDay_4 : decode cX1_playDay 4 = .ok (.aload_n 0, 1) := by decide +kernel
theorem dX1_playDay_5 : decode cX1_playDay 5 = .ok (.aload_n 1, 1) := by decide +kernel
theorem dX1_playDay_6 : decode cX1_playDay 6 = .ok (.aload_n 2, 1) := by decide +kernel
theorem dX1_playDay_7 : decode cX1_playDay 7 = .ok (.iload_n 3, 1) := by decide +kernel
theorem dX1_playDay_8 : decode cX1_playDay 8 = .ok (.invokevirtual 146, 3) := by decide +kernel
theorem dX1_playDay_11 : decode cX1_playDay 11 = .ok (.isub, 1) := by decide +kernel
theorem dX1_playDay_12 : decode cX1_playDay 12 = .ok (.istore 4, 2) := by decide +kernel
theorem dX1_playDay_14 : decode cX1_playDay 14 = .ok (.iconst 0, 1) := by decide +kernel
theorem dX1_playDay_15 : decode cX1_playDay 15 = .ok (.istore 5, 2) := by decide +kernel
theorem dX1_playDay_17 : decode cX1_playDay 17 = .ok (.iload 5, 2) := by decide +kernel
theorem dX1_playDay_19 : decode cX1_playDay 19 = .ok (.aload_n 1, 1) := by decide +kernel
theorem dX1_playDay_20 : decode cX1_playDay 20 = .ok (.getfield 117, 3) := by decide +kernel
theorem dX1_playDay_23 : decode cX1_playDay 23 = .ok (.if_icmp .ge 52, 3) := by decide +kernel
theorem dX1_playDay_26 : decode cX1_playDay 26 = .ok (.iload_n 3, 1) := by decide +kernel
theorem dX1_playDay_27 : decode cX1_playDay 27 = .ok (.iload 5, 2) := by decide +kernel
theorem dX1_playDay_29 : decode cX1_playDay 29 = .ok (.ishr, 1) := by decide +kernel
theorem dX1_playDay_30 : decode cX1_playDay 30 = .ok (.iconst 1, 1) := by decide +kernel
theorem dX1_playDay_31 : decode cX1_playDay 31 = .ok (.iand, 1) := by decide +kernel
theorem dX1_playDay_32 : decode cX1_playDay 32 = .ok (.iconst 1, 1) := by decide +kernel
theorem dX1_playDay_33 : decode cX1_playDay 33 = .ok (.if_icmp .ne 36, 3) := by decide +kernel
theorem dX1_playDay_36 : decode cX1_playDay 36 = .ok (.aload_n 2, 1) := by decide +kernel
theorem dX1_playDay_37 : decode cX1_playDay 37 = .ok (.getfield 47, 3) := by decide +kernel
theorem dX1_playDay_40 : decode cX1_playDay 40 = .ok (.iload 5, 2) := by decide +kernel
theorem dX1_playDay_42 : decode cX1_playDay 42 = .ok (.sipush 999, 3) := by decide +kernel
theorem dX1_playDay_45 : decode cX1_playDay 45 = .ok (.aload_n 2, 1) := by decide +kernel
theorem dX1_playDay_46 : decode cX1_playDay 46 = .ok (.getfield 47, 3) := by decide +kernel
theorem dX1_playDay_49 : decode cX1_playDay 49 = .ok (.iload 5, 2) := by decide +kernel
theorem dX1_playDay_51 : decode cX1_playDay 51 = .ok (.iaload, 1) := by decide +kernel
theorem dX1_playDay_52 : decode cX1_playDay 52 = .ok (.iconst 1, 1) := by decide +kernel
theorem dX1_playDay_53 : decode cX1_playDay 53 = .ok (.iadd, 1) := by decide +kernel
theorem dX1_playDay_54 : decode cX1_playDay 54 = .ok (.invokestatic 90, 3) := by decide +kernel
theorem dX1_playDay_57 : decode cX1_playDay 57 = .ok (.iastore, 1) := by decide +kernel
theorem dX1_playDay_58 : decode cX1_playDay 58 = .ok (.aload_n 2, 1) := by decide +kernel
theorem dX1_playDay_59 : decode cX1_playDay 59 = .ok (.getfield 149, 3) := by decide +kernel
theorem dX1_playDay_62 : decode cX1_playDay 62 = .ok (.iload 5, 2) := by decide +kernel
theorem dX1_playDay_64 : decode cX1_playDay 64 = .ok (.aload_n 2, 1) := by decide +kernel
theorem dX1_playDay_65 : decode cX1_playDay 65 = .ok (.getfield 50, 3) := by decide +kernel
theorem dX1_playDay_68 : decode cX1_playDay 68 = .ok (.iastore, 1) := by decide +kernel
theorem dX1_playDay_69 : decode cX1_playDay 69 = .ok (.iinc 5 1, 3) := by decide +kernel
theorem dX1_playDay_72 : decode cX1_playDay 72 = .ok (.goto (-55), 3) := by decide +kernel
theorem dX1_playDay_75 : decode cX1_playDay 75 = .ok (.iconst 0, 1) := by decide +kernel
theorem dX1_playDay_76 : decode cX1_playDay 76 = .ok (.iload 4, 2) := by decide +kernel
theorem dX1_playDay_78 : decode cX1_playDay 78 = .ok (.aload_n 2, 1) := by decide +kernel
theorem dX1_playDay_79 : decode cX1_playDay 79 = .ok (.getfield 152, 3) := by decide +kernel
theorem dX1_playDay_82 : decode cX1_playDay 82 = .ok (.invokestatic 90, 3) := by decide +kernel
theorem dX1_playDay_85 : decode cX1_playDay 85 = .ok (.invokestatic 93, 3) := by decide +kernel
theorem dX1_playDay_88 : decode cX1_playDay 88 = .ok (.istore 5, 2) := by decide +kernel
theorem dX1_playDay_90 : decode cX1_playDay 90 = .ok (.aload_n 2, 1) := by decide +kernel
theorem dX1_playDay_91 : decode cX1_playDay 91 = .ok (.dup, 1) := by decide +kernel
theorem dX1_playDay_92 : decode cX1_playDay 92 = .ok (.getfield 152, 3) := by decide +kernel
theorem dX1_playDay_95 : decode cX1_playDay 95 = .ok (.iload 5, 2) := by decide +kernel
theorem dX1_playDay_97 : decode cX1_playDay 97 = .ok (.isub, 1) := by decide +kernel
theorem dX1_playDay_98 : decode cX1_playDay 98 = .ok (.putfield 152, 3) := by decide +kernel
theorem dX1_playDay_101 : decode cX1_playDay 101 = .ok (.iconst 0, 1) := by decide +kernel
theorem dX1_playDay_102 : decode cX1_playDay 102 = .ok (.istore 6, 2) := by decide +kernel
theorem dX1_playDay_104 : decode cX1_playDay 104 = .ok (.iload 6, 2) := by decide +kernel
theorem dX1_playDay_106 : decode cX1_playDay 106 = .ok (.aload_n 1, 1) := by decide +kernel
theorem dX1_playDay_107 : decode cX1_playDay 107 = .ok (.getfield 117, 3) := by decide +kernel
theorem dX1_playDay_110 : decode cX1_playDay 110 = .ok (.if_icmp .ge 55, 3) := by decide +kernel
theorem dX1_playDay_113 : decode cX1_playDay 113 = .ok (.aload_n 2, 1) := by decide +kernel
theorem dX1_playDay_114 : decode cX1_playDay 114 = .ok (.iload 6, 2) := by decide +kernel
theorem dX1_playDay_116 : decode cX1_playDay 116 = .ok (.invokevirtual 62, 3) := by decide +kernel
theorem dX1_playDay_119 : decode cX1_playDay 119 = .ok (.ifCond .eq 40, 3) := by decide +kernel
theorem dX1_playDay_122 : decode cX1_playDay 122 = .ok (.aload_n 0, 1) := by decide +kernel
theorem dX1_playDay_123 : decode cX1_playDay 123 = .ok (.aload_n 1, 1) := by decide +kernel
theorem dX1_playDay_124 : decode cX1_playDay 124 = .ok (.aload_n 2, 1) := by decide +kernel
theorem dX1_playDay_125 : decode cX1_playDay 125 = .ok (.iload 6, 2) := by decide +kernel
theorem dX1_playDay_127 : decode cX1_playDay 127 = .ok (.invokevirtual 105, 3) := by decide +kernel
theorem dX1_playDay_130 : decode cX1_playDay 130 = .ok (.aload_n 0, 1) := by decide +kernel
theorem dX1_playDay_131 : decode cX1_playDay 131 = .ok (.aload_n 1, 1) := by decide +kernel
theorem dX1_playDay_132 : decode cX1_playDay 132 = .ok (.getfield 109, 3) := by decide +kernel
theorem dX1_playDay_135 : decode cX1_playDay 135 = .ok (.iconst 0, 1) := by decide +kernel
theorem dX1_playDay_136 : decode cX1_playDay 136 = .ok (.invokevirtual 113, 3) := by decide +kernel
theorem dX1_playDay_139 : decode cX1_playDay 139 = .ok (.istore 7, 2) := by decide +kernel
theorem dX1_playDay_141 : decode cX1_playDay 141 = .ok (.aload_n 2, 1) := by decide +kernel
theorem dX1_playDay_142 : decode cX1_playDay 142 = .ok (.getfield 37, 3) := by decide +kernel
theorem dX1_playDay_145 : decode cX1_playDay 145 = .ok (.iload 6, 2) := by decide +kernel
theorem dX1_playDay_147 : decode cX1_playDay 147 = .ok (.iconst 0, 1) := by decide +kernel
theorem dX1_playDay_148 : decode cX1_playDay 148 = .ok (.bipush 99, 2) := by decide +kernel
theorem dX1_playDay_150 : decode cX1_playDay 150 = .ok (.iload 7, 2) := by decide +kernel
theorem dX1_playDay_152 : decode cX1_playDay 152 = .ok (.invokestatic 90, 3) := by decide +kernel
theorem dX1_playDay_155 : decode cX1_playDay 155 = .ok (.invokestatic 93, 3) := by decide +kernel
theorem dX1_playDay_158 : decode cX1_playDay 158 = .ok (.iastore, 1) := by decide +kernel
theorem dX1_playDay_159 : decode cX1_playDay 159 = .ok (.iinc 6 1, 3) := by decide +kernel
theorem dX1_playDay_162 : decode cX1_playDay 162 = .ok (.goto (-58), 3) := by decide +kernel
theorem dX1_playDay_165 : decode cX1_playDay 165 = .ok (.aload_n 2, 1) := by decide +kernel
theorem dX1_playDay_166 : decode cX1_playDay 166 = .ok (.sipush 999, 3) := by decide +kernel
theorem dX1_playDay_169 : decode cX1_playDay 169 = .ok (.aload_n 2, 1) := by decide +kernel
theorem dX1_playDay_170 : decode cX1_playDay 170 = .ok (.getfield 50, 3) := by decide +kernel
theorem dX1_playDay_173 : decode cX1_playDay 173 = .ok (.iconst 1, 1) := by decide +kernel
theorem dX1_playDay_174 : decode cX1_playDay 174 = .ok (.iadd, 1) := by decide +kernel
theorem dX1_playDay_175 : decode cX1_playDay 175 = .ok (.invokestatic 90, 3) := by decide +kernel
theorem dX1_playDay_178 : decode cX1_playDay 178 = .ok (.putfield 50, 3) := by decide +kernel
theorem dX1_playDay_181 : decode cX1_playDay 181 = .ok (.iload 5, 2) := by decide +kernel
theorem dX1_playDay_183 : decode cX1_playDay 183 = .ok (.ireturn, 1) := by decide +kernel
theorem dX1_canFill_0 : decode cX1_canFill 0 = .ok (.lconst 1, 1) := by decide +kernel
theorem dX1_canFill_1 : decode cX1_canFill 1 = .ok (.lstore_n 3, 1) := by decide +kernel
theorem dX1_canFill_2 : decode cX1_canFill 2 = .ok (.iconst 0, 1) := by decide +kernel
theorem dX1_canFill_3 : decode cX1_canFill 3 = .ok (.istore 5, 2) := by decide +kernel
theorem dX1_canFill_5 : decode cX1_canFill 5 = .ok (.iload 5, 2) := by decide +kernel
theorem dX1_canFill_7 : decode cX1_canFill 7 = .ok (.aload_n 1, 1) := by decide +kernel
theorem dX1_canFill_8 : decode cX1_canFill 8 = .ok (.getfield 117, 3) := by decide +kernel
theorem dX1_canFill_11 : decode cX1_canFill 11 = .ok (.if_icmp .ge 36, 3) := by decide +kernel
theorem dX1_canFill_14 : decode cX1_canFill 14 = .ok (.aload_n 0, 1) := by decide +kernel
theorem dX1_canFill_15 : decode cX1_canFill 15 = .ok (.aload_n 1, 1) := by decide +kernel
theorem dX1_canFill_16 : decode cX1_canFill 16 = .ok (.aload_n 2, 1) := by decide +kernel
theorem dX1_canFill_17 : decode cX1_canFill 17 = .ok (.iload 5, 2) := by decide +kernel
theorem dX1_canFill_19 : decode cX1_canFill 19 = .ok (.invokevirtual 120, 3) := by decide +kernel
theorem dX1_canFill_22 : decode cX1_canFill 22 = .ok (.ifCond .eq 19, 3) := by decide +kernel
theorem dX1_canFill_25 : decode cX1_canFill 25 = .ok (.lload_n 3, 1) := by decide +kernel
theorem dX1_canFill_26 : decode cX1_canFill 26 = .ok (.lload_n 3, 1) := by decide +kernel
theorem dX1_canFill_27 : decode cX1_canFill 27 = .ok (.aload_n 1, 1) := by decide +kernel
theorem dX1_canFill_28 : decode cX1_canFill 28 = .ok (.aload_n 2, 1) := by decide +kernel
theorem dX1_canFill_29 : decode cX1_canFill 29 = .ok (.getfield 32, 3) := by decide +kernel
theorem dX1_canFill_32 : decode cX1_canFill 32 = .ok (.iload 5, 2) := by decide +kernel
theorem dX1_canFill_34 : decode cX1_canFill 34 = .ok (.iaload, 1) := by decide +kernel
theorem dX1_canFill_35 : decode cX1_canFill 35 = .ok (.invokevirtual 54, 3) := by decide +kernel
theorem dX1_canFill_38 : decode cX1_canFill 38 = .ok (.lshl, 1) := by decide +kernel
theorem dX1_canFill_39 : decode cX1_canFill 39 = .ok (.lor, 1) := by decide +kernel
theorem dX1_canFill_40 : decode cX1_canFill 40 = .ok (.lstore_n 3, 1) := by decide +kernel
theorem dX1_canFill_41 : decode cX1_canFill 41 = .ok (.iinc 5 1, 3) := by decide +kernel
theorem dX1_canFill_44 : decode cX1_canFill 44 = .ok (.goto (-39), 3) := by decide +kernel
theorem dX1_canFill_47 : decode cX1_canFill 47 = .ok (.lload_n 3, 1) := by decide +kernel
theorem dX1_canFill_48 : decode cX1_canFill 48 = .ok (.aload_n 1, 1) := by decide +kernel
theorem dX1_canFill_49 : decode cX1_canFill 49 = .ok (.getfield 136, 3) := by decide +kernel
theorem dX1_canFill_52 : decode cX1_canFill 52 = .ok (.lshr, 1) := by decide +kernel
theorem dX1_canFill_53 : decode cX1_canFill 53 = .ok (.lconst 1, 1) := by decide +kernel
theorem dX1_canFill_54 : decode cX1_canFill 54 = .ok (.land, 1) := by decide +kernel
theorem dX1_canFill_55 : decode cX1_canFill 55 = .ok (.lconst 1, 1) := by decide +kernel
theorem dX1_canFill_56 : decode cX1_canFill 56 = .ok (.lcmp, 1) := by decide +kernel
theorem dX1_canFill_57 : decode cX1_canFill 57 = .ok (.ifCond .ne 7, 3) := by decide +kernel
theorem dX1_canFill_60 : decode cX1_canFill 60 = .ok (.iconst 1, 1) := by decide +kernel
theorem dX1_canFill_61 : decode cX1_canFill 61 = .ok (.goto 4, 3) := by decide +kernel
theorem dX1_canFill_64 : decode cX1_canFill 64 = .ok (.iconst 0, 1) := by decide +kernel
theorem dX1_canFill_65 : decode cX1_canFill 65 = .ok (.ireturn, 1) := by decide +kernel
theorem dX1_pleaseEars_0 : decode cX1_pleaseEars 0 = .ok (.iconst 5, 1) := by decide +kernel
theorem dX1_pleaseEars_1 : decode cX1_pleaseEars 1 = .ok (.istore 4, 2) := by decide +kernel
theorem dX1_pleaseEars_3 : decode cX1_pleaseEars 3 = .ok (.iload 4, 2) := by decide +kernel
theorem dX1_pleaseEars_5 : decode cX1_pleaseEars 5 = .ok (.ifCond .lt 139, 3) := by decide +kernel
theorem dX1_pleaseEars_8 : decode cX1_pleaseEars 8 = .ok (.iconst 0, 1) := by decide +kernel
theorem dX1_pleaseEars_9 : decode cX1_pleaseEars 9 = .ok (.istore 5, 2) := by decide +kernel
theorem dX1_pleaseEars_11 : decode cX1_pleaseEars 11 = .ok (.iload 5, 2) := by decide +kernel
theorem dX1_pleaseEars_13 : decode cX1_pleaseEars 13 = .ok (.sipush 256, 3) := by decide +kernel
theorem dX1_pleaseEars_16 : decode cX1_pleaseEars 16 = .ok (.if_icmp .ge 122, 3) := by decide +kernel
theorem dX1_pleaseEars_19 : decode cX1_pleaseEars 19 = .ok (.iload 4, 2) := by decide +kernel
theorem dX1_pleaseEars_21 : decode cX1_pleaseEars 21 = .ok (.aload_n 1, 1) := by decide +kernel
theorem dX1_pleaseEars_22 : decode cX1_pleaseEars 22 = .ok (.getfield 155, 3) := by decide +kernel
theorem dX1_pleaseEars_25 : decode cX1_pleaseEars 25 = .ok (.if_icmp .ge 18, 3) := by decide +kernel
theorem dX1_pleaseEars_28 : decode cX1_pleaseEars 28 = .ok (.aload_n 0, 1) := by decide +kernel
theorem dX1_pleaseEars_29 : decode cX1_pleaseEars 29 = .ok (.getfield 29, 3) := by decide +kernel
theorem dX1_pleaseEars_32 : decode cX1_pleaseEars 32 = .ok (.iload 4, 2) := by decide +kernel
theorem dX1_pleaseEars_34 : decode cX1_pleaseEars 34 = .ok (.iconst 1, 1) := by decide +kernel
theorem dX1_pleaseEars_35 : decode cX1_pleaseEars 35 = .ok (.iadd, 1) := by decide +kernel
theorem dX1_pleaseEars_36 : decode cX1_pleaseEars 36 = .ok (.aaload, 1) := by decide +kernel
theorem dX1_pleaseEars_37 : decode cX1_pleaseEars 37 = .ok (.iload 5, 2) := by decide +kernel
theorem dX1_pleaseEars_39 : decode cX1_pleaseEars 39 = .ok (.iaload, 1) := by decide +kernel
theorem dX1_pleaseEars_40 : decode cX1_pleaseEars 40 = .ok (.goto 4, 3) := by decide +kernel
theorem dX1_pleaseEars_43 : decode cX1_pleaseEars 43 = .ok (.iconst 0, 1) := by decide +kernel
theorem dX1_pleaseEars_44 : decode cX1_pleaseEars 44 = .ok (.istore 6, 2) := by decide +kernel
theorem dX1_pleaseEars_46 : decode cX1_pleaseEars 46 = .ok (.iconst 0, 1) := by decide +kernel
theorem dX1_pleaseEars_47 : decode cX1_pleaseEars 47 = .ok (.istore 7, 2) := by decide +kernel
theorem dX1_pleaseEars_49 : decode cX1_pleaseEars 49 = .ok (.iload 7, 2) := by decide +kernel
theorem dX1_pleaseEars_51 : decode cX1_pleaseEars 51 = .ok (.aload_n 1, 1) := by decide +kernel
theorem dX1_pleaseEars_52 : decode cX1_pleaseEars 52 = .ok (.getfield 117, 3) := by decide +kernel
theorem dX1_pleaseEars_55 : decode cX1_pleaseEars 55 = .ok (.if_icmp .ge 65, 3) := by decide +kernel
theorem dX1_pleaseEars_58 : decode cX1_pleaseEars 58 = .ok (.iload 4, 2) := by decide +kernel
theorem dX1_pleaseEars_60 : decode cX1_pleaseEars 60 = .ok (.aload_n 1, 1) := by decide +kernel
theorem dX1_pleaseEars_61 : decode cX1_pleaseEars 61 = .ok (.getfield 155, 3) := by decide +kernel
theorem dX1_pleaseEars_64 : decode cX1_pleaseEars 64 = .ok (.if_icmp .ge 56, 3) := by decide +kernel
theorem dX1_pleaseEars_67 : decode cX1_pleaseEars 67 = .ok (.iload_n 3, 1) := by decide +kernel
theorem dX1_pleaseEars_68 : decode cX1_pleaseEars 68 = .ok (.iload 5, 2) := by decide +kernel
theorem dX1_pleaseEars_70 : decode cX1_pleaseEars 70 = .ok (.iconst (-1), 1) := by decide +kernel
theorem dX1_pleaseEars_71 : decode cX1_pleaseEars 71 = .ok (.ixor, 1) := by decide +kernel
theorem dX1_pleaseEars_72 : decode cX1_pleaseEars 72 = .ok (.iand, 1) := by decide +kernel
theorem dX1_pleaseEars_73 : decode cX1_pleaseEars 73 = .ok (.iload 7, 2) := by decide +kernel
theorem dX1_pleaseEars_75 : decode cX1_pleaseEars 75 = .ok (.ishr, 1) := by decide +kernel
theorem dX1_pleaseEars_76 : decode cX1_pleaseEars 76 = .ok (.iconst 1, 1) := by decide +kernel
theorem dX1_pleaseEars_77 : decode cX1_pleaseEars 77 = .ok (.iand, 1) := by decide +kernel
theorem dX1_pleaseEars_78 : decode cX1_pleaseEars 78 = .ok (.iconst 1, 1) := by decide +kernel
theorem dX1_pleaseEars_79 : decode cX1_pleaseEars 79 = .ok (.if_icmp .ne 35, 3) := by decide +kernel
theorem dX1_pleaseEars_82 : decode cX1_pleaseEars 82 = .ok (.iload 6, 2) := by decide +kernel
theorem dX1_pleaseEars_84 : decode cX1_pleaseEars 84 = .ok (.aload_n 1, 1) := by decide +kernel
theorem dX1_pleaseEars_85 : decode cX1_pleaseEars 85 = .ok (.aload_n 2, 1) := by decide +kernel
theorem dX1_pleaseEars_86 : decode cX1_pleaseEars 86 = .ok (.iload 4, 2) := by decide +kernel
theorem dX1_pleaseEars_88 : decode cX1_pleaseEars 88 = .ok (.iload 7, 2) := by decide +kernel
theorem dX1_pleaseEars_90 : decode cX1_pleaseEars 90 = .ok (.invokestatic 158, 3) := by decide +kernel
theorem dX1_pleaseEars_93 : decode cX1_pleaseEars 93 = .ok (.aload_n 0, 1) := by decide +kernel
theorem dX1_pleaseEars_94 : decode cX1_pleaseEars 94 = .ok (.iload 4, 2) := by decide +kernel
theorem dX1_pleaseEars_96 : decode cX1_pleaseEars 96 = .ok (.iconst 1, 1) := by decide +kernel
theorem dX1_pleaseEars_97 : decode cX1_pleaseEars 97 = .ok (.iadd, 1) := by decide +kernel
theorem dX1_pleaseEars_98 : decode cX1_pleaseEars 98 = .ok (.iload 5, 2) := by decide +kernel
theorem dX1_pleaseEars_100 : decode cX1_pleaseEars 100 = .ok (.iconst 1, 1) := by decide +kernel
theorem dX1_pleaseEars_101 : decode cX1_pleaseEars 101 = .ok (.iload 7, 2) := by decide +kernel
theorem dX1_pleaseEars_103 : decode cX1_pleaseEars 103 = .ok (.ishl, 1) := by decide +kernel
theorem dX1_pleaseEars_104 : decode cX1_pleaseEars 104 = .ok (.ior, 1) := by decide +kernel
theorem dX1_pleaseEars_105 : decode cX1_pleaseEars 105 = .ok (.invokevirtual 162, 3) := by decide +kernel
theorem dX1_pleaseEars_108 : decode cX1_pleaseEars 108 = .ok (.iadd, 1) := by decide +kernel
theorem dX1_pleaseEars_109 : decode cX1_pleaseEars 109 = .ok (.invokestatic 93, 3) := by decide +kernel
theorem dX1_pleaseEars_112 : decode cX1_pleaseEars 112 = .ok (.istore 6, 2) := by decide +kernel
theorem dX1_pleaseEars_114 : decode cX1_pleaseEars 114 = .ok (.iinc 7 1, 3) := by decide +kernel
theorem dX1_pleaseEars_117 : decode cX1_pleaseEars 117 = .ok (.goto (-68), 3) := by decide +kernel
theorem dX1_pleaseEars_120 : decode cX1_pleaseEars 120 = .ok (.aload_n 0, 1) := by decide +kernel
theorem dX1_pleaseEars_121 : decode cX1_pleaseEars 121 = .ok (.getfield 29, 3) := by decide +kernel
theorem dX1_pleaseEars_124 : decode cX1_pleaseEars 124 = .ok (.iload 4, 2) := by decide +kernel
theorem dX1_pleaseEars_126 : decode cX1_pleaseEars 126 = .ok (.aaload, 1) := by decide +kernel
theorem dX1_pleaseEars_127 : decode cX1_pleaseEars 127 = .ok (.iload 5, 2) := by decide +kernel
theorem dX1_pleaseEars_129 : decode cX1_pleaseEars 129 = .ok (.iload 6, 2) := by decide +kernel
theorem dX1_pleaseEars_131 : decode cX1_pleaseEars 131 = .ok (.iastore, 1) := by decide +kernel
theorem dX1_pleaseEars_132 : decode cX1_pleaseEars 132 = .ok (.iinc 5 1, 3) := by decide +kernel
theorem dX1_pleaseEars_135 : decode cX1_pleaseEars 135 = .ok (.goto (-124), 3) := by decide +kernel
theorem dX1_pleaseEars_138 : decode cX1_pleaseEars 138 = .ok (.iinc 4 (-1), 3) := by decide +kernel
theorem dX1_pleaseEars_141 : decode cX1_pleaseEars 141 = .ok (.goto (-138), 3) := by decide +kernel
theorem dX1_pleaseEars_144 : decode cX1_pleaseEars 144 = .ok (.return_, 1) := by decide +kernel
theorem dX1_pleased_0 : decode cX1_pleased 0 = .ok (.iload_n 1, 1) := by decide +kernel
theorem dX1_pleased_1 : decode cX1_pleased 1 = .ok (.ifCond .lt 30, 3) := by decide +kernel
theorem dX1_pleased_4 : decode cX1_pleased 4 = .ok (.iload_n 1, 1) := by decide +kernel
theorem dX1_pleased_5 : decode cX1_pleased 5 = .ok (.iconst 5, 1) := by decide +kernel
theorem dX1_pleased_6 : decode cX1_pleased 6 = .ok (.if_icmp .gt 25, 3) := by decide +kernel
theorem dX1_pleased_9 : decode cX1_pleased 9 = .ok (.iload_n 2, 1) := by decide +kernel
theorem dX1_pleased_10 : decode cX1_pleased 10 = .ok (.ifCond .lt 21, 3) := by decide +kernel
theorem dX1_pleased_13 : decode cX1_pleased 13 = .ok (.iload_n 2, 1) := by decide +kernel
theorem dX1_pleased_14 : decode cX1_pleased 14 = .ok (.sipush 256, 3) := by decide +kernel
theorem dX1_pleased_17 : decode cX1_pleased 17 = .ok (.if_icmp .ge 14, 3) := by decide +kernel
theorem dX1_pleased_20 : decode cX1_pleased 20 = .ok (.aload_n 0, 1) := by decide +kernel
theorem dX1_pleased_21 : decode cX1_pleased 21 = .ok (.getfield 29, 3) := by decide +kernel
theorem dX1_pleased_24 : decode cX1_pleased 24 = .ok (.iload_n 1, 1) := by decide +kernel
theorem dX1_pleased_25 : decode cX1_pleased 25 = .ok (.aaload, 1) := by decide +kernel
theorem dX1_pleased_26 : decode cX1_pleased 26 = .ok (.iload_n 2, 1) := by decide +kernel
theorem dX1_pleased_27 : decode cX1_pleased 27 = .ok (.iaload, 1) := by decide +kernel
theorem dX1_pleased_28 : decode cX1_pleased 28 = .ok (.goto 4, 3) := by decide +kernel
theorem dX1_pleased_31 : decode cX1_pleased 31 = .ok (.iconst 0, 1) := by decide +kernel
theorem dX1_pleased_32 : decode cX1_pleased 32 = .ok (.ireturn, 1) := by decide +kernel
theorem dX1_pleasedBy_0 : decode cX1_pleasedBy 0 = .ok (.bipush 9, 2) := by decide +kernel
theorem dX1_pleasedBy_2 : decode cX1_pleasedBy 2 = .ok (.aload_n 0, 1) := by decide +kernel
theorem dX1_pleasedBy_3 : decode cX1_pleasedBy 3 = .ok (.aload_n 1, 1) := by decide +kernel
theorem dX1_pleasedBy_4 : decode cX1_pleasedBy 4 = .ok (.getfield 32, 3) := by decide +kernel
theorem dX1_pleasedBy_7 : decode cX1_pleasedBy 7 = .ok (.iload_n 3, 1) := by decide +kernel
theorem dX1_pleasedBy_8 : decode cX1_pleasedBy 8 = .ok (.iaload, 1) := by decide +kernel
theorem dX1_pleasedBy_9 : decode cX1_pleasedBy 9 = .ok (.invokevirtual 59, 3) := by decide +kernel
theorem dX1_pleasedBy_12 : decode cX1_pleasedBy 12 = .ok (.aload_n 0, 1) := by decide +kernel
theorem dX1_pleasedBy_13 : decode cX1_pleasedBy 13 = .ok (.getfield 165, 3) := by decide +kernel
theorem dX1_pleasedBy_16 : decode cX1_pleasedBy 16 = .ok (.iload_n 2, 1) := by decide +kernel
theorem dX1_pleasedBy_17 : decode cX1_pleasedBy 17 = .ok (.iaload, 1) := by decide +kernel
theorem dX1_pleasedBy_18 : decode cX1_pleasedBy 18 = .ok (.isub, 1) := by decide +kernel
theorem dX1_pleasedBy_19 : decode cX1_pleasedBy 19 = .ok (.invokestatic 168, 3) := by decide +kernel
theorem dX1_pleasedBy_22 : decode cX1_pleasedBy 22 = .ok (.isub, 1) := by decide +kernel
theorem dX1_pleasedBy_23 : decode cX1_pleasedBy 23 = .ok (.ireturn, 1) := by decide +kernel
theorem dX1_heardBy_0 : decode cX1_heardBy 0 = .ok (.iconst 0, 1) := by decide +kernel
theorem dX1_heardBy_1 : decode cX1_heardBy 1 = .ok (.istore 5, 2) := by decide +kernel
theorem dX1_heardBy_3 : decode cX1_heardBy 3 = .ok (.iconst (-1), 1) := by decide +kernel
theorem dX1_heardBy_4 : decode cX1_heardBy 4 = .ok (.istore 6, 2) := by decide +kernel
theorem dX1_heardBy_6 : decode cX1_heardBy 6 = .ok (.iconst 0, 1) := by decide +kernel
theorem dX1_heardBy_7 : decode cX1_heardBy 7 = .ok (.istore 7, 2) := by decide +kernel
theorem dX1_heardBy_9 : decode cX1_heardBy 9 = .ok (.iload 7, 2) := by decide +kernel
theorem dX1_heardBy_11 : decode cX1_heardBy 11 = .ok (.iload 4, 2) := by decide +kernel
theorem dX1_heardBy_13 : decode cX1_heardBy 13 = .ok (.if_icmp .gt 136, 3) := by decide +kernel
theorem dX1_heardBy_16 : decode cX1_heardBy 16 = .ok (.iload 7, 2) := by decide +kernel
theorem dX1_heardBy_18 : decode cX1_heardBy 18 = .ok (.aload_n 1, 1) := by decide +kernel
theorem dX1_heardBy_19 : decode cX1_heardBy 19 = .ok (.getfield 155, 3) := by decide +kernel
theorem dX1_heardBy_22 : decode cX1_heardBy 22 = .ok (.if_icmp .ge 127, 3) := by decide +kernel
theorem dX1_heardBy_25 : decode cX1_heardBy 25 = .ok (.iconst (-1), 1) := by decide +kernel
theorem dX1_heardBy_26 : decode cX1_heardBy 26 = .ok (.istore 6, 2) := by decide +kernel
theorem dX1_heardBy_28 : decode cX1_heardBy 28 = .ok (.iconst 0, 1) := by decide +kernel
theorem dX1_heardBy_29 : decode cX1_heardBy 29 = .ok (.istore 8, 2) := by decide +kernel
theorem dX1_heardBy_31 : decode cX1_heardBy 31 = .ok (.iload 8, 2) := by decide +kernel
theorem dX1_heardBy_33 : decode cX1_heardBy 33 = .ok (.aload_n 1, 1) := by decide +kernel
theorem dX1_heardBy_34 : decode cX1_heardBy 34 = .ok (.getfield 117, 3) := by decide +kernel
theorem dX1_heardBy_37 : decode cX1_heardBy 37 = .ok (.if_icmp .ge 91, 3) := by decide +kernel
theorem dX1_heardBy_40 : decode cX1_heardBy 40 = .ok (.aload_n 0, 1) := by decide +kernel
theorem dX1_heardBy_41 : decode cX1_heardBy 41 = .ok (.iload 7, 2) := by decide +kernel
theorem dX1_heardBy_43 : decode cX1_heardBy 43 = .ok (.iconst 1, 1) := by decide +kernel
theorem dX1_heardBy_44 : decode cX1_heardBy 44 = .ok (.iadd, 1) := by decide +kernel
theorem dX1_heardBy_45 : decode cX1_heardBy 45 = .ok (.iload 5, 2) := by decide +kernel
theorem dX1_heardBy_47 : decode cX1_heardBy 47 = .ok (.invokevirtual 162, 3) := by decide +kernel
theorem dX1_heardBy_50 : decode cX1_heardBy 50 = .ok (.aload_n 0, 1) := by decide +kernel
theorem dX1_heardBy_51 : decode cX1_heardBy 51 = .ok (.iload 7, 2) := by decide +kernel
theorem dX1_heardBy_53 : decode cX1_heardBy 53 = .ok (.iload 5, 2) := by decide +kernel
theorem dX1_heardBy_55 : decode cX1_heardBy 55 = .ok (.invokevirtual 162, 3) := by decide +kernel
theorem dX1_heardBy_58 : decode cX1_heardBy 58 = .ok (.if_icmp .eq 70, 3) := by decide +kernel
theorem dX1_heardBy_61 : decode cX1_heardBy 61 = .ok (.iload 6, 2) := by decide +kernel
theorem dX1_heardBy_63 : decode cX1_heardBy 63 = .ok (.iconst (-1), 1) := by decide +kernel
theorem dX1_heardBy_64 : decode cX1_heardBy 64 = .ok (.if_icmp .ne 64, 3) := by decide +kernel
theorem dX1_heardBy_67 : decode cX1_heardBy 67 = .ok (.iload_n 3, 1) := by decide +kernel
theorem dX1_heardBy_68 : decode cX1_heardBy 68 = .ok (.iload 5, 2) := by decide +kernel
theorem dX1_heardBy_70 : decode cX1_heardBy 70 = .ok (.iconst (-1), 1) := by decide +kernel
theorem dX1_heardBy_71 : decode cX1_heardBy 71 = .ok (.ixor, 1) := by decide +kernel
theorem dX1_heardBy_72 : decode cX1_heardBy 72 = .ok (.iand, 1) := by decide +kernel
theorem dX1_heardBy_73 : decode cX1_heardBy 73 = .ok (.iload 8, 2) := by decide +kernel
theorem dX1_heardBy_75 : decode cX1_heardBy 75 = .ok (.ishr, 1) := by decide +kernel
theorem dX1_heardBy_76 : decode cX1_heardBy 76 = .ok (.iconst 1, 1) := by decide +kernel
theorem dX1_heardBy_77 : decode cX1_heardBy 77 = .ok (.iand, 1) := by decide +kernel
theorem dX1_heardBy_78 : decode cX1_heardBy 78 = .ok (.iconst 1, 1) := by decide +kernel
theorem dX1_heardBy_79 : decode cX1_heardBy 79 = .ok (.if_icmp .ne 43, 3) := by decide +kernel
theorem dX1_heardBy_82 : decode cX1_heardBy 82 = .ok (.aload_n 1, 1) := by decide +kernel
theorem dX1_heardBy_83 : decode cX1_heardBy 83 = .ok (.aload_n 2, 1) := by decide +kernel
theorem dX1_heardBy_84 : decode cX1_heardBy 84 = .ok (.iload 7, 2) := by decide +kernel
theorem dX1_heardBy_86 : decode cX1_heardBy 86 = .ok (.iload 8, 2) := by decide +kernel
theorem dX1_heardBy_88 : decode cX1_heardBy 88 = .ok (.invokestatic 158, 3) := by decide +kernel
theorem dX1_heardBy_91 : decode cX1_heardBy 91 = .ok (.aload_n 0, 1) := by decide +kernel
theorem dX1_heardBy_92 : decode cX1_heardBy 92 = .ok (.iload 7, 2) := by decide +kernel
theorem dX1_heardBy_94 : decode cX1_heardBy 94 = .ok (.iconst 1, 1) := by decide +kernel
theorem dX1_heardBy_95 : decode cX1_heardBy 95 = .ok (.iadd, 1) := by decide +kernel
theorem dX1_heardBy_96 : decode cX1_heardBy 96 = .ok (.iload 5, 2) := by decide +kernel
theorem dX1_heardBy_98 : decode cX1_heardBy 98 = .ok (.iconst 1, 1) := by decide +kernel
theorem dX1_heardBy_99 : decode cX1_heardBy 99 = .ok (.iload 8, 2) := by decide +kernel
theorem dX1_heardBy_101 : decode cX1_heardBy 101 = .ok (.ishl, 1) := by decide +kernel
theorem dX1_heardBy_102 : decode cX1_heardBy 102 = .ok (.ior, 1) := by decide +kernel
theorem dX1_heardBy_103 : decode cX1_heardBy 103 = .ok (.invokevirtual 162, 3) := by decide +kernel
theorem dX1_heardBy_106 : decode cX1_heardBy 106 = .ok (.iadd, 1) := by decide +kernel
theorem dX1_heardBy_107 : decode cX1_heardBy 107 = .ok (.aload_n 0, 1) := by decide +kernel
theorem dX1_heardBy_108 : decode cX1_heardBy 108 = .ok (.iload 7, 2) := by decide +kernel
theorem dX1_heardBy_110 : decode cX1_heardBy 110 = .ok (.iload 5, 2) := by decide +kernel
theorem dX1_heardBy_112 : decode cX1_heardBy 112 = .ok (.invokevirtual 162, 3) := by decide +kernel
theorem dX1_heardBy_115 : decode cX1_heardBy 115 = .ok (.if_icmp .ne 7, 3) := by decide +kernel
theorem dX1_heardBy_118 : decode cX1_heardBy 118 = .ok (.iload 8, 2) := by decide +kernel
theorem dX1_heardBy_120 : decode cX1_heardBy 120 = .ok (.istore 6, 2) := by decide +kernel
theorem dX1_heardBy_122 : decode cX1_heardBy 122 = .ok (.iinc 8 1, 3) := by decide +kernel
theorem dX1_heardBy_125 : decode cX1_heardBy 125 = .ok (.goto (-94), 3) := by decide +kernel
theorem dX1_heardBy_128 : decode cX1_heardBy 128 = .ok (.iload 6, 2) := by decide +kernel
theorem dX1_heardBy_130 : decode cX1_heardBy 130 = .ok (.iconst (-1), 1) := by decide +kernel
theorem dX1_heardBy_131 : decode cX1_heardBy 131 = .ok (.if_icmp .eq 12, 3) := by decide +kernel
theorem dX1_heardBy_134 : decode cX1_heardBy 134 = .ok (.iload 5, 2) := by decide +kernel
theorem dX1_heardBy_136 : decode cX1_heardBy 136 = .ok (.iconst 1, 1) := by decide +kernel
theorem dX1_heardBy_137 : decode cX1_heardBy 137 = .ok (.iload 6, 2) := by decide +kernel
theorem dX1_heardBy_139 : decode cX1_heardBy 139 = .ok (.ishl, 1) := by decide +kernel
theorem dX1_heardBy_140 : decode cX1_heardBy 140 = .ok (.ior, 1) := by decide +kernel
theorem dX1_heardBy_141 : decode cX1_heardBy 141 = .ok (.istore 5, 2) := by decide +kernel
theorem dX1_heardBy_143 : decode cX1_heardBy 143 = .ok (.iinc 7 1, 3) := by decide +kernel
theorem dX1_heardBy_146 : decode cX1_heardBy 146 = .ok (.goto (-137), 3) := by decide +kernel
theorem dX1_heardBy_149 : decode cX1_heardBy 149 = .ok (.iload 6, 2) := by decide +kernel
theorem dX1_heardBy_151 : decode cX1_heardBy 151 = .ok (.ireturn, 1) := by decide +kernel
theorem dX2_init_0 : decode cX2_init 0 = .ok (.aload_n 0, 1) := by decide +kernel
theorem dX2_init_1 : decode cX2_init 1 = .ok (.invokespecial 3, 3) := by decide +kernel
theorem dX2_init_4 : decode cX2_init 4 = .ok (.aload_n 0, 1) := by decide +kernel
theorem dX2_init_5 : decode cX2_init 5 = .ok (.sipush 1600, 3) := by decide +kernel
theorem dX2_init_8 : decode cX2_init 8 = .ok (.newarray .int, 2) := by decide +kernel
theorem dX2_init_10 : decode cX2_init 10 = .ok (.putfield 9, 3) := by decide +kernel
theorem dX2_init_13 : decode cX2_init 13 = .ok (.aload_n 0, 1) := by decide +kernel
theorem dX2_init_14 : decode cX2_init 14 = .ok (.iconst 0, 1) := by decide +kernel
theorem dX2_init_15 : decode cX2_init 15 = .ok (.putfield 15, 3) := by decide +kernel
theorem dX2_init_18 : decode cX2_init 18 = .ok (.aload_n 0, 1) := by decide +kernel
theorem dX2_init_19 : decode cX2_init 19 = .ok (.iconst 3, 1) := by decide +kernel
theorem dX2_init_20 : decode cX2_init 20 = .ok (.newarray .int, 2) := by decide +kernel
theorem dX2_init_22 : decode cX2_init 22 = .ok (.putfield 19, 3) := by decide +kernel
theorem dX2_init_25 : decode cX2_init 25 = .ok (.aload_n 0, 1) := by decide +kernel
theorem dX2_init_26 : decode cX2_init 26 = .ok (.iconst 3, 1) := by decide +kernel
theorem dX2_init_27 : decode cX2_init 27 = .ok (.newarray .int, 2) := by decide +kernel
theorem dX2_init_29 : decode cX2_init 29 = .ok (.putfield 22, 3) := by decide +kernel
theorem dX2_init_32 : decode cX2_init 32 = .ok (.aload_n 0, 1) := by decide +kernel
theorem dX2_init_33 : decode cX2_init 33 = .ok (.iconst 3, 1) := by decide +kernel
theorem dX2_init_34 : decode cX2_init 34 = .ok (.newarray .boolean, 2) := by decide +kernel
theorem dX2_init_36 : decode cX2_init 36 = .ok (.putfield 25, 3) := by decide +kernel
theorem dX2_init_39 : decode cX2_init 39 = .ok (.return_, 1) := by decide +kernel
theorem dX2_empty_0 : decode cX2_empty 0 = .ok (.aload_n 0, 1) := by decide +kernel
theorem dX2_empty_1 : decode cX2_empty 1 = .ok (.iconst 0, 1) := by decide +kernel
theorem dX2_empty_2 : decode cX2_empty 2 = .ok (.putfield 15, 3) := by decide +kernel
theorem dX2_empty_5 : decode cX2_empty 5 = .ok (.iconst 0, 1) := by decide +kernel
theorem dX2_empty_6 : decode cX2_empty 6 = .ok (.istore_n 1, 1) := by decide +kernel
theorem dX2_empty_7 : decode cX2_empty 7 = .ok (.iload_n 1, 1) := by decide +kernel
theorem dX2_empty_8 : decode cX2_empty 8 = .ok (.iconst 3, 1) := by decide +kernel
theorem dX2_empty_9 : decode cX2_empty 9 = .ok (.if_icmp .ge 30, 3) := by decide +kernel
theorem dX2_empty_12 : decode cX2_empty 12 = .ok (.aload_n 0, 1) := by decide +kernel
theorem dX2_empty_13 : decode cX2_empty 13 = .ok (.getfield 19, 3) := by decide +kernel
theorem dX2_empty_16 : decode cX2_empty 16 = .ok (.iload_n 1, 1) := by decide +kernel
theorem dX2_empty_17 : decode cX2_empty 17 = .ok (.iconst 0, 1) := by decide +kernel
theorem dX2_empty_18 : decode cX2_empty 18 = .ok (.iastore, 1) := by decide +kernel
theorem dX2_empty_19 : decode cX2_empty 19 = .ok (.aload_n 0, 1) := by decide +kernel
theorem dX2_empty_20 : decode cX2_empty 20 = .ok (.getfield 22, 3) := by decide +kernel
theorem dX2_empty_23 : decode cX2_empty 23 = .ok (.iload_n 1, 1) := by decide +kernel
theorem dX2_empty_24 : decode cX2_empty 24 = .ok (.iconst 0, 1) := by decide +kernel
theorem dX2_empty_25 : decode cX2_empty 25 = .ok (.iastore, 1) := by decide +kernel
theorem dX2_empty_26 : decode cX2_empty 26 = .ok (.aload_n 0, 1) := by decide +kernel
theorem dX2_empty_27 : decode cX2_empty 27 = .ok (.getfield 25, 3) := by decide +kernel
theorem dX2_empty_30 : decode cX2_empty 30 = .ok (.iload_n 1, 1) := by decide +kernel
theorem dX2_empty_31 : decode cX2_empty 31 = .ok (.iconst 0, 1) := by decide +kernel
theorem dX2_empty_32 : decode cX2_empty 32 = .ok (.bastore, 1) := by decide +kernel
theorem dX2_empty_33 : decode cX2_empty 33 = .ok (.iinc 1 1, 3) := by decide +kernel
theorem dX2_empty_36 : decode cX2_empty 36 = .ok (.goto (-29), 3) := by decide +kernel
theorem dX2_empty_39 : decode cX2_empty 39 = .ok (.return_, 1) := by decide +kernel
theorem dX2_add_0 : decode cX2_add 0 = .ok (.aload_n 0, 1) := by decide +kernel
theorem dX2_add_1 : decode cX2_add 1 = .ok (.getfield 15, 3) := by decide +kernel
theorem dX2_add_4 : decode cX2_add 4 = .ok (.aload_n 0, 1) := by decide +kernel
theorem dX2_add_5 : decode cX2_add 5 = .ok (.getfield 9, 3) := by decide +kernel
theorem dX2_add_8 : decode cX2_add 8 = .ok (.arraylength, 1) := by decide +kernel
theorem dX2_add_9 : decode cX2_add 9 = .ok (.if_icmp .ge 23, 3) := by decide +kernel
theorem dX2_add_12 : decode cX2_add 12 = .ok (.aload_n 0, 1) := by decide +kernel
theorem dX2_add_13 : decode cX2_add 13 = .ok (.getfield 9, 3) := by decide +kernel
theorem dX2_add_16 : decode cX2_add 16 = .ok (.aload_n 0, 1) := by decide +kernel
theorem dX2_add_17 : decode cX2_add 17 = .ok (.getfield 15, 3) := by decide +kernel
theorem dX2_add_20 : decode cX2_add 20 = .ok (.iload_n 1, 1) := by decide +kernel
theorem dX2_add_21 : decode cX2_add 21 = .ok (.iastore, 1) := by decide +kernel
theorem dX2_add_22 : decode cX2_add 22 = .ok (.aload_n 0, 1) := by decide +kernel
theorem dX2_add_23 : decode cX2_add 23 = .ok (.dup, 1) := by decide +kernel
theorem dX2_add_24 : decode cX2_add 24 = .ok (.getfield 15, 3) := by decide +kernel
theorem dX2_add_27 : decode cX2_add 27 = .ok (.iconst 1, 1) := by decide +kernel
theorem dX2_add_28 : decode cX2_add 28 = .ok (.iadd, 1) := by decide +kernel
theorem dX2_add_29 : decode cX2_add 29 = .ok (.putfield 15, 3) := by decide +kernel
theorem dX2_add_32 : decode cX2_add 32 = .ok (.return_, 1) := by decide +kernel
theorem dX2_hasPart_0 : decode cX2_hasPart 0 = .ok (.iload_n 1, 1) := by decide +kernel
theorem dX2_hasPart_1 : decode cX2_hasPart 1 = .ok (.ifCond .lt 21, 3) := by decide +kernel
theorem dX2_hasPart_4 : decode cX2_hasPart 4 = .ok (.iload_n 1, 1) := by decide +kernel
theorem dX2_hasPart_5 : decode cX2_hasPart 5 = .ok (.iconst 3, 1) := by decide +kernel
theorem dX2_hasPart_6 : decode cX2_hasPart 6 = .ok (.if_icmp .ge 16, 3) := by decide +kernel
theorem dX2_hasPart_9 : decode cX2_hasPart 9 = .ok (.aload_n 0, 1) := by decide +kernel
theorem dX2_hasPart_10 : decode cX2_hasPart 10 = .ok (.getfield 25, 3) := by decide +kernel
theorem dX2_hasPart_13 : decode cX2_hasPart 13 = .ok (.iload_n 1, 1) := by decide +kernel
theorem dX2_hasPart_14 : decode cX2_hasPart 14 = .ok (.baload, 1) := by decide +kernel
theorem dX2_hasPart_15 : decode cX2_hasPart 15 = .ok (.ifCond .eq 7, 3) := by decide +kernel
theorem dX2_hasPart_18 : decode cX2_hasPart 18 = .ok (.iconst 1, 1) := by decide +kernel
theorem dX2_hasPart_19 : decode cX2_hasPart 19 = .ok (.goto 4, 3) := by decide +kernel
theorem dX2_hasPart_22 : decode cX2_hasPart 22 = .ok (.iconst 0, 1) := by decide +kernel
theorem dX2_hasPart_23 : decode cX2_hasPart 23 = .ok (.ireturn, 1) := by decide +kernel
theorem dX2_beginPart_0 : decode cX2_beginPart 0 = .ok (.iload_n 1, 1) := by decide +kernel
theorem dX2_beginPart_1 : decode cX2_beginPart 1 = .ok (.ifCond .lt 35, 3) := by decide +kernel
theorem dX2_beginPart_4 : decode cX2_beginPart 4 = .ok (.iload_n 1, 1) := by decide +kernel
theorem dX2_beginPart_5 : decode cX2_beginPart 5 = .ok (.iconst 3, 1) := by decide +kernel
theorem dX2_beginPart_6 : decode cX2_beginPart 6 = .ok (.if_icmp .ge 30, 3) := by decide +kernel
theorem dX2_beginPart_9 : decode cX2_beginPart 9 = .ok (.aload_n 0, 1) := by decide +kernel
theorem dX2_beginPart_10 : decode cX2_beginPart 10 = .ok (.getfield 25, 3) := by decide +kernel
theorem dX2_beginPart_13 : decode cX2_beginPart 13 = .ok (.iload_n 1, 1) := by decide +kernel
theorem dX2_beginPart_14 : decode cX2_beginPart 14 = .ok (.iconst 1, 1) := by decide +kernel
theorem dX2_beginPart_15 : decode cX2_beginPart 15 = .ok (.bastore, 1) := by decide +kernel
theorem dX2_beginPart_16 : decode cX2_beginPart 16 = .ok (.aload_n 0, 1) := by decide +kernel
theorem dX2_beginPart_17 : decode cX2_beginPart 17 = .ok (.getfield 19, 3) := by decide +kernel
theorem dX2_beginPart_20 : decode cX2_beginPart 20 = .ok (.iload_n 1, 1) := by decide +kernel
theorem dX2_beginPart_21 : decode cX2_beginPart 21 = .ok (.aload_n 0, 1) := by decide +kernel
theorem dX2_beginPart_22 : decode cX2_beginPart 22 = .ok (.getfield 15, 3) := by decide +kernel
theorem dX2_beginPart_25 : decode cX2_beginPart 25 = .ok (.iastore, 1) := by decide +kernel
theorem dX2_beginPart_26 : decode cX2_beginPart 26 = .ok (.aload_n 0, 1) := by decide +kernel
theorem dX2_beginPart_27 : decode cX2_beginPart 27 = .ok (.getfield 22, 3) := by decide +kernel
theorem dX2_beginPart_30 : decode cX2_beginPart 30 = .ok (.iload_n 1, 1) := by decide +kernel
theorem dX2_beginPart_31 : decode cX2_beginPart 31 = .ok (.aload_n 0, 1) := by decide +kernel
theorem dX2_beginPart_32 : decode cX2_beginPart 32 = .ok (.getfield 15, 3) := by decide +kernel
theorem dX2_beginPart_35 : decode cX2_beginPart 35 = .ok (.iastore, 1) := by decide +kernel
theorem dX2_beginPart_36 : decode cX2_beginPart 36 = .ok (.return_, 1) := by decide +kernel
theorem dX2_endPart_0 : decode cX2_endPart 0 = .ok (.iload_n 1, 1) := by decide +kernel
theorem dX2_endPart_1 : decode cX2_endPart 1 = .ok (.ifCond .lt 18, 3) := by decide +kernel
theorem dX2_endPart_4 : decode cX2_endPart 4 = .ok (.iload_n 1, 1) := by decide +kernel
theorem dX2_endPart_5 : decode cX2_endPart 5 = .ok (.iconst 3, 1) := by decide +kernel
theorem dX2_endPart_6 : decode cX2_endPart 6 = .ok (.if_icmp .ge 13, 3) := by decide +kernel
theorem dX2_endPart_9 : decode cX2_endPart 9 = .ok (.aload_n 0, 1) := by decide +kernel
theorem dX2_endPart_10 : decode cX2_endPart 10 = .ok (.getfield 22, 3) := by decide +kernel
theorem dX2_endPart_13 : decode cX2_endPart 13 = .ok (.iload_n 1, 1) := by decide +kernel
theorem dX2_endPart_14 : decode cX2_endPart 14 = .ok (.aload_n 0, 1) := by decide +kernel
theorem dX2_endPart_15 : decode cX2_endPart 15 = .ok (.getfield 15, 3) := by decide +kernel
theorem dX2_endPart_18 : decode cX2_endPart 18 = .ok (.iastore, 1) := by decide +kernel
theorem dX2_endPart_19 : decode cX2_endPart 19 = .ok (.return_, 1) := by decide +kernel
theorem dX3_init_0 : decode cX3_init 0 = .ok (.aload_n 0, 1) := by decide +kernel
theorem dX3_init_1 : decode cX3_init 1 = .ok (.invokespecial 3, 3) := by decide +kernel
theorem dX3_init_4 : decode cX3_init 4 = .ok (.aload_n 0, 1) := by decide +kernel
theorem dX3_init_5 : decode cX3_init 5 = .ok (.new 9, 3) := by decide +kernel
theorem dX3_init_8 : decode cX3_init 8 = .ok (.dup, 1) := by decide +kernel
theorem dX3_init_9 : decode cX3_init 9 = .ok (.invokespecial 11, 3) := by decide +kernel
theorem dX3_init_12 : decode cX3_init 12 = .ok (.putfield 12, 3) := by decide +kernel
theorem dX3_init_15 : decode cX3_init 15 = .ok (.aload_n 0, 1) := by decide +kernel
theorem dX3_init_16 : decode cX3_init 16 = .ok (.new 18, 3) := by decide +kernel
theorem dX3_init_19 : decode cX3_init 19 = .ok (.dup, 1) := by decide +kernel
theorem dX3_init_20 : decode cX3_init 20 = .ok (.invokespecial 20, 3) := by decide +kernel
theorem dX3_init_23 : decode cX3_init 23 = .ok (.putfield 21, 3) := by decide +kernel
theorem dX3_init_26 : decode cX3_init 26 = .ok (.aload_n 0, 1) := by decide +kernel
theorem dX3_init_27 : decode cX3_init 27 = .ok (.aload_n 0, 1) := by decide +kernel
theorem dX3_init_28 : decode cX3_init 28 = .ok (.getfield 21, 3) := by decide +kernel
theorem dX3_init_31 : decode cX3_init 31 = .ok (.putfield 25, 3) := by decide +kernel
theorem dX3_init_34 : decode cX3_init 34 = .ok (.aload_n 0, 1) := by decide +kernel
theorem dX3_init_35 : decode cX3_init 35 = .ok (.iconst 0, 1) := by decide +kernel
theorem dX3_init_36 : decode cX3_init 36 = .ok (.putfield 28, 3) := by decide +kernel
theorem dX3_init_39 : decode cX3_init 39 = .ok (.aload_n 0, 1) := by decide +kernel
theorem dX3_init_40 : decode cX3_init 40 = .ok (.iconst 0, 1) := by decide +kernel
theorem dX3_init_41 : decode cX3_init 41 = .ok (.putfield 32, 3) := by decide +kernel
theorem dX3_init_44 : decode cX3_init 44 = .ok (.aload_n 0, 1) := by decide +kernel
theorem dX3_init_45 : decode cX3_init 45 = .ok (.iconst (-1), 1) := by decide +kernel
theorem dX3_init_46 : decode cX3_init 46 = .ok (.putfield 35, 3) := by decide +kernel
theorem dX3_init_49 : decode cX3_init 49 = .ok (.return_, 1) := by decide +kernel
theorem dX3_readStation_0 : decode cX3_readStation 0 = .ok (.aload_n 3, 1) := by decide +kernel
theorem dX3_readStation_1 : decode cX3_readStation 1 = .ok (.invokevirtual 39, 3) := by decide +kernel
theorem dX3_readStation_4 : decode cX3_readStation 4 = .ok (.aload_n 0, 1) := by decide +kernel
theorem dX3_readStation_5 : decode cX3_readStation 5 = .ok (.aload_n 3, 1) := by decide +kernel
theorem dX3_readStation_6 : decode cX3_readStation 6 = .ok (.getfield 44, 3) := by decide +kernel
theorem dX3_readStation_9 : decode cX3_readStation 9 = .ok (.putfield 25, 3) := by decide +kernel
theorem dX3_readStation_12 : decode cX3_readStation 12 = .ok (.aload_n 0, 1) := by decide +kernel
theorem dX3_readStation_13 : decode cX3_readStation 13 = .ok (.iconst 0, 1) := by decide +kernel
theorem dX3_readStation_14 : decode cX3_readStation 14 = .ok (.putfield 28, 3) := by decide +kernel
theorem dX3_readStation_17 : decode cX3_readStation 17 = .ok (.aload_n 0, 1) := by decide +kernel
theorem dX3_readStation_18 : decode cX3_readStation 18 = .ok (.getfield 12, 3) := by decide +kernel
theorem dX3_readStation_21 : decode cX3_readStation 21 = .ok (.aload_n 1, 1) := by decide +kernel
theorem dX3_readStation_22 : decode cX3_readStation 22 = .ok (.iload_n 2, 1) := by decide +kernel
theorem dX3_readStation_23 : decode cX3_readStation 23 = .ok (.invokevirtual 47, 3) := by decide +kernel
theorem dX3_readStation_26 : decode cX3_readStation 26 = .ok (.iconst 0, 1) := by decide +kernel
theorem dX3_readStation_27 : decode cX3_readStation 27 = .ok (.istore 4, 2) := by decide +kernel
theorem dX3_readStation_29 : decode cX3_readStation 29 = .ok (.iload 4, 2) := by decide +kernel
theorem dX3_readStation_31 : decode cX3_readStation 31 = .ok (.bipush 80, 2) := by decide +kernel
theorem dX3_readStation_33 : decode cX3_readStation 33 = .ok (.if_icmp .gt 49, 3) := by decide +kernel
theorem dX3_readStation_36 : decode cX3_readStation 36 = .ok (.aload_n 0, 1) := by decide +kernel
theorem dX3_readStation_37 : decode cX3_readStation 37 = .ok (.getfield 12, 3) := by decide +kernel
theorem dX3_readStation_40 : decode cX3_readStation 40 = .ok (.invokevirtual 51, 3) := by decide +kernel
theorem dX3_readStation_43 : decode cX3_readStation 43 = .ok (.ifCond .eq 39, 3) := by decide +kernel
theorem dX3_readStation_46 : decode cX3_readStation 46 = .ok (.iload 4, 2) := by decide +kernel
theorem dX3_readStation_48 : decode cX3_readStation 48 = .ok (.bipush 80, 2) := by decide +kernel
theorem dX3_readStation_50 : decode cX3_readStation 50 = .ok (.if_icmp .ne 21, 3) := by decide +kernel
theorem dX3_readStation_53 : decode cX3_readStation 53 = .ok (.aload_n 0, 1) := by decide +kernel
theorem dX3_readStation_54 : decode cX3_readStation 54 = .ok (.getfield 12, 3) := by decide +kernel
theorem dX3_readStation_57 : decode cX3_readStation 57 = .ok (.iconst 5, 1) := by decide +kernel
theorem dX3_readStation_58 : decode cX3_readStation 58 = .ok (.aload_n 0, 1) := by decide +kernel
theorem dX3_readStation_59 : decode cX3_readStation 59 = .ok (.getfield 12, 3) := by decide +kernel
theorem dX3_readStation_62 : decode cX3_readStation 62 = .ok (.getfield 55, 3) := by decide +kernel
theorem dX3_readStation_65 : decode cX3_readStation 65 = .ok (.invokevirtual 58, 3) := by decide +kernel
theorem dX3_readStation_68 : decode cX3_readStation 68 = .ok (.goto 8, 3) := by decide +kernel
theorem dX3_readStation_71 : decode cX3_readStation 71 = .ok (.aload_n 0, 1) := by decide +kernel
theorem dX3_readStation_72 : decode cX3_readStation 72 = .ok (.aload_n 3, 1) := by decide +kernel
theorem dX3_readStation_73 : decode cX3_readStation 73 = .ok (.invokevirtual 62, 3) := by decide +kernel
theorem dX3_readStation_76 : decode cX3_readStation 76 = .ok (.iinc 4 1, 3) := by decide +kernel
theorem dX3_readStation_79 : decode cX3_readStation 79 = .ok (.goto (-50), 3) := by decide +kernel
theorem dX3_readStation_82 : decode cX3_readStation 82 = .ok (.aload_n 3, 1) := by decide +kernel
theorem dX3_readStation_83 : decode cX3_readStation 83 = .ok (.getfield 66, 3) := by decide +kernel
theorem dX3_readStation_86 : decode cX3_readStation 86 = .ok (.ifCond .ne 18, 3) := by decide +kernel
theorem dX3_readStation_89 : decode cX3_readStation 89 = .ok (.aload_n 0, 1) := by decide +kernel
theorem dX3_readStation_90 : decode cX3_readStation 90 = .ok (.getfield 12, 3) := by decide +kernel
theorem dX3_readStation_93 : decode cX3_readStation 93 = .ok (.iconst 1, 1) := by decide +kernel
theorem dX3_readStation_94 : decode cX3_readStation 94 = .ok (.aload_n 0, 1) := by decide +kernel
theorem dX3_readStation_95 : decode cX3_readStation 95 = .ok (.getfield 12, 3) := by decide +kernel
theorem dX3_readStation_98 : decode cX3_readStation 98 = .ok (.getfield 55, 3) := by decide +kernel
theorem dX3_readStation_101 : decode cX3_readStation 101 = .ok (.invokevirtual 58, 3) := by decide +kernel
theorem dX3_readStation_104 : decode cX3_readStation 104 = .ok (.aload_n 3, 1) := by decide +kernel
theorem dX3_readStation_105 : decode cX3_readStation 105 = .ok (.invokevirtual 69, 3) := by decide +kernel
theorem dX3_readStation_108 : decode cX3_readStation 108 = .ok (.return_, 1) := by decide +kernel
theorem dX3_readQuestion_0 : decode cX3_readQuestion 0 = .ok (.aload_n 0, 1) := by decide +kernel
theorem dX3_readQuestion_1 : decode cX3_readQuestion 1 = .ok (.getfield 21, 3) := by decide +kernel
theorem dX3_readQuestion_4 : decode cX3_readQuestion 4 = .ok (.invokevirtual 72, 3) := by decide +kernel
theorem dX3_readQuestion_7 : decode cX3_readQuestion 7 = .ok (.aload_n 0, 1) := by decide +kernel
theorem dX3_readQuestion_8 : decode cX3_readQuestion 8 = .ok (.aload_n 0, 1) := by decide +kernel
theorem dX3_readQuestion_9 : decode cX3_readQuestion 9 = .ok (.getfield 21, 3) := by decide +kernel
theorem dX3_readQuestion_12 : decode cX3_readQuestion 12 = .ok (.putfield 25, 3) := by decide +kernel
theorem dX3_readQuestion_15 : decode cX3_readQuestion 15 = .ok (.aload_n 0, 1) := by decide +kernel
theorem dX3_readQuestion_16 : decode cX3_readQuestion 16 = .ok (.iconst 1, 1) := by decide +kernel
theorem dX3_readQuestion_17 : decode cX3_readQuestion 17 = .ok (.putfield 28, 3) := by decide +kernel
theorem dX3_readQuestion_20 : decode cX3_readQuestion 20 = .ok (.aload_n 0, 1) := by decide +kernel
theorem dX3_readQuestion_21 : decode cX3_readQuestion 21 = .ok (.iconst 1, 1) := by decide +kernel
theorem dX3_readQuestion_22 : decode cX3_readQuestion 22 = .ok (.putfield 32, 3) := by decide +kernel
theorem dX3_readQuestion_25 : decode cX3_readQuestion 25 = .ok (.aload_n 0, 1) := by decide +kernel
theorem dX3_readQuestion_26 : decode cX3_readQuestion 26 = .ok (.getfield 12, 3) := by decide +kernel
theorem dX3_readQuestion_29 : decode cX3_readQuestion 29 = .ok (.aload_n 1, 1) := by decide +kernel
theorem dX3_readQuestion_30 : decode cX3_readQuestion 30 = .ok (.iload_n 2, 1) := by decide +kernel
theorem dX3_readQuestion_31 : decode cX3_readQuestion 31 = .ok (.invokevirtual 47, 3) := by decide +kernel
theorem dX3_readQuestion_34 : decode cX3_readQuestion 34 = .ok (.aload_n 0, 1) := by decide +kernel
theorem dX3_readQuestion_35 : decode cX3_readQuestion 35 = .ok (.aload_n 0, 1) := by decide +kernel
theorem dX3_readQuestion_36 : decode cX3_readQuestion 36 = .ok (.getfield 12, 3) := by decide +kernel
theorem dX3_readQuestion_39 : decode cX3_readQuestion 39 = .ok (.invokevirtual 73, 3) := by decide +kernel
theorem dX3_readQuestion_42 : decode cX3_readQuestion 42 = .ok (.putfield 35, 3) := by decide +kernel
theorem dX3_readQuestion_45 : decode cX3_readQuestion 45 = .ok (.aload_n 0, 1) := by decide +kernel
theorem dX3_readQuestion_46 : decode cX3_readQuestion 46 = .ok (.getfield 35, 3) := by decide +kernel
theorem dX3_readQuestion_49 : decode cX3_readQuestion 49 = .ok (.bipush 28, 2) := by decide +kernel
theorem dX3_readQuestion_51 : decode cX3_readQuestion 51 = .ok (.if_icmp .lt 12, 3) := by decide +kernel
theorem dX3_readQuestion_54 : decode cX3_readQuestion 54 = .ok (.aload_n 0, 1) := by decide +kernel
theorem dX3_readQuestion_55 : decode cX3_readQuestion 55 = .ok (.getfield 35, 3) := by decide +kernel
theorem dX3_readQuestion_58 : decode cX3_readQuestion 58 = .ok (.bipush 33, 2) := by decide +kernel
theorem dX3_readQuestion_60 : decode cX3_readQuestion 60 = .ok (.if_icmp .le 19, 3) := by decide +kernel
theorem dX3_readQuestion_63 : decode cX3_readQuestion 63 = .ok (.aload_n 0, 1) := by decide +kernel
theorem dX3_readQuestion_64 : decode cX3_readQuestion 64 = .ok (.getfield 12, 3) := by decide +kernel
theorem dX3_readQuestion_67 : decode cX3_readQuestion 67 = .ok (.iconst 1, 1) := by decide +kernel
theorem dX3_readQuestion_68 : decode cX3_readQuestion 68 = .ok (.aload_n 0, 1) := by decide +kernel
theorem dX3_readQuestion_69 : decode cX3_readQuestion 69 = .ok (.getfield 12, 3) := by decide +kernel
theorem dX3_readQuestion_72 : decode cX3_readQuestion 72 = .ok (.getfield 55, 3) := by decide +kernel
theorem dX3_readQuestion_75 : decode cX3_readQuestion 75 = .ok (.invokevirtual 58, 3) := by decide +kernel
theorem dX3_readQuestion_78 : decode cX3_readQuestion 78 = .ok (.return_, 1) := by decide +kernel
theorem dX3_readQuestion_79 : decode cX3_readQuestion 79 = .ok (.aload_n 0, 1) := by decide +kernel
theorem dX3_readQuestion_80 : decode cX3_readQuestion 80 = .ok (.getfield 12, 3) := by decide +kernel
theorem dX3_readQuestion_83 : decode cX3_readQuestion 83 = .ok (.invokevirtual 77, 3) := by decide +kernel
theorem dX3_readQuestion_86 : decode cX3_readQuestion 86 = .ok (.aload_n 0, 1) := by decide +kernel
theorem dX3_readQuestion_87 : decode cX3_readQuestion 87 = .ok (.getfield 25, 3) := by decide +kernel
theorem dX3_readQuestion_90 : decode cX3_readQuestion 90 = .ok (.iconst 0, 1) := by decide +kernel
theorem dX3_readQuestion_91 : decode cX3_readQuestion 91 = .ok (.invokevirtual 80, 3) := by decide +kernel
theorem dX3_readQuestion_94 : decode cX3_readQuestion 94 = .ok (.aload_n 0, 1) := by decide +kernel
theorem dX3_readQuestion_95 : decode cX3_readQuestion 95 = .ok (.getfield 35, 3) := by decide +kernel
theorem dX3_readQuestion_98 : decode cX3_readQuestion 98 = .ok (.bipush 28, 2) := by decide +kernel
theorem dX3_readQuestion_100 : decode cX3_readQuestion 100 = .ok (.if_icmp .eq 21, 3) := by decide +kernel
theorem dX3_readQuestion_103 : decode cX3_readQuestion 103 = .ok (.aload_n 0, 1) := by decide +kernel
theorem dX3_readQuestion_104 : decode cX3_readQuestion 104 = .ok (.getfield 35, 3) := by decide +kernel
theorem dX3_readQuestion_107 : decode cX3_readQuestion 107 = .ok (.bipush 29, 2) := by decide +kernel
theorem dX3_readQuestion_109 : decode cX3_readQuestion 109 = .ok (.if_icmp .eq 12, 3) := by decide +kernel
theorem dX3_readQuestion_112 : decode cX3_readQuestion 112 = .ok (.aload_n 0, 1) := by decide +kernel
theorem dX3_readQuestion_113 : decode cX3_readQuestion 113 = .ok (.getfield 35, 3) := by decide +kernel
theorem dX3_readQuestion_116 : decode cX3_readQuestion 116 = .ok (.bipush 30, 2) := by decide +kernel
theorem dX3_readQuestion_118 : decode cX3_readQuestion 118 = .ok (.if_icmp .ne 11, 3) := by decide +kernel
theorem dX3_readQuestion_121 : decode cX3_readQuestion 121 = .ok (.aload_n 0, 1) := by decide +kernel
theorem dX3_readQuestion_122 : decode cX3_readQuestion 122 = .ok (.iconst 0, 1) := by decide +kernel
theorem dX3_readQuestion_123 : decode cX3_readQuestion 123 = .ok (.invokevirtual 84, 3) := by decide +kernel
theorem dX3_readQuestion_126 : decode cX3_readQuestion 126 = .ok (.goto 8, 3) := by decide +kernel
theorem dX3_readQuestion_129 : decode cX3_readQuestion 129 = .ok (.aload_n 0, 1) := by decide +kernel
theorem dX3_readQuestion_130 : decode cX3_readQuestion 130 = .ok (.iconst 0, 1) := by decide +kernel
theorem dX3_readQuestion_131 : decode cX3_readQuestion 131 = .ok (.invokevirtual 87, 3) := by decide +kernel
theorem dX3_readQuestion_134 : decode cX3_readQuestion 134 = .ok (.aload_n 0, 1) := by decide +kernel
theorem dX3_readQuestion_135 : decode cX3_readQuestion 135 = .ok (.getfield 25, 3) := by decide +kernel
theorem dX3_readQuestion_138 : decode cX3_readQuestion 138 = .ok (.iconst 0, 1) := by decide +kernel
theorem dX3_readQuestion_139 : decode cX3_readQuestion 139 = .ok (.invokevirtual 90, 3) := by decide +kernel
theorem dX3_readQuestion_142 : decode cX3_readQuestion 142 = .ok (.aload_n 0, 1) := by decide +kernel
theorem dX3_readQuestion_143 : decode cX3_readQuestion 143 = .ok (.getfield 12, 3) := by decide +kernel
theorem dX3_readQuestion_146 : decode cX3_readQuestion 146 = .ok (.getfield 93, 3) := by decide +kernel
theorem dX3_readQuestion_149 : decode cX3_readQuestion 149 = .ok (.iconst 5, 1) := by decide +kernel
theorem dX3_readQuestion_150 : decode cX3_readQuestion 150 = .ok (.if_icmp .eq 18, 3) := by decide +kernel
theorem dX3_readQuestion_153 : decode cX3_readQuestion 153 = .ok (.aload_n 0, 1) := by decide +kernel
theorem dX3_readQuestion_154 : decode cX3_readQuestion 154 = .ok (.getfield 12, 3) := by decide +kernel
theorem dX3_readQuestion_157 : decode cX3_readQuestion 157 = .ok (.iconst 1, 1) := by decide +kernel
theorem dX3_readQuestion_158 : decode cX3_readQuestion 158 = .ok (.aload_n 0, 1) := by decide +kernel
theorem dX3_readQuestion_159 : decode cX3_readQuestion 159 = .ok (.getfield 12, 3) := by decide +kernel
theorem dX3_readQuestion_162 : decode cX3_readQuestion 162 = .ok (.getfield 55, 3) := by decide +kernel
theorem dX3_readQuestion_165 : decode cX3_readQuestion 165 = .ok (.invokevirtual 58, 3) := by decide +kernel
theorem dX3_readQuestion_168 : decode cX3_readQuestion 168 = .ok (.return_, 1) := by decide +kernel
theorem dX3_readStatement_0 : decode cX3_readStatement 0 = .ok (.aload_n 0, 1) := by decide +kernel
theorem dX3_readStatement_1 : decode cX3_readStatement 1 = .ok (.getfield 12, 3) := by decide +kernel
theorem dX3_readStatement_4 : decode cX3_readStatement 4 = .ok (.invokevirtual 73, 3) := by decide +kernel
theorem dX3_readStatement_7 : decode cX3_readStatement 7 = .ok (.istore_n 2, 1) := by decide +kernel
theorem dX3_readStatement_8 : decode cX3_readStatement 8 = .ok (.iload_n 2, 1) := by decide +kernel
theorem dX3_readStatement_9 : decode cX3_readStatement 9 = .ok (.ifCond .ne 7, 3) := by decide +kernel
theorem dX3_readStatement_12 : decode cX3_readStatement 12 = .ok (.iconst 1, 1) := by decide +kernel
theorem dX3_readStatement_13 : decode cX3_readStatement 13 = .ok (.goto 4, 3) := by decide +kernel
theorem dX3_readStatement_16 : decode cX3_readStatement 16 = .ok (.iconst 0, 1) := by decide +kernel
theorem dX3_readStatement_17 : decode cX3_readStatement 17 = .ok (.aload_n 1, 1) := by decide +kernel
theorem dX3_readStatement_18 : decode cX3_readStatement 18 = .ok (.getfield 66, 3) := by decide +kernel
theorem dX3_readStatement_21 : decode cX3_readStatement 21 = .ok (.ifCond .ne 7, 3) := by decide +kernel
theorem dX3_readStatement_24 : decode cX3_readStatement 24 = .ok (.iconst 1, 1) := by decide +kernel
theorem dX3_readStatement_25 : decode cX3_readStatement 25 = .ok (.goto 4, 3) := by decide +kernel
theorem dX3_readStatement_28 : decode cX3_readStatement 28 = .ok (.iconst 0, 1) := by decide +kernel
theorem dX3_readStatement_29 : decode cX3_readStatement 29 = .ok (.if_icmp .eq 19, 3) := by decide +kernel
theorem dX3_readStatement_32 : decode cX3_readStatement 32 = .ok (.aload_n 0, 1) := by decide +kernel
theorem dX3_readStatement_33 : decode cX3_readStatement 33 = .ok (.getfield 12, 3) := by decide +kernel
theorem dX3_readStatement_36 : decode cX3_readStatement 36 = .ok (.iconst 1, 1) := by decide +kernel
theorem dX3_readStatement_37 : decode cX3_readStatement 37 = .ok (.aload_n 0, 1) := by decide +kernel
theorem dX3_readStatement_38 : decode cX3_readStatement 38 = .ok (.getfield 12, 3) := by decide +kernel
theorem dX3_readStatement_41 : decode cX3_readStatement 41 = .ok (.getfield 55, 3) := by decide +kernel
theorem dX3_readStatement_44 : decode cX3_readStatement 44 = .ok (.invokevirtual 58, 3) := by decide +kernel
theorem dX3_readStatement_47 : decode cX3_readStatement 47 = .ok (.return_, 1) := by decide +kernel
theorem dX3_readStatement_48 : decode cX3_readStatement 48 = .ok (.iload_n 2, 1) := by decide +kernel
theorem dX3_readStatement_49 : decode cX3_readStatement 49 = .ok (.tableswitch 196 0 14 #[75, 99, 196, 196, 107, 196, 196, 196, 115, 196, 123, 131, 139, 147, 172], 75) := by decide +kernel
theorem dX3_readStatement_124 : decode cX3_readStatement 124 = .ok (.aload_n 0, 1) := by decide +kernel
theorem dX3_readStatement_125 : decode cX3_readStatement 125 = .ok (.getfield 12, 3) := by decide +kernel
theorem dX3_readStatement_128 : decode cX3_readStatement 128 = .ok (.invokevirtual 77, 3) := by decide +kernel
theorem dX3_readStatement_131 : decode cX3_readStatement 131 = .ok (.aload_n 1, 1) := by decide +kernel
theorem dX3_readStatement_132 : decode cX3_readStatement 132 = .ok (.aload_n 0, 1) := by decide +kernel
theorem dX3_readStatement_133 : decode cX3_readStatement 133 = .ok (.getfield 12, 3) := by decide +kernel
theorem dX3_readStatement_136 : decode cX3_readStatement 136 = .ok (.iconst 1, 1) := by decide +kernel
theorem dX3_readStatement_137 : decode cX3_readStatement 137 = .ok (.bipush 60, 2) := by decide +kernel
theorem dX3_readStatement_139 : decode cX3_readStatement 139 = .ok (.invokevirtual 96, 3) := by decide +kernel
theorem dX3_readStatement_142 : decode cX3_readStatement 142 = .ok (.putfield 100, 3) := by decide +kernel
theorem dX3_readStatement_145 : decode cX3_readStatement 145 = .ok (.goto 115, 3) := by decide +kernel
theorem dX3_readStatement_148 : decode cX3_readStatement 148 = .ok (.aload_n 0, 1) := by decide +kernel
theorem dX3_readStatement_149 : decode cX3_readStatement 149 = .ok (.aload_n 1, 1) := by decide +kernel
theorem dX3_readStatement_150 : decode cX3_readStatement 150 = .ok (.invokevirtual 103, 3) := by decide +kernel
theorem dX3_readStatement_153 : decode cX3_readStatement 153 = .ok (.goto 107, 3) := by decide +kernel
theorem dX3_readStatement_156 : decode cX3_readStatement 156 = .ok (.aload_n 0, 1) := by decide +kernel
theorem dX3_readStatement_157 : decode cX3_readStatement 157 = .ok (.aload_n 1, 1) := by decide +kernel
theorem dX3_readStatement_158 : decode cX3_readStatement 158 = .ok (.invokevirtual 106, 3) := by decide +kernel
theorem dX3_readStatement_161 : decode cX3_readStatement 161 = .ok (.goto 99, 3) := by decide +kernel
theorem dX3_readStatement_164 : decode cX3_readStatement 164 = .ok (.aload_n 0, 1) := by decide +kernel
theorem dX3_readStatement_165 : decode cX3_readStatement 165 = .ok (.aload_n 1, 1) := by decide +kernel
theorem dX3_readStatement_166 : decode cX3_readStatement 166 = .ok (.invokevirtual 109, 3) := by decide +kernel
theorem dX3_readStatement_169 : decode cX3_readStatement 169 = .ok (.goto 91, 3) := by decide +kernel
theorem dX3_readStatement_172 : decode cX3_readStatement 172 = .ok (.aload_n 0, 1) := by decide +kernel
theorem dX3_readStatement_173 : decode cX3_readStatement 173 = .ok (.iconst 0, 1) := by decide +kernel
theorem dX3_readStatement_174 : decode cX3_readStatement 174 = .ok (.invokevirtual 112, 3) := by decide +kernel
theorem dX3_readStatement_177 : decode cX3_readStatement 177 = .ok (.goto 83, 3) := by decide +kernel
theorem dX3_readStatement_180 : decode cX3_readStatement 180 = .ok (.aload_n 0, 1) := by decide +kernel
theorem dX3_readStatement_181 : decode cX3_readStatement 181 = .ok (.iconst 1, 1) := by decide +kernel
theorem dX3_readStatement_182 : decode cX3_readStatement 182 = .ok (.invokevirtual 112, 3) := by decide +kernel
theorem dX3_readStatement_185 : decode cX3_readStatement 185 = .ok (.goto 75, 3) := by decide +kernel
theorem dX3_readStatement_188 : decode cX3_readStatement 188 = .ok (.aload_n 0, 1) := by decide +kernel
theorem dX3_readStatement_189 : decode cX3_readStatement 189 = .ok (.iconst 2, 1) := by decide +kernel
theorem dX3_readStatement_190 : decode cX3_readStatement 190 = .ok (.invokevirtual 112, 3) := by decide +kernel
theorem dX3_readStatement_193 : decode cX3_readStatement 193 = .ok (.goto 67, 3) := by decide +kernel
theorem dX3_readStatement_196 : decode cX3_readStatement 196 = .ok (.aload_n 0, 1) := by decide +kernel
theorem dX3_readStatement_197 : decode cX3_readStatement 197 = .ok (.getfield 12, 3) := by decide +kernel
theorem dX3_readStatement_200 : decode cX3_readStatement 200 = .ok (.invokevirtual 77, 3) := by decide +kernel
theorem dX3_readStatement_203 : decode cX3_readStatement 203 = .ok (.aload_n 1, 1) := by decide +kernel
theorem dX3_readStatement_204 : decode cX3_readStatement 204 = .ok (.aload_n 0, 1) := by decide +kernel
theorem dX3_readStatement_205 : decode cX3_readStatement 205 = .ok (.getfield 12, 3) := by decide +kernel
theorem dX3_readStatement_208 : decode cX3_readStatement 208 = .ok (.iconst 0, 1) := by decide +kernel
theorem dX3_readStatement_209 : decode cX3_readStatement 209 = .ok (.sipush 999, 3) := by decide +kernel
theorem dX3_readStatement_212 : decode cX3_readStatement 212 = .ok (.invokevirtual 96, 3) := by decide +kernel
theorem dX3_readStatement_215 : decode cX3_readStatement 215 = .ok (.putfield 115, 3) := by decide +kernel
theorem dX3_readStatement_218 : decode cX3_readStatement 218 = .ok (.goto 42, 3) := by decide +kernel
theorem dX3_readStatement_221 : decode cX3_readStatement 221 = .ok (.aload_n 0, 1) := by decide +kernel
theorem dX3_readStatement_222 : decode cX3_readStatement 222 = .ok (.getfield 12, 3) := by decide +kernel
theorem dX3_readStatement_225 : decode cX3_readStatement 225 = .ok (.invokevirtual 77, 3) := by decide +kernel
theorem dX3_readStatement_228 : decode cX3_readStatement 228 = .ok (.aload_n 1, 1) := by decide +kernel
theorem dX3_readStatement_229 : decode cX3_readStatement 229 = .ok (.aload_n 0, 1) := by decide +kernel
theorem dX3_readStatement_230 : decode cX3_readStatement 230 = .ok (.getfield 12, 3) := by decide +kernel
theorem dX3_readStatement_233 : decode cX3_readStatement 233 = .ok (.iconst 0, 1) := by decide +kernel
theorem dX3_readStatement_234 : decode cX3_readStatement 234 = .ok (.bipush 100, 2) := by decide +kernel
theorem dX3_readStatement_236 : decode cX3_readStatement 236 = .ok (.invokevirtual 96, 3) := by decide +kernel
theorem dX3_readStatement_239 : decode cX3_readStatement 239 = .ok (.putfield 118, 3) := by decide +kernel
theorem dX3_readStatement_242 : decode cX3_readStatement 242 = .ok (.goto 18, 3) := by decide +kernel
theorem dX3_readStatement_245 : decode cX3_readStatement 245 = .ok (.aload_n 0, 1) := by decide +kernel
theorem dX3_readStatement_246 : decode cX3_readStatement 246 = .ok (.getfield 12, 3) := by decide +kernel
theorem dX3_readStatement_249 : decode cX3_readStatement 249 = .ok (.iconst 1, 1) := by decide +kernel
theorem dX3_readStatement_250 : decode cX3_readStatement 250 = .ok (.aload_n 0, 1) := by decide +kernel
theorem dX3_readStatement_251 : decode cX3_readStatement 251 = .ok (.getfield 12, 3) := by decide +kernel
theorem dX3_readStatement_254 : decode cX3_readStatement 254 = .ok (.getfield 55, 3) := by decide +kernel
theorem dX3_readStatement_257 : decode cX3_readStatement 257 = .ok (.invokevirtual 58, 3) := by decide +kernel
theorem dX3_readStatement_260 : decode cX3_readStatement 260 = .ok (.aload_n 0, 1) := by decide +kernel
theorem dX3_readStatement_261 : decode cX3_readStatement 261 = .ok (.getfield 12, 3) := by decide +kernel
theorem dX3_readStatement_264 : decode cX3_readStatement 264 = .ok (.bipush 59, 2) := by decide +kernel
theorem dX3_readStatement_266 : decode cX3_readStatement 266 = .ok (.invokevirtual 121, 3) := by decide +kernel
theorem dX3_readStatement_269 : decode cX3_readStatement 269 = .ok (.aload_n 1, 1) := by decide +kernel
theorem dX3_readStatement_270 : decode cX3_readStatement 270 = .ok (.dup, 1) := by decide +kernel
theorem dX3_readStatement_271 : decode cX3_readStatement 271 = .ok (.getfield 66, 3) := by decide +kernel
theorem dX3_readStatement_274 : decode cX3_readStatement 274 = .ok (.iconst 1, 1) := by decide +kernel
theorem dX3_readStatement_275 : decode cX3_readStatement 275 = .ok (.iadd, 1) := by decide +kernel
theorem dX3_readStatement_276 : decode cX3_readStatement 276 = .ok (.putfield 66, 3) := by decide +kernel
theorem dX3_readStatement_279 : decode cX3_readStatement 279 = .ok (.return_, 1) := by decide +kernel
theorem dX3_readSong_0 : decode cX3_readSong 0 = .ok (.aload_n 1, 1) := by decide +kernel
theorem dX3_readSong_1 : decode cX3_readSong 1 = .ok (.getfield 125, 3) := by decide +kernel
theorem dX3_readSong_4 : decode cX3_readSong 4 = .ok (.bipush 6, 2) := by decide +kernel
theorem dX3_readSong_6 : decode cX3_readSong 6 = .ok (.if_icmp .lt 19, 3) := by decide +kernel
theorem dX3_readSong_9 : decode cX3_readSong 9 = .ok (.aload_n 0, 1) := by decide +kernel
theorem dX3_readSong_10 : decode cX3_readSong 10 = .ok (.getfield 12, 3) := by decide +kernel
theorem dX3_readSong_13 : decode cX3_readSong 13 = .ok (.iconst 5, 1) := by decide +kernel
theorem dX3_readSong_14 : decode cX3_readSong 14 = .ok (.aload_n 0, 1) := by decide +kernel
theorem dX3_readSong_15 : decode cX3_readSong 15 = .ok (.getfield 12, 3) := by decide +kernel
theorem dX3_readSong_18 : decode cX3_readSong 18 = .ok (.getfield 55, 3) := by decide +kernel
theorem dX3_readSong_21 : decode cX3_readSong 21 = .ok (.invokevirtual 58, 3) := by decide +kernel
theorem dX3_readSong_24 : decode cX3_readSong 24 = .ok (.return_, 1) := by decide +kernel
theorem dX3_readSong_25 : decode cX3_readSong 25 = .ok (.aload_n 0, 1) := by decide +kernel
theorem dX3_readSong_26 : decode cX3_readSong 26 = .ok (.getfield 12, 3) := by decide +kernel
theorem dX3_readSong_29 : decode cX3_readSong 29 = .ok (.invokevirtual 77, 3) := by decide +kernel
theorem dX3_readSong_32 : decode cX3_readSong 32 = .ok (.aload_n 0, 1) := by decide +kernel
theorem dX3_readSong_33 : decode cX3_readSong 33 = .ok (.aload_n 1, 1) := by decide +kernel
theorem dX3_readSong_34 : decode cX3_readSong 34 = .ok (.invokevirtual 128, 3) := by decide +kernel
theorem dX3_readSong_37 : decode cX3_readSong 37 = .ok (.istore_n 2, 1) := by decide +kernel
theorem dX3_readSong_38 : decode cX3_readSong 38 = .ok (.aload_n 0, 1) := by decide +kernel
theorem dX3_readSong_39 : decode cX3_readSong 39 = .ok (.getfield 12, 3) := by decide +kernel
theorem dX3_readSong_42 : decode cX3_readSong 42 = .ok (.iconst 2, 1) := by decide +kernel
theorem dX3_readSong_43 : decode cX3_readSong 43 = .ok (.invokevirtual 132, 3) := by decide +kernel
theorem dX3_readSong_46 : decode cX3_readSong 46 = .ok (.aload_n 0, 1) := by decide +kernel
theorem dX3_readSong_47 : decode cX3_readSong 47 = .ok (.getfield 12, 3) := by decide +kernel
theorem dX3_readSong_50 : decode cX3_readSong 50 = .ok (.iconst 1, 1) := by decide +kernel
theorem dX3_readSong_51 : decode cX3_readSong 51 = .ok (.bipush 60, 2) := by decide +kernel
theorem dX3_readSong_53 : decode cX3_readSong 53 = .ok (.invokevirtual 96, 3) := by decide +kernel
theorem dX3_readSong_56 : decode cX3_readSong 56 = .ok (.istore_n 3, 1) := by decide +kernel
theorem dX3_readSong_57 : decode cX3_readSong 57 = .ok (.aload_n 0, 1) := by decide +kernel
theorem dX3_readSong_58 : decode cX3_readSong 58 = .ok (.getfield 12, 3) := by decide +kernel
theorem dX3_readSong_61 : decode cX3_readSong 61 = .ok (.iconst 3, 1) := by decide +kernel
theorem dX3_readSong_62 : decode cX3_readSong 62 = .ok (.invokevirtual 132, 3) := by decide +kernel
theorem dX3_readSong_65 : decode cX3_readSong 65 = .ok (.aload_n 0, 1) := by decide +kernel
theorem dX3_readSong_66 : decode cX3_readSong 66 = .ok (.getfield 12, 3) := by decide +kernel
theorem dX3_readSong_69 : decode cX3_readSong 69 = .ok (.iconst 0, 1) := by decide +kernel
theorem dX3_readSong_70 : decode cX3_readSong 70 = .ok (.bipush 9, 2) := by decide +kernel
theorem dX3_readSong_72 : decode cX3_readSong 72 = .ok (.invokevirtual 96, 3) := by decide +kernel
theorem dX3_readSong_75 : decode cX3_readSong 75 = .ok (.istore 4, 2) := by decide +kernel
theorem dX3_readSong_77 : decode cX3_readSong 77 = .ok (.aload_n 1, 1) := by decide +kernel
theorem dX3_readSong_78 : decode cX3_readSong 78 = .ok (.iload_n 2, 1) := by decide +kernel
theorem dX3_readSong_79 : decode cX3_readSong 79 = .ok (.iload_n 3, 1) := by decide +kernel
theorem dX3_readSong_80 : decode cX3_readSong 80 = .ok (.iload 4, 2) := by decide +kernel
theorem dX3_readSong_82 : decode cX3_readSong 82 = .ok (.invokevirtual 135, 3) := by decide +kernel
theorem dX3_readSong_85 : decode cX3_readSong 85 = .ok (.return_, 1) := by decide +kernel
theorem dX3_readAsker_0 : decode cX3_readAsker 0 = .ok (.aload_n 1, 1) := by decide +kernel
theorem dX3_readAsker_1 : decode cX3_readAsker 1 = .ok (.getfield 139, 3) := by decide +kernel
theorem dX3_readAsker_4 : decode cX3_readAsker 4 = .ok (.bipush 8, 2) := by decide +kernel
theorem dX3_readAsker_6 : decode cX3_readAsker 6 = .ok (.if_icmp .lt 19, 3) := by decide +kernel
theorem dX3_readAsker_9 : decode cX3_readAsker 9 = .ok (.aload_n 0, 1) := by decide +kernel
theorem dX3_readAsker_10 : decode cX3_readAsker 10 = .ok (.getfield 12, 3) := by decide +kernel
theorem dX3_readAsker_13 : decode cX3_readAsker 13 = .ok (.iconst 5, 1) := by decide +kernel
theorem dX3_readAsker_14 : decode cX3_readAsker 14 = .ok (.aload_n 0, 1) := by decide +kernel
theorem dX3_readAsker_15 : decode cX3_readAsker 15 = .ok (.getfield 12, 3) := by decide +kernel
theorem dX3_readAsker_18 : decode cX3_readAsker 18 = .ok (.getfield 55, 3) := by decide +kernel
theorem dX3_readAsker_21 : decode cX3_readAsker 21 = .ok (.invokevirtual 58, 3) := by decide +kernel
theorem dX3_readAsker_24 : decode cX3_readAsker 24 = .ok (.return_, 1) := by decide +kernel
theorem dX3_readAsker_25 : decode cX3_readAsker 25 = .ok (.aload_n 0, 1) := by decide +kernel
theorem dX3_readAsker_26 : decode cX3_readAsker 26 = .ok (.getfield 12, 3) := by decide +kernel
theorem dX3_readAsker_29 : decode cX3_readAsker 29 = .ok (.invokevirtual 77, 3) := by decide +kernel
theorem dX3_readAsker_32 : decode cX3_readAsker 32 = .ok (.aload_n 0, 1) := by decide +kernel
theorem dX3_readAsker_33 : decode cX3_readAsker 33 = .ok (.aload_n 1, 1) := by decide +kernel
theorem dX3_readAsker_34 : decode cX3_readAsker 34 = .ok (.invokevirtual 128, 3) := by decide +kernel
theorem dX3_readAsker_37 : decode cX3_readAsker 37 = .ok (.istore_n 2, 1) := by decide +kernel
theorem dX3_readAsker_38 : decode cX3_readAsker 38 = .ok (.aload_n 0, 1) := by decide +kernel
theorem dX3_readAsker_39 : decode cX3_readAsker 39 = .ok (.getfield 12, 3) := by decide +kernel
theorem dX3_readAsker_42 : decode cX3_readAsker 42 = .ok (.iconst 5, 1) := by decide +kernel
theorem dX3_readAsker_43 : decode cX3_readAsker 43 = .ok (.invokevirtual 132, 3) := by decide +kernel
theorem dX3_readAsker_46 : decode cX3_readAsker 46 = .ok (.aload_n 0, 1) := by decide +kernel
theorem dX3_readAsker_47 : decode cX3_readAsker 47 = .ok (.aload_n 1, 1) := by decide +kernel
theorem dX3_readAsker_48 : decode cX3_readAsker 48 = .ok (.invokevirtual 142, 3) := by decide +kernel
theorem dX3_readAsker_51 : decode cX3_readAsker 51 = .ok (.istore_n 3, 1) := by decide +kernel
theorem dX3_readAsker_52 : decode cX3_readAsker 52 = .ok (.aload_n 0, 1) := by decide +kernel
theorem dX3_readAsker_53 : decode cX3_readAsker 53 = .ok (.getfield 12, 3) := by decide +kernel
theorem dX3_readAsker_56 : decode cX3_readAsker 56 = .ok (.bipush 6, 2) := by decide +kernel
theorem dX3_readAsker_58 : decode cX3_readAsker 58 = .ok (.invokevirtual 132, 3) := by decide +kernel
theorem dX3_readAsker_61 : decode cX3_readAsker 61 = .ok (.aload_n 0, 1) := by decide +kernel
theorem dX3_readAsker_62 : decode cX3_readAsker 62 = .ok (.getfield 12, 3) := by decide +kernel
theorem dX3_readAsker_65 : decode cX3_readAsker 65 = .ok (.iconst 0, 1) := by decide +kernel
theorem dX3_readAsker_66 : decode cX3_readAsker 66 = .ok (.bipush 99, 2) := by decide +kernel
theorem dX3_readAsker_68 : decode cX3_readAsker 68 = .ok (.invokevirtual 96, 3) := by decide +kernel
theorem dX3_readAsker_71 : decode cX3_readAsker 71 = .ok (.istore 4, 2) := by decide +kernel
theorem dX3_readAsker_73 : decode cX3_readAsker 73 = .ok (.aload_n 0, 1) := by decide +kernel
theorem dX3_readAsker_74 : decode cX3_readAsker 74 = .ok (.getfield 12, 3) := by decide +kernel
theorem dX3_readAsker_77 : decode cX3_readAsker 77 = .ok (.bipush 7, 2) := by decide +kernel
theorem dX3_readAsker_79 : decode cX3_readAsker 79 = .ok (.invokevirtual 132, 3) := by decide +kernel
theorem dX3_readAsker_82 : decode cX3_readAsker 82 = .ok (.aload_n 0, 1) := by decide +kernel
theorem dX3_readAsker_83 : decode cX3_readAsker 83 = .ok (.getfield 12, 3) := by decide +kernel
theorem dX3_readAsker_86 : decode cX3_readAsker 86 = .ok (.iconst 0, 1) := by decide +kernel
theorem dX3_readAsker_87 : decode cX3_readAsker 87 = .ok (.bipush 99, 2) := by decide +kernel
theorem dX3_readAsker_89 : decode cX3_readAsker 89 = .ok (.invokevirtual 96, 3) := by decide +kernel
theorem dX3_readAsker_92 : decode cX3_readAsker 92 = .ok (.istore 5, 2) := by decide +kernel
theorem dX3_readAsker_94 : decode cX3_readAsker 94 = .ok (.aload_n 1, 1) := by decide +kernel
theorem dX3_readAsker_95 : decode cX3_readAsker 95 = .ok (.iload_n 2, 1) := by decide +kernel
theorem dX3_readAsker_96 : decode cX3_readAsker 96 = .ok (.iload_n 3, 1) := by decide +kernel
theorem dX3_readAsker_97 : decode cX3_readAsker 97 = .ok (.iload 4, 2) := by decide +kernel
theorem dX3_readAsker_99 : decode cX3_readAsker 99 = .ok (.iload 5, 2) := by decide +kernel
theorem dX3_readAsker_101 : decode cX3_readAsker 101 = .ok (.invokevirtual 145, 3) := by decide +kernel
theorem dX3_readAsker_104 : decode cX3_readAsker 104 = .ok (.return_, 1) := by decide +kernel
theorem dX3_readEar_0 : decode cX3_readEar 0 = .ok (.aload_n 1, 1) := by decide +kernel
theorem dX3_readEar_1 : decode cX3_readEar 1 = .ok (.getfield 149, 3) := by decide +kernel
theorem dX3_readEar_4 : decode cX3_readEar 4 = .ok (.iconst 5, 1) := by decide +kernel
theorem dX3_readEar_5 : decode cX3_readEar 5 = .ok (.if_icmp .lt 19, 3) := by decide +kernel
theorem dX3_readEar_8 : decode cX3_readEar 8 = .ok (.aload_n 0, 1) := by decide +kernel
theorem dX3_readEar_9 : decode cX3_readEar 9 = .ok (.getfield 12, 3) := by decide +kernel
theorem dX3_readEar_12 : decode cX3_readEar 12 = .ok (.iconst 5, 1) := by decide +kernel
theorem dX3_readEar_13 : decode cX3_readEar 13 = .ok (.aload_n 0, 1) := by decide +kernel
theorem dX3_readEar_14 : decode cX3_readEar 14 = .ok (.getfield 12, 3) := by decide +kernel
theorem dX3_readEar_17 : decode cX3_readEar 17 = .ok (.getfield 55, 3) := by decide +kernel
theorem dX3_readEar_20 : decode cX3_readEar 20 = .ok (.invokevirtual 58, 3) := by decide +kernel
theorem dX3_readEar_23 : decode cX3_readEar 23 = .ok (.return_, 1) := by decide +kernel
theorem dX3_readEar_24 : decode cX3_readEar 24 = .ok (.aload_n 0, 1) := by decide +kernel
theorem dX3_readEar_25 : decode cX3_readEar 25 = .ok (.getfield 12, 3) := by decide +kernel
theorem dX3_readEar_28 : decode cX3_readEar 28 = .ok (.invokevirtual 77, 3) := by decide +kernel
theorem dX3_readEar_31 : decode cX3_readEar 31 = .ok (.aload_n 0, 1) := by decide +kernel
theorem dX3_readEar_32 : decode cX3_readEar 32 = .ok (.aload_n 1, 1) := by decide +kernel
theorem dX3_readEar_33 : decode cX3_readEar 33 = .ok (.invokevirtual 128, 3) := by decide +kernel
theorem dX3_readEar_36 : decode cX3_readEar 36 = .ok (.istore_n 2, 1) := by decide +kernel
theorem dX3_readEar_37 : decode cX3_readEar 37 = .ok (.aload_n 0, 1) := by decide +kernel
theorem dX3_readEar_38 : decode cX3_readEar 38 = .ok (.getfield 12, 3) := by decide +kernel
theorem dX3_readEar_41 : decode cX3_readEar 41 = .ok (.bipush 9, 2) := by decide +kernel
theorem dX3_readEar_43 : decode cX3_readEar 43 = .ok (.invokevirtual 132, 3) := by decide +kernel
theorem dX3_readEar_46 : decode cX3_readEar 46 = .ok (.aload_n 0, 1) := by decide +kernel
theorem dX3_readEar_47 : decode cX3_readEar 47 = .ok (.getfield 12, 3) := by decide +kernel
theorem dX3_readEar_50 : decode cX3_readEar 50 = .ok (.iconst 0, 1) := by decide +kernel
theorem dX3_readEar_51 : decode cX3_readEar 51 = .ok (.bipush 9, 2) := by decide +kernel
theorem dX3_readEar_53 : decode cX3_readEar 53 = .ok (.invokevirtual 96, 3) := by decide +kernel
theorem dX3_readEar_56 : decode cX3_readEar 56 = .ok (.istore_n 3, 1) := by decide +kernel
theorem dX3_readEar_57 : decode cX3_readEar 57 = .ok (.aload_n 1, 1) := by decide +kernel
theorem dX3_readEar_58 : decode cX3_readEar 58 = .ok (.iload_n 2, 1) := by decide +kernel
theorem dX3_readEar_59 : decode cX3_readEar 59 = .ok (.iload_n 3, 1) := by decide +kernel
theorem dX3_readEar_60 : decode cX3_readEar 60 = .ok (.invokevirtual 152, 3) := by decide +kernel
theorem dX3_readEar_63 : decode cX3_readEar 63 = .ok (.return_, 1) := by decide +kernel
theorem dX3_readPart_0 : decode cX3_readPart 0 = .ok (.aload_n 0, 1) := by decide +kernel
theorem dX3_readPart_1 : decode cX3_readPart 1 = .ok (.getfield 25, 3) := by decide +kernel
theorem dX3_readPart_4 : decode cX3_readPart 4 = .ok (.iload_n 1, 1) := by decide +kernel
theorem dX3_readPart_5 : decode cX3_readPart 5 = .ok (.invokevirtual 155, 3) := by decide +kernel
theorem dX3_readPart_8 : decode cX3_readPart 8 = .ok (.ifCond .eq 19, 3) := by decide +kernel
theorem dX3_readPart_11 : decode cX3_readPart 11 = .ok (.aload_n 0, 1) := by decide +kernel
theorem dX3_readPart_12 : decode cX3_readPart 12 = .ok (.getfield 12, 3) := by decide +kernel
theorem dX3_readPart_15 : decode cX3_readPart 15 = .ok (.iconst 5, 1) := by decide +kernel
theorem dX3_readPart_16 : decode cX3_readPart 16 = .ok (.aload_n 0, 1) := by decide +kernel
theorem dX3_readPart_17 : decode cX3_readPart 17 = .ok (.getfield 12, 3) := by decide +kernel
theorem dX3_readPart_20 : decode cX3_readPart 20 = .ok (.getfield 55, 3) := by decide +kernel
theorem dX3_readPart_23 : decode cX3_readPart 23 = .ok (.invokevirtual 58, 3) := by decide +kernel
theorem dX3_readPart_26 : decode cX3_readPart 26 = .ok (.return_, 1) := by decide +kernel
theorem dX3_readPart_27 : decode cX3_readPart 27 = .ok (.aload_n 0, 1) := by decide +kernel
theorem dX3_readPart_28 : decode cX3_readPart 28 = .ok (.getfield 12, 3) := by decide +kernel
theorem dX3_readPart_31 : decode cX3_readPart 31 = .ok (.invokevirtual 77, 3) := by decide +kernel
theorem dX3_readPart_34 : decode cX3_readPart 34 = .ok (.aload_n 0, 1) := by decide +kernel
theorem dX3_readPart_35 : decode cX3_readPart 35 = .ok (.iload_n 1, 1) := by decide +kernel
theorem dX3_readPart_36 : decode cX3_readPart 36 = .ok (.ifCond .eq 7, 3) := by decide +kernel
theorem dX3_readPart_39 : decode cX3_readPart 39 = .ok (.iconst 1, 1) := by decide +kernel
theorem dX3_readPart_40 : decode cX3_readPart 40 = .ok (.goto 4, 3) := by decide +kernel
theorem dX3_readPart_43 : decode cX3_readPart 43 = .ok (.iconst 0, 1) := by decide +kernel
theorem dX3_readPart_44 : decode cX3_readPart 44 = .ok (.putfield 32, 3) := by decide +kernel
theorem dX3_readPart_47 : decode cX3_readPart 47 = .ok (.aload_n 0, 1) := by decide +kernel
theorem dX3_readPart_48 : decode cX3_readPart 48 = .ok (.getfield 25, 3) := by decide +kernel
theorem dX3_readPart_51 : decode cX3_readPart 51 = .ok (.iload_n 1, 1) := by decide +kernel
theorem dX3_readPart_52 : decode cX3_readPart 52 = .ok (.invokevirtual 80, 3) := by decide +kernel
theorem dX3_readPart_55 : decode cX3_readPart 55 = .ok (.iload_n 1, 1) := by decide +kernel
theorem dX3_readPart_56 : decode cX3_readPart 56 = .ok (.iconst 1, 1) := by decide +kernel
theorem dX3_readPart_57 : decode cX3_readPart 57 = .ok (.if_icmp .ne 11, 3) := by decide +kernel
theorem dX3_readPart_60 : decode cX3_readPart 60 = .ok (.aload_n 0, 1) := by decide +kernel
theorem dX3_readPart_61 : decode cX3_readPart 61 = .ok (.iconst 0, 1) := by decide +kernel
theorem dX3_readPart_62 : decode cX3_readPart 62 = .ok (.invokevirtual 84, 3) := by decide +kernel
theorem dX3_readPart_65 : decode cX3_readPart 65 = .ok (.goto 8, 3) := by decide +kernel
theorem dX3_readPart_68 : decode cX3_readPart 68 = .ok (.aload_n 0, 1) := by decide +kernel
theorem dX3_readPart_69 : decode cX3_readPart 69 = .ok (.iconst 0, 1) := by decide +kernel
theorem dX3_readPart_70 : decode cX3_readPart 70 = .ok (.invokevirtual 87, 3) := by decide +kernel
theorem dX3_readPart_73 : decode cX3_readPart 73 = .ok (.aload_n 0, 1) := by decide +kernel
theorem dX3_readPart_74 : decode cX3_readPart 74 = .ok (.getfield 25, 3) := by decide +kernel
theorem dX3_readPart_77 : decode cX3_readPart 77 = .ok (.iload_n 1, 1) := by decide +kernel
theorem dX3_readPart_78 : decode cX3_readPart 78 = .ok (.invokevirtual 90, 3) := by decide +kernel
theorem dX3_readPart_81 : decode cX3_readPart 81 = .ok (.return_, 1) := by decide +kernel
theorem dX3_readNewName_0 : decode cX3_readNewName 0 = .ok (.aload_n 0, 1) := by decide +kernel
theorem dX3_readNewName_1 : decode cX3_readNewName 1 = .ok (.getfield 12, 3) := by decide +kernel
theorem dX3_readNewName_4 : decode cX3_readNewName 4 = .ok (.invokevirtual 159, 3) := by decide +kernel
theorem dX3_readNewName_7 : decode cX3_readNewName 7 = .ok (.ifCond .ne 5, 3) := by decide +kernel
theorem dX3_readNewName_10 : decode cX3_readNewName 10 = .ok (.iconst 0, 1) := by decide +kernel
theorem dX3_readNewName_11 : decode cX3_readNewName 11 = .ok (.ireturn, 1) := by decide +kernel
theorem dX3_readNewName_12 : decode cX3_readNewName 12 = .ok (.aload_n 0, 1) := by decide +kernel
theorem dX3_readNewName_13 : decode cX3_readNewName 13 = .ok (.getfield 12, 3) := by decide +kernel
theorem dX3_readNewName_16 : decode cX3_readNewName 16 = .ok (.getfield 162, 3) := by decide +kernel
theorem dX3_readNewName_19 : decode cX3_readNewName 19 = .ok (.istore_n 2, 1) := by decide +kernel
theorem dX3_readNewName_20 : decode cX3_readNewName 20 = .ok (.aload_n 1, 1) := by decide +kernel
theorem dX3_readNewName_21 : decode cX3_readNewName 21 = .ok (.iload_n 2, 1) := by decide +kernel
theorem dX3_readNewName_22 : decode cX3_readNewName 22 = .ok (.invokevirtual 165, 3) := by decide +kernel
theorem dX3_readNewName_25 : decode cX3_readNewName 25 = .ok (.ifCond .eq 18, 3) := by decide +kernel
theorem dX3_readNewName_28 : decode cX3_readNewName 28 = .ok (.aload_n 0, 1) := by decide +kernel
theorem dX3_readNewName_29 : decode cX3_readNewName 29 = .ok (.getfield 12, 3) := by decide +kernel
theorem dX3_readNewName_32 : decode cX3_readNewName 32 = .ok (.iconst 3, 1) := by decide +kernel
theorem dX3_readNewName_33 : decode cX3_readNewName 33 = .ok (.aload_n 0, 1) := by decide +kernel
theorem dX3_readNewName_34 : decode cX3_readNewName 34 = .ok (.getfield 12, 3) := by decide +kernel
theorem dX3_readNewName_37 : decode cX3_readNewName 37 = .ok (.getfield 55, 3) := by decide +kernel
theorem dX3_readNewName_40 : decode cX3_readNewName 40 = .ok (.invokevirtual 58, 3) := by decide +kernel
theorem dX3_readNewName_43 : decode cX3_readNewName 43 = .ok (.aload_n 0, 1) := by decide +kernel
theorem dX3_readNewName_44 : decode cX3_readNewName 44 = .ok (.getfield 12, 3) := by decide +kernel
theorem dX3_readNewName_47 : decode cX3_readNewName 47 = .ok (.invokevirtual 77, 3) := by decide +kernel
theorem dX3_readNewName_50 : decode cX3_readNewName 50 = .ok (.iload_n 2, 1) := by decide +kernel
theorem dX3_readNewName_51 : decode cX3_readNewName 51 = .ok (.ireturn, 1) := by decide +kernel
theorem dX3_readSongName_0 : decode cX3_readSongName 0 = .ok (.aload_n 0, 1) := by decide +kernel
theorem dX3_readSongName_1 : decode cX3_readSongName 1 = .ok (.getfield 12, 3) := by decide +kernel
theorem dX3_readSongName_4 : decode cX3_readSongName 4 = .ok (.invokevirtual 159, 3) := by decide +kernel
theorem dX3_readSongName_7 : decode cX3_readSongName 7 = .ok (.ifCond .ne 5, 3) := by decide +kernel
theorem dX3_readSongName_10 : decode cX3_readSongName 10 = .ok (.iconst 0, 1) := by decide +kernel
theorem dX3_readSongName_11 : decode cX3_readSongName 11 = .ok (.ireturn, 1) := by decide +kernel
theorem dX3_readSongName_12 : decode cX3_readSongName 12 = .ok (.aload_n 1, 1) := by decide +kernel
theorem dX3_readSongName_13 : decode cX3_readSongName 13 = .ok (.aload_n 0, 1) := by decide +kernel
theorem dX3_readSongName_14 : decode cX3_readSongName 14 = .ok (.getfield 12, 3) := by decide +kernel
theorem dX3_readSongName_17 : decode cX3_readSongName 17 = .ok (.getfield 162, 3) := by decide +kernel
theorem dX3_readSongName_20 : decode cX3_readSongName 20 = .ok (.invokevirtual 168, 3) := by decide +kernel
theorem dX3_readSongName_23 : decode cX3_readSongName 23 = .ok (.istore_n 2, 1) := by decide +kernel
theorem dX3_readSongName_24 : decode cX3_readSongName 24 = .ok (.iload_n 2, 1) := by decide +kernel
theorem dX3_readSongName_25 : decode cX3_readSongName 25 = .ok (.iconst (-1), 1) := by decide +kernel
theorem dX3_readSongName_26 : decode cX3_readSongName 26 = .ok (.if_icmp .ne 18, 3) := by decide +kernel
theorem dX3_readSongName_29 : decode cX3_readSongName 29 = .ok (.aload_n 0, 1) := by decide +kernel
theorem dX3_readSongName_30 : decode cX3_readSongName 30 = .ok (.getfield 12, 3) := by decide +kernel
theorem dX3_readSongName_33 : decode cX3_readSongName 33 = .ok (.iconst 3, 1) := by decide +kernel
theorem dX3_readSongName_34 : decode cX3_readSongName 34 = .ok (.aload_n 0, 1) := by decide +kernel
theorem dX3_readSongName_35 : decode cX3_readSongName 35 = .ok (.getfield 12, 3) := by decide +kernel
theorem dX3_readSongName_38 : decode cX3_readSongName 38 = .ok (.getfield 55, 3) := by decide +kernel
theorem dX3_readSongName_41 : decode cX3_readSongName 41 = .ok (.invokevirtual 58, 3) := by decide +kernel
theorem dX3_readSongName_44 : decode cX3_readSongName 44 = .ok (.aload_n 0, 1) := by decide +kernel
theorem dX3_readSongName_45 : decode cX3_readSongName 45 = .ok (.getfield 12, 3) := by decide +kernel
theorem dX3_readSongName_48 : decode cX3_readSongName 48 = .ok (.invokevirtual 77, 3) := by decide +kernel
theorem dX3_readSongName_51 : decode cX3_readSongName 51 = .ok (.iload_n 2, 1) := by decide +kernel
theorem dX3_readSongName_52 : decode cX3_readSongName 52 = .ok (.iconst 0, 1) := by decide +kernel
theorem dX3_readSongName_53 : decode cX3_readSongName 53 = .ok (.invokestatic 172, 3) := by decide +kernel
theorem dX3_readSongName_56 : decode cX3_readSongName 56 = .ok (.ireturn, 1) := by decide +kernel
theorem dX3_mayOpen_0 : decode cX3_mayOpen 0 = .ok (.iload_n 1, 1) := by decide +kernel
theorem dX3_mayOpen_1 : decode cX3_mayOpen 1 = .ok (.bipush 6, 2) := by decide +kernel
theorem dX3_mayOpen_3 : decode cX3_mayOpen 3 = .ok (.if_icmp .lt 18, 3) := by decide +kernel
theorem dX3_mayOpen_6 : decode cX3_mayOpen 6 = .ok (.aload_n 0, 1) := by decide +kernel
theorem dX3_mayOpen_7 : decode cX3_mayOpen 7 = .ok (.getfield 12, 3) := by decide +kernel
theorem dX3_mayOpen_10 : decode cX3_mayOpen 10 = .ok (.iconst 4, 1) := by decide +kernel
theorem dX3_mayOpen_11 : decode cX3_mayOpen 11 = .ok (.aload_n 0, 1) := by decide +kernel
theorem dX3_mayOpen_12 : decode cX3_mayOpen 12 = .ok (.getfield 12, 3) := by decide +kernel
theorem dX3_mayOpen_15 : decode cX3_mayOpen 15 = .ok (.getfield 55, 3) := by decide +kernel
theorem dX3_mayOpen_18 : decode cX3_mayOpen 18 = .ok (.invokevirtual 58, 3) := by decide +kernel
theorem dX3_mayOpen_21 : decode cX3_mayOpen 21 = .ok (.iload_n 1, 1) := by decide +kernel
theorem dX3_mayOpen_22 : decode cX3_mayOpen 22 = .ok (.bipush 6, 2) := by decide +kernel
theorem dX3_mayOpen_24 : decode cX3_mayOpen 24 = .ok (.if_icmp .ge 7, 3) := by decide +kernel
theorem dX3_mayOpen_27 : decode cX3_mayOpen 27 = .ok (.iconst 1, 1) := by decide +kernel
theorem dX3_mayOpen_28 : decode cX3_mayOpen 28 = .ok (.goto 4, 3) := by decide +kernel
theorem dX3_mayOpen_31 : decode cX3_mayOpen 31 = .ok (.iconst 0, 1) := by decide +kernel
theorem dX3_mayOpen_32 : decode cX3_mayOpen 32 = .ok (.ireturn, 1) := by decide +kernel
theorem dX3_readTest_0 : decode cX3_readTest 0 = .ok (.aload_n 0, 1) := by decide +kernel
theorem dX3_readTest_1 : decode cX3_readTest 1 = .ok (.iload_n 1, 1) := by decide +kernel
theorem dX3_readTest_2 : decode cX3_readTest 2 = .ok (.invokevirtual 177, 3) := by decide +kernel
theorem dX3_readTest_5 : decode cX3_readTest 5 = .ok (.iconst 0, 1) := by decide +kernel
theorem dX3_readTest_6 : decode cX3_readTest 6 = .ok (.istore_n 2, 1) := by decide +kernel
theorem dX3_readTest_7 : decode cX3_readTest 7 = .ok (.iload_n 2, 1) := by decide +kernel
theorem dX3_readTest_8 : decode cX3_readTest 8 = .ok (.sipush 1600, 3) := by decide +kernel
theorem dX3_readTest_11 : decode cX3_readTest 11 = .ok (.if_icmp .ge 43, 3) := by decide +kernel
theorem dX3_readTest_14 : decode cX3_readTest 14 = .ok (.aload_n 0, 1) := by decide +kernel
theorem dX3_readTest_15 : decode cX3_readTest 15 = .ok (.getfield 12, 3) := by decide +kernel
theorem dX3_readTest_18 : decode cX3_readTest 18 = .ok (.bipush 22, 2) := by decide +kernel
theorem dX3_readTest_20 : decode cX3_readTest 20 = .ok (.invokevirtual 180, 3) := by decide +kernel
theorem dX3_readTest_23 : decode cX3_readTest 23 = .ok (.ifCond .eq 31, 3) := by decide +kernel
theorem dX3_readTest_26 : decode cX3_readTest 26 = .ok (.aload_n 0, 1) := by decide +kernel
theorem dX3_readTest_27 : decode cX3_readTest 27 = .ok (.getfield 12, 3) := by decide +kernel
theorem dX3_readTest_30 : decode cX3_readTest 30 = .ok (.invokevirtual 77, 3) := by decide +kernel
theorem dX3_readTest_33 : decode cX3_readTest 33 = .ok (.aload_n 0, 1) := by decide +kernel
theorem dX3_readTest_34 : decode cX3_readTest 34 = .ok (.iload_n 1, 1) := by decide +kernel
theorem dX3_readTest_35 : decode cX3_readTest 35 = .ok (.invokevirtual 177, 3) := by decide +kernel
theorem dX3_readTest_38 : decode cX3_readTest 38 = .ok (.aload_n 0, 1) := by decide +kernel
theorem dX3_readTest_39 : decode cX3_readTest 39 = .ok (.getfield 25, 3) := by decide +kernel
theorem dX3_readTest_42 : decode cX3_readTest 42 = .ok (.sipush 10008, 3) := by decide +kernel
theorem dX3_readTest_45 : decode cX3_readTest 45 = .ok (.invokevirtual 183, 3) := by decide +kernel
theorem dX3_readTest_48 : decode cX3_readTest 48 = .ok (.iinc 2 1, 3) := by decide +kernel
theorem dX3_readTest_51 : decode cX3_readTest 51 = .ok (.goto (-44), 3) := by decide +kernel
theorem dX3_readTest_54 : decode cX3_readTest 54 = .ok (.return_, 1) := by decide +kernel
theorem dX3_readBoth_0 : decode cX3_readBoth 0 = .ok (.aload_n 0, 1) := by decide +kernel
theorem dX3_readBoth_1 : decode cX3_readBoth 1 = .ok (.iload_n 1, 1) := by decide +kernel
theorem dX3_readBoth_2 : decode cX3_readBoth 2 = .ok (.invokevirtual 186, 3) := by decide +kernel
theorem dX3_readBoth_5 : decode cX3_readBoth 5 = .ok (.iconst 0, 1) := by decide +kernel
theorem dX3_readBoth_6 : decode cX3_readBoth 6 = .ok (.istore_n 2, 1) := by decide +kernel
theorem dX3_readBoth_7 : decode cX3_readBoth 7 = .ok (.iload_n 2, 1) := by decide +kernel
theorem dX3_readBoth_8 : decode cX3_readBoth 8 = .ok (.sipush 1600, 3) := by decide +kernel
theorem dX3_readBoth_11 : decode cX3_readBoth 11 = .ok (.if_icmp .ge 43, 3) := by decide +kernel
theorem dX3_readBoth_14 : decode cX3_readBoth 14 = .ok (.aload_n 0, 1) := by decide +kernel
theorem dX3_readBoth_15 : decode cX3_readBoth 15 = .ok (.getfield 12, 3) := by decide +kernel
theorem dX3_readBoth_18 : decode cX3_readBoth 18 = .ok (.bipush 23, 2) := by decide +kernel
theorem dX3_readBoth_20 : decode cX3_readBoth 20 = .ok (.invokevirtual 180, 3) := by decide +kernel
theorem dX3_readBoth_23 : decode cX3_readBoth 23 = .ok (.ifCond .eq 31, 3) := by decide +kernel
theorem dX3_readBoth_26 : decode cX3_readBoth 26 = .ok (.aload_n 0, 1) := by decide +kernel
theorem dX3_readBoth_27 : decode cX3_readBoth 27 = .ok (.getfield 12, 3) := by decide +kernel
theorem dX3_readBoth_30 : decode cX3_readBoth 30 = .ok (.invokevirtual 77, 3) := by decide +kernel
theorem dX3_readBoth_33 : decode cX3_readBoth 33 = .ok (.aload_n 0, 1) := by decide +kernel
theorem dX3_readBoth_34 : decode cX3_readBoth 34 = .ok (.iload_n 1, 1) := by decide +kernel
theorem dX3_readBoth_35 : decode cX3_readBoth 35 = .ok (.invokevirtual 186, 3) := by decide +kernel
theorem dX3_readBoth_38 : decode cX3_readBoth 38 = .ok (.aload_n 0, 1) := by decide +kernel
theorem dX3_readBoth_39 : decode cX3_readBoth 39 = .ok (.getfield 25, 3) := by decide +kernel
theorem dX3_readBoth_42 : decode cX3_readBoth 42 = .ok (.sipush 10007, 3) := by decide +kernel
theorem dX3_readBoth_45 : decode cX3_readBoth 45 = .ok (.invokevirtual 183, 3) := by decide +kernel
theorem dX3_readBoth_48 : decode cX3_readBoth 48 = .ok (.iinc 2 1, 3) := by decide +kernel
theorem dX3_readBoth_51 : decode cX3_readBoth 51 = .ok (.goto (-44), 3) := by decide +kernel
theorem dX3_readBoth_54 : decode cX3_readBoth 54 = .ok (.return_, 1) := by decide +kernel
theorem dX3_readFact_0 : decode cX3_readFact 0 = .ok (.aload_n 0, 1) := by decide +kernel
theorem dX3_readFact_1 : decode cX3_readFact 1 = .ok (.getfield 12, 3) := by decide +kernel
theorem dX3_readFact_4 : decode cX3_readFact 4 = .ok (.bipush 24, 2) := by decide +kernel
theorem dX3_readFact_6 : decode cX3_readFact 6 = .ok (.invokevirtual 180, 3) := by decide +kernel
theorem dX3_readFact_9 : decode cX3_readFact 9 = .ok (.ifCond .eq 38, 3) := by decide +kernel
theorem dX3_readFact_12 : decode cX3_readFact 12 = .ok (.aload_n 0, 1) := by decide +kernel
theorem dX3_readFact_13 : decode cX3_readFact 13 = .ok (.iload_n 1, 1) := by decide +kernel
theorem dX3_readFact_14 : decode cX3_readFact 14 = .ok (.invokevirtual 189, 3) := by decide +kernel
theorem dX3_readFact_17 : decode cX3_readFact 17 = .ok (.ifCond .eq 159, 3) := by decide +kernel
theorem dX3_readFact_20 : decode cX3_readFact 20 = .ok (.aload_n 0, 1) := by decide +kernel
theorem dX3_readFact_21 : decode cX3_readFact 21 = .ok (.getfield 12, 3) := by decide +kernel
theorem dX3_readFact_24 : decode cX3_readFact 24 = .ok (.invokevirtual 77, 3) := by decide +kernel
theorem dX3_readFact_27 : decode cX3_readFact 27 = .ok (.aload_n 0, 1) := by decide +kernel
theorem dX3_readFact_28 : decode cX3_readFact 28 = .ok (.iload_n 1, 1) := by decide +kernel
theorem dX3_readFact_29 : decode cX3_readFact 29 = .ok (.iconst 1, 1) := by decide +kernel
theorem dX3_readFact_30 : decode cX3_readFact 30 = .ok (.iadd, 1) := by decide +kernel
theorem dX3_readFact_31 : decode cX3_readFact 31 = .ok (.invokevirtual 186, 3) := by decide +kernel
theorem dX3_readFact_34 : decode cX3_readFact 34 = .ok (.aload_n 0, 1) := by decide +kernel
theorem dX3_readFact_35 : decode cX3_readFact 35 = .ok (.getfield 25, 3) := by decide +kernel
theorem dX3_readFact_38 : decode cX3_readFact 38 = .ok (.sipush 10011, 3) := by decide +kernel
theorem dX3_readFact_41 : decode cX3_readFact 41 = .ok (.invokevirtual 183, 3) := by decide +kernel
theorem dX3_readFact_44 : decode cX3_readFact 44 = .ok (.goto 132, 3) := by decide +kernel
theorem dX3_readFact_47 : decode cX3_readFact 47 = .ok (.aload_n 0, 1) := by decide +kernel
theorem dX3_readFact_48 : decode cX3_readFact 48 = .ok (.getfield 12, 3) := by decide +kernel
theorem dX3_readFact_51 : decode cX3_readFact 51 = .ok (.bipush 91, 2) := by decide +kernel
theorem dX3_readFact_53 : decode cX3_readFact 53 = .ok (.invokevirtual 192, 3) := by decide +kernel
theorem dX3_readFact_56 : decode cX3_readFact 56 = .ok (.ifCond .eq 37, 3) := by decide +kernel
theorem dX3_readFact_59 : decode cX3_readFact 59 = .ok (.aload_n 0, 1) := by decide +kernel
theorem dX3_readFact_60 : decode cX3_readFact 60 = .ok (.iload_n 1, 1) := by decide +kernel
theorem dX3_readFact_61 : decode cX3_readFact 61 = .ok (.invokevirtual 189, 3) := by decide +kernel
theorem dX3_readFact_64 : decode cX3_readFact 64 = .ok (.ifCond .eq 112, 3) := by decide +kernel
theorem dX3_readFact_67 : decode cX3_readFact 67 = .ok (.aload_n 0, 1) := by decide +kernel
theorem dX3_readFact_68 : decode cX3_readFact 68 = .ok (.getfield 12, 3) := by decide +kernel
theorem dX3_readFact_71 : decode cX3_readFact 71 = .ok (.invokevirtual 77, 3) := by decide +kernel
theorem dX3_readFact_74 : decode cX3_readFact 74 = .ok (.aload_n 0, 1) := by decide +kernel
theorem dX3_readFact_75 : decode cX3_readFact 75 = .ok (.iload_n 1, 1) := by decide +kernel
theorem dX3_readFact_76 : decode cX3_readFact 76 = .ok (.iconst 1, 1) := by decide +kernel
theorem dX3_readFact_77 : decode cX3_readFact 77 = .ok (.iadd, 1) := by decide +kernel
theorem dX3_readFact_78 : decode cX3_readFact 78 = .ok (.invokevirtual 84, 3) := by decide +kernel
theorem dX3_readFact_81 : decode cX3_readFact 81 = .ok (.aload_n 0, 1) := by decide +kernel
theorem dX3_readFact_82 : decode cX3_readFact 82 = .ok (.getfield 12, 3) := by decide +kernel
theorem dX3_readFact_85 : decode cX3_readFact 85 = .ok (.bipush 93, 2) := by decide +kernel
theorem dX3_readFact_87 : decode cX3_readFact 87 = .ok (.invokevirtual 121, 3) := by decide +kernel
theorem dX3_readFact_90 : decode cX3_readFact 90 = .ok (.goto 86, 3) := by decide +kernel
theorem dX3_readFact_93 : decode cX3_readFact 93 = .ok (.aload_n 0, 1) := by decide +kernel
theorem dX3_readFact_94 : decode cX3_readFact 94 = .ok (.getfield 12, 3) := by decide +kernel
theorem dX3_readFact_97 : decode cX3_readFact 97 = .ok (.bipush 25, 2) := by decide +kernel
theorem dX3_readFact_99 : decode cX3_readFact 99 = .ok (.invokevirtual 180, 3) := by decide +kernel
theorem dX3_readFact_102 : decode cX3_readFact 102 = .ok (.ifCond .eq 21, 3) := by decide +kernel
theorem dX3_readFact_105 : decode cX3_readFact 105 = .ok (.aload_n 0, 1) := by decide +kernel
theorem dX3_readFact_106 : decode cX3_readFact 106 = .ok (.getfield 12, 3) := by decide +kernel
theorem dX3_readFact_109 : decode cX3_readFact 109 = .ok (.invokevirtual 77, 3) := by decide +kernel
theorem dX3_readFact_112 : decode cX3_readFact 112 = .ok (.aload_n 0, 1) := by decide +kernel
theorem dX3_readFact_113 : decode cX3_readFact 113 = .ok (.getfield 25, 3) := by decide +kernel
theorem dX3_readFact_116 : decode cX3_readFact 116 = .ok (.iconst 1, 1) := by decide +kernel
theorem dX3_readFact_117 : decode cX3_readFact 117 = .ok (.invokevirtual 183, 3) := by decide +kernel
theorem dX3_readFact_120 : decode cX3_readFact 120 = .ok (.goto 56, 3) := by decide +kernel
theorem dX3_readFact_123 : decode cX3_readFact 123 = .ok (.aload_n 0, 1) := by decide +kernel
theorem dX3_readFact_124 : decode cX3_readFact 124 = .ok (.iload_n 1, 1) := by decide +kernel
theorem dX3_readFact_125 : decode cX3_readFact 125 = .ok (.invokevirtual 87, 3) := by decide +kernel
theorem dX3_readFact_128 : decode cX3_readFact 128 = .ok (.aload_n 0, 1) := by decide +kernel
theorem dX3_readFact_129 : decode cX3_readFact 129 = .ok (.invokevirtual 196, 3) := by decide +kernel
theorem dX3_readFact_132 : decode cX3_readFact 132 = .ok (.istore_n 2, 1) := by decide +kernel
theorem dX3_readFact_133 : decode cX3_readFact 133 = .ok (.iload_n 2, 1) := by decide +kernel
theorem dX3_readFact_134 : decode cX3_readFact 134 = .ok (.iconst (-1), 1) := by decide +kernel
theorem dX3_readFact_135 : decode cX3_readFact 135 = .ok (.if_icmp .ne 21, 3) := by decide +kernel
theorem dX3_readFact_138 : decode cX3_readFact 138 = .ok (.aload_n 0, 1) := by decide +kernel
theorem dX3_readFact_139 : decode cX3_readFact 139 = .ok (.getfield 12, 3) := by decide +kernel
theorem dX3_readFact_142 : decode cX3_readFact 142 = .ok (.iconst 1, 1) := by decide +kernel
theorem dX3_readFact_143 : decode cX3_readFact 143 = .ok (.aload_n 0, 1) := by decide +kernel
theorem dX3_readFact_144 : decode cX3_readFact 144 = .ok (.getfield 12, 3) := by decide +kernel
theorem dX3_readFact_147 : decode cX3_readFact 147 = .ok (.getfield 55, 3) := by decide +kernel
theorem dX3_readFact_150 : decode cX3_readFact 150 = .ok (.invokevirtual 58, 3) := by decide +kernel
theorem dX3_readFact_153 : decode cX3_readFact 153 = .ok (.goto 23, 3) := by decide +kernel
theorem dX3_readFact_156 : decode cX3_readFact 156 = .ok (.aload_n 0, 1) := by decide +kernel
theorem dX3_readFact_157 : decode cX3_readFact 157 = .ok (.getfield 12, 3) := by decide +kernel
theorem dX3_readFact_160 : decode cX3_readFact 160 = .ok (.invokevirtual 77, 3) := by decide +kernel
theorem dX3_readFact_163 : decode cX3_readFact 163 = .ok (.aload_n 0, 1) := by decide +kernel
theorem dX3_readFact_164 : decode cX3_readFact 164 = .ok (.iload_n 1, 1) := by decide +kernel
theorem dX3_readFact_165 : decode cX3_readFact 165 = .ok (.invokevirtual 87, 3) := by decide +kernel
theorem dX3_readFact_168 : decode cX3_readFact 168 = .ok (.aload_n 0, 1) := by decide +kernel
theorem dX3_readFact_169 : decode cX3_readFact 169 = .ok (.getfield 25, 3) := by decide +kernel
theorem dX3_readFact_172 : decode cX3_readFact 172 = .ok (.iload_n 2, 1) := by decide +kernel
theorem dX3_readFact_173 : decode cX3_readFact 173 = .ok (.invokevirtual 183, 3) := by decide +kernel
theorem dX3_readFact_176 : decode cX3_readFact 176 = .ok (.return_, 1) := by decide +kernel
theorem dX3_comparison_0 : decode cX3_comparison 0 = .ok (.aload_n 0, 1) := by decide +kernel
theorem dX3_comparison_1 : decode cX3_comparison 1 = .ok (.getfield 12, 3) := by decide +kernel
theorem dX3_comparison_4 : decode cX3_comparison 4 = .ok (.bipush 60, 2) := by decide +kernel
theorem dX3_comparison_6 : decode cX3_comparison 6 = .ok (.invokevirtual 192, 3) := by decide +kernel
theorem dX3_comparison_9 : decode cX3_comparison 9 = .ok (.ifCond .eq 7, 3) := by decide +kernel
theorem dX3_comparison_12 : decode cX3_comparison 12 = .ok (.sipush 10004, 3) := by decide +kernel
theorem dX3_comparison_15 : decode cX3_comparison 15 = .ok (.ireturn, 1) := by decide +kernel
theorem dX3_comparison_16 : decode cX3_comparison 16 = .ok (.aload_n 0, 1) := by decide +kernel
theorem dX3_comparison_17 : decode cX3_comparison 17 = .ok (.getfield 12, 3) := by decide +kernel
theorem dX3_comparison_20 : decode cX3_comparison 20 = .ok (.bipush 62, 2) := by decide +kernel
theorem dX3_comparison_22 : decode cX3_comparison 22 = .ok (.invokevirtual 192, 3) := by decide +kernel
theorem dX3_comparison_25 : decode cX3_comparison 25 = .ok (.ifCond .eq 7, 3) := by decide +kernel
theorem dX3_comparison_28 : decode cX3_comparison 28 = .ok (.sipush 10005, 3) := by decide +kernel
theorem dX3_comparison_31 : decode cX3_comparison 31 = .ok (.ireturn, 1) := by decide +kernel
theorem dX3_comparison_32 : decode cX3_comparison 32 = .ok (.aload_n 0, 1) := by decide +kernel
theorem dX3_comparison_33 : decode cX3_comparison 33 = .ok (.getfield 12, 3) := by decide +kernel
theorem dX3_comparison_36 : decode cX3_comparison 36 = .ok (.bipush 61, 2) := by decide +kernel
theorem dX3_comparison_38 : decode cX3_comparison 38 = .ok (.invokevirtual 192, 3) := by decide +kernel
theorem dX3_comparison_41 : decode cX3_comparison 41 = .ok (.ifCond .eq 9, 3) := by decide +kernel
theorem dX3_comparison_44 : decode cX3_comparison 44 = .ok (.sipush 10006, 3) := by decide +kernel
theorem dX3_comparison_47 : decode cX3_comparison 47 = .ok (.goto 4, 3) := by decide +kernel
theorem dX3_comparison_50 : decode cX3_comparison 50 = .ok (.iconst (-1), 1) := by decide +kernel
theorem dX3_comparison_51 : decode cX3_comparison 51 = .ok (.ireturn, 1) := by decide +kernel
theorem dX3_readSum_0 : decode cX3_readSum 0 = .ok (.aload_n 0, 1) := by decide +kernel
theorem dX3_readSum_1 : decode cX3_readSum 1 = .ok (.iload_n 1, 1) := by decide +kernel
theorem dX3_readSum_2 : decode cX3_readSum 2 = .ok (.invokevirtual 199, 3) := by decide +kernel
theorem dX3_readSum_5 : decode cX3_readSum 5 = .ok (.iconst 0, 1) := by decide +kernel
theorem dX3_readSum_6 : decode cX3_readSum 6 = .ok (.istore_n 2, 1) := by decide +kernel
theorem dX3_readSum_7 : decode cX3_readSum 7 = .ok (.iload_n 2, 1) := by decide +kernel
theorem dX3_readSum_8 : decode cX3_readSum 8 = .ok (.sipush 1600, 3) := by decide +kernel
theorem dX3_readSum_11 : decode cX3_readSum 11 = .ok (.if_icmp .ge 75, 3) := by decide +kernel
theorem dX3_readSum_14 : decode cX3_readSum 14 = .ok (.aload_n 0, 1) := by decide +kernel
theorem dX3_readSum_15 : decode cX3_readSum 15 = .ok (.getfield 12, 3) := by decide +kernel
theorem dX3_readSum_18 : decode cX3_readSum 18 = .ok (.bipush 43, 2) := by decide +kernel
theorem dX3_readSum_20 : decode cX3_readSum 20 = .ok (.invokevirtual 192, 3) := by decide +kernel
theorem dX3_readSum_23 : decode cX3_readSum 23 = .ok (.ifCond .ne 15, 3) := by decide +kernel
theorem dX3_readSum_26 : decode cX3_readSum 26 = .ok (.aload_n 0, 1) := by decide +kernel
theorem dX3_readSum_27 : decode cX3_readSum 27 = .ok (.getfield 12, 3) := by decide +kernel
theorem dX3_readSum_30 : decode cX3_readSum 30 = .ok (.bipush 45, 2) := by decide +kernel
theorem dX3_readSum_32 : decode cX3_readSum 32 = .ok (.invokevirtual 192, 3) := by decide +kernel
theorem dX3_readSum_35 : decode cX3_readSum 35 = .ok (.ifCond .eq 51, 3) := by decide +kernel
theorem dX3_readSum_38 : decode cX3_readSum 38 = .ok (.aload_n 0, 1) := by decide +kernel
theorem dX3_readSum_39 : decode cX3_readSum 39 = .ok (.getfield 12, 3) := by decide +kernel
theorem dX3_readSum_42 : decode cX3_readSum 42 = .ok (.bipush 43, 2) := by decide +kernel
theorem dX3_readSum_44 : decode cX3_readSum 44 = .ok (.invokevirtual 192, 3) := by decide +kernel
theorem dX3_readSum_47 : decode cX3_readSum 47 = .ok (.ifCond .eq 9, 3) := by decide +kernel
theorem dX3_readSum_50 : decode cX3_readSum 50 = .ok (.sipush 10000, 3) := by decide +kernel
theorem dX3_readSum_53 : decode cX3_readSum 53 = .ok (.goto 6, 3) := by decide +kernel
theorem dX3_readSum_56 : decode cX3_readSum 56 = .ok (.sipush 10001, 3) := by decide +kernel
theorem dX3_readSum_59 : decode cX3_readSum 59 = .ok (.istore_n 3, 1) := by decide +kernel
theorem dX3_readSum_60 : decode cX3_readSum 60 = .ok (.aload_n 0, 1) := by decide +kernel
theorem dX3_readSum_61 : decode cX3_readSum 61 = .ok (.getfield 12, 3) := by decide +kernel
theorem dX3_readSum_64 : decode cX3_readSum 64 = .ok (.invokevirtual 77, 3) := by decide +kernel
theorem dX3_readSum_67 : decode cX3_readSum 67 = .ok (.aload_n 0, 1) := by decide +kernel
theorem dX3_readSum_68 : decode cX3_readSum 68 = .ok (.iload_n 1, 1) := by decide +kernel
theorem dX3_readSum_69 : decode cX3_readSum 69 = .ok (.invokevirtual 199, 3) := by decide +kernel
theorem dX3_readSum_72 : decode cX3_readSum 72 = .ok (.aload_n 0, 1) := by decide +kernel
theorem dX3_readSum_73 : decode cX3_readSum 73 = .ok (.getfield 25, 3) := by decide +kernel
theorem dX3_readSum_76 : decode cX3_readSum 76 = .ok (.iload_n 3, 1) := by decide +kernel
theorem dX3_readSum_77 : decode cX3_readSum 77 = .ok (.invokevirtual 183, 3) := by decide +kernel
theorem dX3_readSum_80 : decode cX3_readSum 80 = .ok (.iinc 2 1, 3) := by decide +kernel
theorem dX3_readSum_83 : decode cX3_readSum 83 = .ok (.goto (-76), 3) := by decide +kernel
theorem dX3_readSum_86 : decode cX3_readSum 86 = .ok (.return_, 1) := by decide +kernel
theorem dX3_readProduct_0 : decode cX3_readProduct 0 = .ok (.aload_n 0, 1) := by decide +kernel
theorem dX3_readProduct_1 : decode cX3_readProduct 1 = .ok (.iload_n 1, 1) := by decide +kernel
theorem dX3_readProduct_2 : decode cX3_readProduct 2 = .ok (.invokevirtual 202, 3) := by decide +kernel
theorem dX3_readProduct_5 : decode cX3_readProduct 5 = .ok (.iconst 0, 1) := by decide +kernel
theorem dX3_readProduct_6 : decode cX3_readProduct 6 = .ok (.istore_n 2, 1) := by decide +kernel
theorem dX3_readProduct_7 : decode cX3_readProduct 7 = .ok (.iload_n 2, 1) := by decide +kernel
theorem dX3_readProduct_8 : decode cX3_readProduct 8 = .ok (.sipush 1600, 3) := by decide +kernel
theorem dX3_readProduct_11 : decode cX3_readProduct 11 = .ok (.if_icmp .ge 75, 3) := by decide +kernel
theorem dX3_readProduct_14 : decode cX3_readProduct 14 = .ok (.aload_n 0, 1) := by decide +kernel
theorem dX3_readProduct_15 : decode cX3_readProduct 15 = .ok (.getfield 12, 3) := by decide +kernel
theorem dX3_readProduct_18 : decode cX3_readProduct 18 = .ok (.bipush 42, 2) := by decide +kernel
theorem dX3_readProduct_20 : decode cX3_readProduct 20 = .ok (.invokevirtual 192, 3) := by decide +kernel
theorem dX3_readProduct_23 : decode cX3_readProduct 23 = .ok (.ifCond .ne 15, 3) := by decide +kernel
theorem dX3_readProduct_26 : decode cX3_readProduct 26 = .ok (.aload_n 0, 1) := by decide +kernel
theorem dX3_readProduct_27 : decode cX3_readProduct 27 = .ok (.getfield 12, 3) := by decide +kernel
theorem dX3_readProduct_30 : decode cX3_readProduct 30 = .ok (.bipush 47, 2) := by decide +kernel
theorem dX3_readProduct_32 : decode cX3_readProduct 32 = .ok (.invokevirtual 192, 3) := by decide +kernel
theorem dX3_readProduct_35 : decode cX3_readProduct 35 = .ok (.ifCond .eq 51, 3) := by decide +kernel
theorem dX3_readProduct_38 : decode cX3_readProduct 38 = .ok (.aload_n 0, 1) := by decide +kernel
theorem dX3_readProduct_39 : decode cX3_readProduct 39 = .ok (.getfield 12, 3) := by decide +kernel
theorem dX3_readProduct_42 : decode cX3_readProduct 42 = .ok (.bipush 42, 2) := by decide +kernel
theorem dX3_readProduct_44 : decode cX3_readProduct 44 = .ok (.invokevirtual 192, 3) := by decide +kernel
theorem dX3_readProduct_47 : decode cX3_readProduct 47 = .ok (.ifCond .eq 9, 3) := by decide +kernel
theorem dX3_readProduct_50 : decode cX3_readProduct 50 = .ok (.sipush 10002, 3) := by decide +kernel
theorem dX3_readProduct_53 : decode cX3_readProduct 53 = .ok (.goto 6, 3) := by decide +kernel
theorem dX3_readProduct_56 : decode cX3_readProduct 56 = .ok (.sipush 10003, 3) := by decide +kernel
theorem dX3_readProduct_59 : decode cX3_readProduct 59 = .ok (.istore_n 3, 1) := by decide +kernel
theorem dX3_readProduct_60 : decode cX3_readProduct 60 = .ok (.aload_n 0, 1) := by decide +kernel
theorem dX3_readProduct_61 : decode cX3_readProduct 61 = .ok (.getfield 12, 3) := by decide +kernel
theorem dX3_readProduct_64 : decode cX3_readProduct 64 = .ok (.invokevirtual 77, 3) := by decide +kernel
theorem dX3_readProduct_67 : decode cX3_readProduct 67 = .ok (.aload_n 0, 1) := by decide +kernel
theorem dX3_readProduct_68 : decode cX3_readProduct 68 = .ok (.iload_n 1, 1) := by decide +kernel
theorem dX3_readProduct_69 : decode cX3_readProduct 69 = .ok (.invokevirtual 202, 3) := by decide +kernel
theorem dX3_readProduct_72 : decode cX3_readProduct 72 = .ok (.aload_n 0, 1) := by decide +kernel
theorem dX3_readProduct_73 : decode cX3_readProduct 73 = .ok (.getfield 25, 3) := by decide +kernel
theorem dX3_readProduct_76 : decode cX3_readProduct 76 = .ok (.iload_n 3, 1) := by decide +kernel
theorem dX3_readProduct_77 : decode cX3_readProduct 77 = .ok (.invokevirtual 183, 3) := by decide +kernel
theorem dX3_readProduct_80 : decode cX3_readProduct 80 = .ok (.iinc 2 1, 3) := by decide +kernel
theorem dX3_readProduct_83 : decode cX3_readProduct 83 = .ok (.goto (-76), 3) := by decide +kernel
theorem dX3_readProduct_86 : decode cX3_readProduct 86 = .ok (.return_, 1) := by decide +kernel
theorem dX3_readPiece_0 : decode cX3_readPiece 0 = .ok (.aload_n 0, 1) := by decide +kernel
theorem dX3_readPiece_1 : decode cX3_readPiece 1 = .ok (.getfield 12, 3) := by decide +kernel
theorem dX3_readPiece_4 : decode cX3_readPiece 4 = .ok (.getfield 93, 3) := by decide +kernel
theorem dX3_readPiece_7 : decode cX3_readPiece 7 = .ok (.iconst 2, 1) := by decide +kernel
theorem dX3_readPiece_8 : decode cX3_readPiece 8 = .ok (.if_icmp .ne 24, 3) := by decide +kernel
theorem dX3_readPiece_11 : decode cX3_readPiece 11 = .ok (.aload_n 0, 1) := by decide +kernel
theorem dX3_readPiece_12 : decode cX3_readPiece 12 = .ok (.getfield 25, 3) := by decide +kernel
theorem dX3_readPiece_15 : decode cX3_readPiece 15 = .ok (.aload_n 0, 1) := by decide +kernel
theorem dX3_readPiece_16 : decode cX3_readPiece 16 = .ok (.getfield 12, 3) := by decide +kernel
theorem dX3_readPiece_19 : decode cX3_readPiece 19 = .ok (.iconst 0, 1) := by decide +kernel
theorem dX3_readPiece_20 : decode cX3_readPiece 20 = .ok (.sipush 9999, 3) := by decide +kernel
theorem dX3_readPiece_23 : decode cX3_readPiece 23 = .ok (.invokevirtual 96, 3) := by decide +kernel
theorem dX3_readPiece_26 : decode cX3_readPiece 26 = .ok (.invokevirtual 183, 3) := by decide +kernel
theorem dX3_readPiece_29 : decode cX3_readPiece 29 = .ok (.goto 191, 3) := by decide +kernel
theorem dX3_readPiece_32 : decode cX3_readPiece 32 = .ok (.aload_n 0, 1) := by decide +kernel
theorem dX3_readPiece_33 : decode cX3_readPiece 33 = .ok (.aload_n 0, 1) := by decide +kernel
theorem dX3_readPiece_34 : decode cX3_readPiece 34 = .ok (.getfield 12, 3) := by decide +kernel
theorem dX3_readPiece_37 : decode cX3_readPiece 37 = .ok (.invokevirtual 73, 3) := by decide +kernel
theorem dX3_readPiece_40 : decode cX3_readPiece 40 = .ok (.invokevirtual 205, 3) := by decide +kernel
theorem dX3_readPiece_43 : decode cX3_readPiece 43 = .ok (.ifCond .eq 31, 3) := by decide +kernel
theorem dX3_readPiece_46 : decode cX3_readPiece 46 = .ok (.aload_n 0, 1) := by decide +kernel
theorem dX3_readPiece_47 : decode cX3_readPiece 47 = .ok (.getfield 25, 3) := by decide +kernel
theorem dX3_readPiece_50 : decode cX3_readPiece 50 = .ok (.sipush 10100, 3) := by decide +kernel
theorem dX3_readPiece_53 : decode cX3_readPiece 53 = .ok (.aload_n 0, 1) := by decide +kernel
theorem dX3_readPiece_54 : decode cX3_readPiece 54 = .ok (.getfield 12, 3) := by decide +kernel
theorem dX3_readPiece_57 : decode cX3_readPiece 57 = .ok (.invokevirtual 73, 3) := by decide +kernel
theorem dX3_readPiece_60 : decode cX3_readPiece 60 = .ok (.iadd, 1) := by decide +kernel
theorem dX3_readPiece_61 : decode cX3_readPiece 61 = .ok (.invokevirtual 183, 3) := by decide +kernel
theorem dX3_readPiece_64 : decode cX3_readPiece 64 = .ok (.aload_n 0, 1) := by decide +kernel
theorem dX3_readPiece_65 : decode cX3_readPiece 65 = .ok (.getfield 12, 3) := by decide +kernel
theorem dX3_readPiece_68 : decode cX3_readPiece 68 = .ok (.invokevirtual 77, 3) := by decide +kernel
theorem dX3_readPiece_71 : decode cX3_readPiece 71 = .ok (.goto 149, 3) := by decide +kernel
theorem dX3_readPiece_74 : decode cX3_readPiece 74 = .ok (.aload_n 0, 1) := by decide +kernel
theorem dX3_readPiece_75 : decode cX3_readPiece 75 = .ok (.getfield 28, 3) := by decide +kernel
theorem dX3_readPiece_78 : decode cX3_readPiece 78 = .ok (.ifCond .eq 49, 3) := by decide +kernel
theorem dX3_readPiece_81 : decode cX3_readPiece 81 = .ok (.aload_n 0, 1) := by decide +kernel
theorem dX3_readPiece_82 : decode cX3_readPiece 82 = .ok (.getfield 12, 3) := by decide +kernel
theorem dX3_readPiece_85 : decode cX3_readPiece 85 = .ok (.iconst 5, 1) := by decide +kernel
theorem dX3_readPiece_86 : decode cX3_readPiece 86 = .ok (.invokevirtual 180, 3) := by decide +kernel
theorem dX3_readPiece_89 : decode cX3_readPiece 89 = .ok (.ifCond .eq 38, 3) := by decide +kernel
theorem dX3_readPiece_92 : decode cX3_readPiece 92 = .ok (.aload_n 0, 1) := by decide +kernel
theorem dX3_readPiece_93 : decode cX3_readPiece 93 = .ok (.iload_n 1, 1) := by decide +kernel
theorem dX3_readPiece_94 : decode cX3_readPiece 94 = .ok (.invokevirtual 189, 3) := by decide +kernel
theorem dX3_readPiece_97 : decode cX3_readPiece 97 = .ok (.ifCond .eq 123, 3) := by decide +kernel
theorem dX3_readPiece_100 : decode cX3_readPiece 100 = .ok (.aload_n 0, 1) := by decide +kernel
theorem dX3_readPiece_101 : decode cX3_readPiece 101 = .ok (.getfield 12, 3) := by decide +kernel
theorem dX3_readPiece_104 : decode cX3_readPiece 104 = .ok (.invokevirtual 77, 3) := by decide +kernel
theorem dX3_readPiece_107 : decode cX3_readPiece 107 = .ok (.aload_n 0, 1) := by decide +kernel
theorem dX3_readPiece_108 : decode cX3_readPiece 108 = .ok (.iload_n 1, 1) := by decide +kernel
theorem dX3_readPiece_109 : decode cX3_readPiece 109 = .ok (.iconst 1, 1) := by decide +kernel
theorem dX3_readPiece_110 : decode cX3_readPiece 110 = .ok (.iadd, 1) := by decide +kernel
theorem dX3_readPiece_111 : decode cX3_readPiece 111 = .ok (.invokevirtual 202, 3) := by decide +kernel
theorem dX3_readPiece_114 : decode cX3_readPiece 114 = .ok (.aload_n 0, 1) := by decide +kernel
theorem dX3_readPiece_115 : decode cX3_readPiece 115 = .ok (.getfield 25, 3) := by decide +kernel
theorem dX3_readPiece_118 : decode cX3_readPiece 118 = .ok (.sipush 10012, 3) := by decide +kernel
theorem dX3_readPiece_121 : decode cX3_readPiece 121 = .ok (.invokevirtual 183, 3) := by decide +kernel
theorem dX3_readPiece_124 : decode cX3_readPiece 124 = .ok (.goto 96, 3) := by decide +kernel
theorem dX3_readPiece_127 : decode cX3_readPiece 127 = .ok (.aload_n 0, 1) := by decide +kernel
theorem dX3_readPiece_128 : decode cX3_readPiece 128 = .ok (.getfield 12, 3) := by decide +kernel
theorem dX3_readPiece_131 : decode cX3_readPiece 131 = .ok (.bipush 40, 2) := by decide +kernel
theorem dX3_readPiece_133 : decode cX3_readPiece 133 = .ok (.invokevirtual 192, 3) := by decide +kernel
theorem dX3_readPiece_136 : decode cX3_readPiece 136 = .ok (.ifCond .eq 37, 3) := by decide +kernel
theorem dX3_readPiece_139 : decode cX3_readPiece 139 = .ok (.aload_n 0, 1) := by decide +kernel
theorem dX3_readPiece_140 : decode cX3_readPiece 140 = .ok (.iload_n 1, 1) := by decide +kernel
theorem dX3_readPiece_141 : decode cX3_readPiece 141 = .ok (.invokevirtual 189, 3) := by decide +kernel
theorem dX3_readPiece_144 : decode cX3_readPiece 144 = .ok (.ifCond .eq 76, 3) := by decide +kernel
theorem dX3_readPiece_147 : decode cX3_readPiece 147 = .ok (.aload_n 0, 1) := by decide +kernel
theorem dX3_readPiece_148 : decode cX3_readPiece 148 = .ok (.getfield 12, 3) := by decide +kernel
theorem dX3_readPiece_151 : decode cX3_readPiece 151 = .ok (.invokevirtual 77, 3) := by decide +kernel
theorem dX3_readPiece_154 : decode cX3_readPiece 154 = .ok (.aload_n 0, 1) := by decide +kernel
theorem dX3_readPiece_155 : decode cX3_readPiece 155 = .ok (.iload_n 1, 1) := by decide +kernel
theorem dX3_readPiece_156 : decode cX3_readPiece 156 = .ok (.iconst 1, 1) := by decide +kernel
theorem dX3_readPiece_157 : decode cX3_readPiece 157 = .ok (.iadd, 1) := by decide +kernel
theorem dX3_readPiece_158 : decode cX3_readPiece 158 = .ok (.invokevirtual 87, 3) := by decide +kernel
theorem dX3_readPiece_161 : decode cX3_readPiece 161 = .ok (.aload_n 0, 1) := by decide +kernel
theorem dX3_readPiece_162 : decode cX3_readPiece 162 = .ok (.getfield 12, 3) := by decide +kernel
theorem dX3_readPiece_165 : decode cX3_readPiece 165 = .ok (.bipush 41, 2) := by decide +kernel
theorem dX3_readPiece_167 : decode cX3_readPiece 167 = .ok (.invokevirtual 121, 3) := by decide +kernel
theorem dX3_readPiece_170 : decode cX3_readPiece 170 = .ok (.goto 50, 3) := by decide +kernel
theorem dX3_readPiece_173 : decode cX3_readPiece 173 = .ok (.aload_n 0, 1) := by decide +kernel
theorem dX3_readPiece_174 : decode cX3_readPiece 174 = .ok (.getfield 12, 3) := by decide +kernel
theorem dX3_readPiece_177 : decode cX3_readPiece 177 = .ok (.bipush 26, 2) := by decide +kernel
theorem dX3_readPiece_179 : decode cX3_readPiece 179 = .ok (.invokevirtual 180, 3) := by decide +kernel
theorem dX3_readPiece_182 : decode cX3_readPiece 182 = .ok (.ifCond .ne 15, 3) := by decide +kernel
theorem dX3_readPiece_185 : decode cX3_readPiece 185 = .ok (.aload_n 0, 1) := by decide +kernel
theorem dX3_readPiece_186 : decode cX3_readPiece 186 = .ok (.getfield 12, 3) := by decide +kernel
theorem dX3_readPiece_189 : decode cX3_readPiece 189 = .ok (.bipush 27, 2) := by decide +kernel
theorem dX3_readPiece_191 : decode cX3_readPiece 191 = .ok (.invokevirtual 180, 3) := by decide +kernel
theorem dX3_readPiece_194 : decode cX3_readPiece 194 = .ok (.ifCond .eq 11, 3) := by decide +kernel
theorem dX3_readPiece_197 : decode cX3_readPiece 197 = .ok (.aload_n 0, 1) := by decide +kernel
theorem dX3_readPiece_198 : decode cX3_readPiece 198 = .ok (.iload_n 1, 1) := by decide +kernel
theorem dX3_readPiece_199 : decode cX3_readPiece 199 = .ok (.invokevirtual 208, 3) := by decide +kernel
theorem dX3_readPiece_202 : decode cX3_readPiece 202 = .ok (.goto 18, 3) := by decide +kernel
theorem dX3_readPiece_205 : decode cX3_readPiece 205 = .ok (.aload_n 0, 1) := by decide +kernel
theorem dX3_readPiece_206 : decode cX3_readPiece 206 = .ok (.getfield 12, 3) := by decide +kernel
theorem dX3_readPiece_209 : decode cX3_readPiece 209 = .ok (.iconst 1, 1) := by decide +kernel
theorem dX3_readPiece_210 : decode cX3_readPiece 210 = .ok (.aload_n 0, 1) := by decide +kernel
theorem dX3_readPiece_211 : decode cX3_readPiece 211 = .ok (.getfield 12, 3) := by decide +kernel
theorem dX3_readPiece_214 : decode cX3_readPiece 214 = .ok (.getfield 55, 3) := by decide +kernel
theorem dX3_readPiece_217 : decode cX3_readPiece 217 = .ok (.invokevirtual 58, 3) := by decide +kernel
theorem dX3_readPiece_220 : decode cX3_readPiece 220 = .ok (.return_, 1) := by decide +kernel
theorem dX3_readPair_0 : decode cX3_readPair 0 = .ok (.aload_n 0, 1) := by decide +kernel
theorem dX3_readPair_1 : decode cX3_readPair 1 = .ok (.getfield 12, 3) := by decide +kernel
theorem dX3_readPair_4 : decode cX3_readPair 4 = .ok (.bipush 26, 2) := by decide +kernel
theorem dX3_readPair_6 : decode cX3_readPair 6 = .ok (.invokevirtual 180, 3) := by decide +kernel
theorem dX3_readPair_9 : decode cX3_readPair 9 = .ok (.ifCond .eq 9, 3) := by decide +kernel
theorem dX3_readPair_12 : decode cX3_readPair 12 = .ok (.sipush 10009, 3) := by decide +kernel
theorem dX3_readPair_15 : decode cX3_readPair 15 = .ok (.goto 6, 3) := by decide +kernel
theorem dX3_readPair_18 : decode cX3_readPair 18 = .ok (.sipush 10010, 3) := by decide +kernel
theorem dX3_readPair_21 : decode cX3_readPair 21 = .ok (.istore_n 2, 1) := by decide +kernel
theorem dX3_readPair_22 : decode cX3_readPair 22 = .ok (.aload_n 0, 1) := by decide +kernel
theorem dX3_readPair_23 : decode cX3_readPair 23 = .ok (.getfield 12, 3) := by decide +kernel
theorem dX3_readPair_26 : decode cX3_readPair 26 = .ok (.invokevirtual 77, 3) := by decide +kernel
theorem dX3_readPair_29 : decode cX3_readPair 29 = .ok (.aload_n 0, 1) := by decide +kernel
theorem dX3_readPair_30 : decode cX3_readPair 30 = .ok (.getfield 12, 3) := by decide +kernel
theorem dX3_readPair_33 : decode cX3_readPair 33 = .ok (.bipush 40, 2) := by decide +kernel
theorem dX3_readPair_35 : decode cX3_readPair 35 = .ok (.invokevirtual 192, 3) := by decide +kernel
theorem dX3_readPair_38 : decode cX3_readPair 38 = .ok (.ifCond .ne 21, 3) := by decide +kernel
theorem dX3_readPair_41 : decode cX3_readPair 41 = .ok (.aload_n 0, 1) := by decide +kernel
theorem dX3_readPair_42 : decode cX3_readPair 42 = .ok (.getfield 12, 3) := by decide +kernel
theorem dX3_readPair_45 : decode cX3_readPair 45 = .ok (.iconst 1, 1) := by decide +kernel
theorem dX3_readPair_46 : decode cX3_readPair 46 = .ok (.aload_n 0, 1) := by decide +kernel
theorem dX3_readPair_47 : decode cX3_readPair 47 = .ok (.getfield 12, 3) := by decide +kernel
theorem dX3_readPair_50 : decode cX3_readPair 50 = .ok (.getfield 55, 3) := by decide +kernel
theorem dX3_readPair_53 : decode cX3_readPair 53 = .ok (.invokevirtual 58, 3) := by decide +kernel
theorem dX3_readPair_56 : decode cX3_readPair 56 = .ok (.goto 58, 3) := by decide +kernel
theorem dX3_readPair_59 : decode cX3_readPair 59 = .ok (.aload_n 0, 1) := by decide +kernel
theorem dX3_readPair_60 : decode cX3_readPair 60 = .ok (.iload_n 1, 1) := by decide +kernel
theorem dX3_readPair_61 : decode cX3_readPair 61 = .ok (.invokevirtual 189, 3) := by decide +kernel
theorem dX3_readPair_64 : decode cX3_readPair 64 = .ok (.ifCond .eq 50, 3) := by decide +kernel
theorem dX3_readPair_67 : decode cX3_readPair 67 = .ok (.aload_n 0, 1) := by decide +kernel
theorem dX3_readPair_68 : decode cX3_readPair 68 = .ok (.getfield 12, 3) := by decide +kernel
theorem dX3_readPair_71 : decode cX3_readPair 71 = .ok (.invokevirtual 77, 3) := by decide +kernel
theorem dX3_readPair_74 : decode cX3_readPair 74 = .ok (.aload_n 0, 1) := by decide +kernel
theorem dX3_readPair_75 : decode cX3_readPair 75 = .ok (.iload_n 1, 1) := by decide +kernel
theorem dX3_readPair_76 : decode cX3_readPair 76 = .ok (.iconst 1, 1) := by decide +kernel
theorem dX3_readPair_77 : decode cX3_readPair 77 = .ok (.iadd, 1) := by decide +kernel
theorem dX3_readPair_78 : decode cX3_readPair 78 = .ok (.invokevirtual 87, 3) := by decide +kernel
theorem dX3_readPair_81 : decode cX3_readPair 81 = .ok (.aload_n 0, 1) := by decide +kernel
theorem dX3_readPair_82 : decode cX3_readPair 82 = .ok (.getfield 12, 3) := by decide +kernel
theorem dX3_readPair_85 : decode cX3_readPair 85 = .ok (.bipush 44, 2) := by decide +kernel
theorem dX3_readPair_87 : decode cX3_readPair 87 = .ok (.invokevirtual 121, 3) := by decide +kernel
theorem dX3_readPair_90 : decode cX3_readPair 90 = .ok (.aload_n 0, 1) := by decide +kernel
theorem dX3_readPair_91 : decode cX3_readPair 91 = .ok (.iload_n 1, 1) := by decide +kernel
theorem dX3_readPair_92 : decode cX3_readPair 92 = .ok (.iconst 1, 1) := by decide +kernel
theorem dX3_readPair_93 : decode cX3_readPair 93 = .ok (.iadd, 1) := by decide +kernel
theorem dX3_readPair_94 : decode cX3_readPair 94 = .ok (.invokevirtual 87, 3) := by decide +kernel
theorem dX3_readPair_97 : decode cX3_readPair 97 = .ok (.aload_n 0, 1) := by decide +kernel
theorem dX3_readPair_98 : decode cX3_readPair 98 = .ok (.getfield 12, 3) := by decide +kernel
theorem dX3_readPair_101 : decode cX3_readPair 101 = .ok (.bipush 41, 2) := by decide +kernel
theorem dX3_readPair_103 : decode cX3_readPair 103 = .ok (.invokevirtual 121, 3) := by decide +kernel
theorem dX3_readPair_106 : decode cX3_readPair 106 = .ok (.aload_n 0, 1) := by decide +kernel
theorem dX3_readPair_107 : decode cX3_readPair 107 = .ok (.getfield 25, 3) := by decide +kernel
theorem dX3_readPair_110 : decode cX3_readPair 110 = .ok (.iload_n 2, 1) := by decide +kernel
theorem dX3_readPair_111 : decode cX3_readPair 111 = .ok (.invokevirtual 183, 3) := by decide +kernel
theorem dX3_readPair_114 : decode cX3_readPair 114 = .ok (.return_, 1) := by decide +kernel
theorem dX3_isFact_0 : decode cX3_isFact 0 = .ok (.iload_n 1, 1) := by decide +kernel
theorem dX3_isFact_1 : decode cX3_isFact 1 = .ok (.tableswitch 107 2 21 #[97, 97, 107, 107, 107, 95, 107, 107, 107, 107, 107, 107, 107, 95, 95, 95, 95, 102, 102, 102], 95) := by decide +kernel
theorem dX3_isFact_96 : decode cX3_isFact 96 = .ok (.iconst 1, 1) := by decide +kernel
theorem dX3_isFact_97 : decode cX3_isFact 97 = .ok (.ireturn, 1) := by decide +kernel
theorem dX3_isFact_98 : decode cX3_isFact 98 = .ok (.aload_n 0, 1) := by decide +kernel
theorem dX3_isFact_99 : decode cX3_isFact 99 = .ok (.getfield 32, 3) := by decide +kernel
theorem dX3_isFact_102 : decode cX3_isFact 102 = .ok (.ireturn, 1) := by decide +kernel
theorem dX3_isFact_103 : decode cX3_isFact 103 = .ok (.aload_n 0, 1) := by decide +kernel
theorem dX3_isFact_104 : decode cX3_isFact 104 = .ok (.getfield 28, 3) := by decide +kernel
theorem dX3_isFact_107 : decode cX3_isFact 107 = .ok (.ireturn, 1) := by decide +kernel
theorem dX3_isFact_108 : decode cX3_isFact 108 = .ok (.iconst 0, 1) := by decide +kernel
theorem dX3_isFact_109 : decode cX3_isFact 109 = .ok (.ireturn, 1) := by decide +kernel
theorem dX4_init_0 : decode cX4_init 0 = .ok (.aload_n 0, 1) := by decide +kernel
theorem dX4_init_1 : decode cX4_init 1 = .ok (.invokespecial 3, 3) := by decide +kernel
theorem dX4_init_4 : decode cX4_init 4 = .ok (.aload_n 0, 1) := by decide +kernel
theorem dX4_init_5 : decode cX4_init 5 = .ok (.iconst 0, 1) := by decide +kernel
theorem dX4_init_6 : decode cX4_init 6 = .ok (.putfield 9, 3) := by decide +kernel
theorem dX4_init_9 : decode cX4_init 9 = .ok (.aload_n 0, 1) := by decide +kernel
theorem dX4_init_10 : decode cX4_init 10 = .ok (.iconst 0, 1) := by decide +kernel
theorem dX4_init_11 : decode cX4_init 11 = .ok (.putfield 15, 3) := by decide +kernel
theorem dX4_init_14 : decode cX4_init 14 = .ok (.aload_n 0, 1) := by decide +kernel
theorem dX4_init_15 : decode cX4_init 15 = .ok (.bipush 8, 2) := by decide +kernel
theorem dX4_init_17 : decode cX4_init 17 = .ok (.newarray .int, 2) := by decide +kernel
theorem dX4_init_19 : decode cX4_init 19 = .ok (.putfield 18, 3) := by decide +kernel
theorem dX4_init_22 : decode cX4_init 22 = .ok (.aload_n 0, 1) := by decide +kernel
theorem dX4_init_23 : decode cX4_init 23 = .ok (.bipush 8, 2) := by decide +kernel
theorem dX4_init_25 : decode cX4_init 25 = .ok (.newarray .int, 2) := by decide +kernel
theorem dX4_init_27 : decode cX4_init 27 = .ok (.putfield 22, 3) := by decide +kernel
theorem dX4_init_30 : decode cX4_init 30 = .ok (.aload_n 0, 1) := by decide +kernel
theorem dX4_init_31 : decode cX4_init 31 = .ok (.bipush 8, 2) := by decide +kernel
theorem dX4_init_33 : decode cX4_init 33 = .ok (.newarray .int, 2) := by decide +kernel
theorem dX4_init_35 : decode cX4_init 35 = .ok (.putfield 25, 3) := by decide +kernel
theorem dX4_init_38 : decode cX4_init 38 = .ok (.aload_n 0, 1) := by decide +kernel
theorem dX4_init_39 : decode cX4_init 39 = .ok (.bipush 8, 2) := by decide +kernel
theorem dX4_init_41 : decode cX4_init 41 = .ok (.newarray .int, 2) := by decide +kernel
theorem dX4_init_43 : decode cX4_init 43 = .ok (.putfield 28, 3) := by decide +kernel
theorem dX4_init_46 : decode cX4_init 46 = .ok (.aload_n 0, 1) := by decide +kernel
theorem dX4_init_47 : decode cX4_init 47 = .ok (.bipush 8, 2) := by decide +kernel
theorem dX4_init_49 : decode cX4_init 49 = .ok (.newarray .int, 2) := by decide +kernel
theorem dX4_init_51 : decode cX4_init 51 = .ok (.putfield 31, 3) := by decide +kernel
theorem dX4_init_54 : decode cX4_init 54 = .ok (.aload_n 0, 1) := by decide +kernel
theorem dX4_init_55 : decode cX4_init 55 = .ok (.iconst 0, 1) := by decide +kernel
theorem dX4_init_56 : decode cX4_init 56 = .ok (.putfield 34, 3) := by decide +kernel
theorem dX4_init_59 : decode cX4_init 59 = .ok (.aload_n 0, 1) := by decide +kernel
theorem dX4_init_60 : decode cX4_init 60 = .ok (.bipush 40, 2) := by decide +kernel
theorem dX4_init_62 : decode cX4_init 62 = .ok (.newarray .int, 2) := by decide +kernel
theorem dX4_init_64 : decode cX4_init 64 = .ok (.putfield 37, 3) := by decide +kernel
theorem dX4_init_67 : decode cX4_init 67 = .ok (.aload_n 0, 1) := by decide +kernel
theorem dX4_init_68 : decode cX4_init 68 = .ok (.bipush 40, 2) := by decide +kernel
theorem dX4_init_70 : decode cX4_init 70 = .ok (.newarray .int, 2) := by decide +kernel
theorem dX4_init_72 : decode cX4_init 72 = .ok (.putfield 40, 3) := by decide +kernel
theorem dX4_init_75 : decode cX4_init 75 = .ok (.aload_n 0, 1) := by decide +kernel
theorem dX4_init_76 : decode cX4_init 76 = .ok (.bipush 40, 2) := by decide +kernel
theorem dX4_init_78 : decode cX4_init 78 = .ok (.newarray .int, 2) := by decide +kernel
theorem dX4_init_80 : decode cX4_init 80 = .ok (.putfield 43, 3) := by decide +kernel
theorem dX4_init_83 : decode cX4_init 83 = .ok (.return_, 1) := by decide +kernel
theorem dX4_begin_0 : decode cX4_begin 0 = .ok (.aload_n 0, 1) := by decide +kernel
theorem dX4_begin_1 : decode cX4_begin 1 = .ok (.iconst 0, 1) := by decide +kernel
theorem dX4_begin_2 : decode cX4_begin 2 = .ok (.putfield 9, 3) := by decide +kernel
theorem dX4_begin_5 : decode cX4_begin 5 = .ok (.aload_n 0, 1) := by decide +kernel
theorem dX4_begin_6 : decode cX4_begin 6 = .ok (.aload_n 1, 1) := by decide +kernel
theorem dX4_begin_7 : decode cX4_begin 7 = .ok (.getfield 46, 3) := by decide +kernel
theorem dX4_begin_10 : decode cX4_begin 10 = .ok (.putfield 15, 3) := by decide +kernel
theorem dX4_begin_13 : decode cX4_begin 13 = .ok (.aload_n 0, 1) := by decide +kernel
theorem dX4_begin_14 : decode cX4_begin 14 = .ok (.iconst 0, 1) := by decide +kernel
theorem dX4_begin_15 : decode cX4_begin 15 = .ok (.putfield 34, 3) := by decide +kernel
theorem dX4_begin_18 : decode cX4_begin 18 = .ok (.iconst 0, 1) := by decide +kernel
theorem dX4_begin_19 : decode cX4_begin 19 = .ok (.istore_n 2, 1) := by decide +kernel
theorem dX4_begin_20 : decode cX4_begin 20 = .ok (.iload_n 2, 1) := by decide +kernel
theorem dX4_begin_21 : decode cX4_begin 21 = .ok (.bipush 8, 2) := by decide +kernel
theorem dX4_begin_23 : decode cX4_begin 23 = .ok (.if_icmp .ge 59, 3) := by decide +kernel
theorem dX4_begin_26 : decode cX4_begin 26 = .ok (.aload_n 0, 1) := by decide +kernel
theorem dX4_begin_27 : decode cX4_begin 27 = .ok (.getfield 18, 3) := by decide +kernel
theorem dX4_begin_30 : decode cX4_begin 30 = .ok (.iload_n 2, 1) := by decide +kernel
theorem dX4_begin_31 : decode cX4_begin 31 = .ok (.aload_n 1, 1) := by decide +kernel
theorem dX4_begin_32 : decode cX4_begin 32 = .ok (.getfield 51, 3) := by decide +kernel
theorem dX4_begin_35 : decode cX4_begin 35 = .ok (.iload_n 2, 1) := by decide +kernel
theorem dX4_begin_36 : decode cX4_begin 36 = .ok (.iaload, 1) := by decide +kernel
theorem dX4_begin_37 : decode cX4_begin 37 = .ok (.iastore, 1) := by decide +kernel
theorem dX4_begin_38 : decode cX4_begin 38 = .ok (.aload_n 0, 1) := by decide +kernel
theorem dX4_begin_39 : decode cX4_begin 39 = .ok (.getfield 22, 3) := by decide +kernel
theorem dX4_begin_42 : decode cX4_begin 42 = .ok (.iload_n 2, 1) := by decide +kernel
theorem dX4_begin_43 : decode cX4_begin 43 = .ok (.aload_n 1, 1) := by decide +kernel
theorem dX4_begin_44 : decode cX4_begin 44 = .ok (.getfield 54, 3) := by decide +kernel
theorem dX4_begin_47 : decode cX4_begin 47 = .ok (.iload_n 2, 1) := by decide +kernel
theorem dX4_begin_48 : decode cX4_begin 48 = .ok (.iaload, 1) := by decide +kernel
theorem dX4_begin_49 : decode cX4_begin 49 = .ok (.iastore, 1) := by decide +kernel
theorem dX4_begin_50 : decode cX4_begin 50 = .ok (.aload_n 0, 1) := by decide +kernel
theorem dX4_begin_51 : decode cX4_begin 51 = .ok (.getfield 25, 3) := by decide +kernel
theorem dX4_begin_54 : decode cX4_begin 54 = .ok (.iload_n 2, 1) := by decide +kernel
theorem dX4_begin_55 : decode cX4_begin 55 = .ok (.aload_n 1, 1) := by decide +kernel
theorem dX4_begin_56 : decode cX4_begin 56 = .ok (.getfield 57, 3) := by decide +kernel
theorem dX4_begin_59 : decode cX4_begin 59 = .ok (.iload_n 2, 1) := by decide +kernel
theorem dX4_begin_60 : decode cX4_begin 60 = .ok (.iaload, 1) := by decide +kernel
theorem dX4_begin_61 : decode cX4_begin 61 = .ok (.iastore, 1) := by decide +kernel
theorem dX4_begin_62 : decode cX4_begin 62 = .ok (.aload_n 0, 1) := by decide +kernel
theorem dX4_begin_63 : decode cX4_begin 63 = .ok (.getfield 28, 3) := by decide +kernel
theorem dX4_begin_66 : decode cX4_begin 66 = .ok (.iload_n 2, 1) := by decide +kernel
theorem dX4_begin_67 : decode cX4_begin 67 = .ok (.iconst (-1), 1) := by decide +kernel
theorem dX4_begin_68 : decode cX4_begin 68 = .ok (.iastore, 1) := by decide +kernel
theorem dX4_begin_69 : decode cX4_begin 69 = .ok (.aload_n 0, 1) := by decide +kernel
theorem dX4_begin_70 : decode cX4_begin 70 = .ok (.getfield 31, 3) := by decide +kernel
theorem dX4_begin_73 : decode cX4_begin 73 = .ok (.iload_n 2, 1) := by decide +kernel
theorem dX4_begin_74 : decode cX4_begin 74 = .ok (.iconst 0, 1) := by decide +kernel
theorem dX4_begin_75 : decode cX4_begin 75 = .ok (.iastore, 1) := by decide +kernel
theorem dX4_begin_76 : decode cX4_begin 76 = .ok (.iinc 2 1, 3) := by decide +kernel
theorem dX4_begin_79 : decode cX4_begin 79 = .ok (.goto (-59), 3) := by decide +kernel
theorem dX4_begin_82 : decode cX4_begin 82 = .ok (.return_, 1) := by decide +kernel
theorem dX4_copyNow_0 : decode cX4_copyNow 0 = .ok (.aload_n 0, 1) := by decide +kernel
theorem dX4_copyNow_1 : decode cX4_copyNow 1 = .ok (.aload_n 1, 1) := by decide +kernel
theorem dX4_copyNow_2 : decode cX4_copyNow 2 = .ok (.getfield 9, 3) := by decide +kernel
theorem dX4_copyNow_5 : decode cX4_copyNow 5 = .ok (.putfield 9, 3) := by decide +kernel
theorem dX4_copyNow_8 : decode cX4_copyNow 8 = .ok (.aload_n 0, 1) := by decide +kernel
theorem dX4_copyNow_9 : decode cX4_copyNow 9 = .ok (.aload_n 1, 1) := by decide +kernel
theorem dX4_copyNow_10 : decode cX4_copyNow 10 = .ok (.getfield 15, 3) := by decide +kernel
theorem dX4_copyNow_13 : decode cX4_copyNow 13 = .ok (.putfield 15, 3) := by decide +kernel
theorem dX4_copyNow_16 : decode cX4_copyNow 16 = .ok (.aload_n 1, 1) := by decide +kernel
theorem dX4_copyNow_17 : decode cX4_copyNow 17 = .ok (.getfield 18, 3) := by decide +kernel
theorem dX4_copyNow_20 : decode cX4_copyNow 20 = .ok (.iconst 0, 1) := by decide +kernel
theorem dX4_copyNow_21 : decode cX4_copyNow 21 = .ok (.aload_n 0, 1) := by decide +kernel
theorem dX4_copyNow_22 : decode cX4_copyNow 22 = .ok (.getfield 18, 3) := by decide +kernel
theorem dX4_copyNow_25 : decode cX4_copyNow 25 = .ok (.iconst 0, 1) := by decide +kernel
theorem dX4_copyNow_26 : decode cX4_copyNow 26 = .ok (.bipush 8, 2) := by decide +kernel
theorem dX4_copyNow_28 : decode cX4_copyNow 28 = .ok (.invokestatic 60, 3) := by decide +kernel
theorem dX4_copyNow_31 : decode cX4_copyNow 31 = .ok (.aload_n 1, 1) := by decide +kernel
theorem dX4_copyNow_32 : decode cX4_copyNow 32 = .ok (.getfield 22, 3) := by decide +kernel
theorem dX4_copyNow_35 : decode cX4_copyNow 35 = .ok (.iconst 0, 1) := by decide +kernel
theorem dX4_copyNow_36 : decode cX4_copyNow 36 = .ok (.aload_n 0, 1) := by decide +kernel
theorem dX4_copyNow_37 : decode cX4_copyNow 37 = .ok (.getfield 22, 3) := by decide +kernel
theorem dX4_copyNow_40 : decode cX4_copyNow 40 = .ok (.iconst 0, 1) := by decide +kernel
theorem dX4_copyNow_41 : decode cX4_copyNow 41 = .ok (.bipush 8, 2) := by decide +kernel
theorem dX4_copyNow_43 : decode cX4_copyNow 43 = .ok (.invokestatic 60, 3) := by decide +kernel
theorem dX4_copyNow_46 : decode cX4_copyNow 46 = .ok (.aload_n 1, 1) := by decide +kernel
theorem dX4_copyNow_47 : decode cX4_copyNow 47 = .ok (.getfield 25, 3) := by decide +kernel
theorem dX4_copyNow_50 : decode cX4_copyNow 50 = .ok (.iconst 0, 1) := by decide +kernel
theorem dX4_copyNow_51 : decode cX4_copyNow 51 = .ok (.aload_n 0, 1) := by decide +kernel
theorem dX4_copyNow_52 : decode cX4_copyNow 52 = .ok (.getfield 25, 3) := by decide +kernel
theorem dX4_copyNow_55 : decode cX4_copyNow 55 = .ok (.iconst 0, 1) := by decide +kernel
theorem dX4_copyNow_56 : decode cX4_copyNow 56 = .ok (.bipush 8, 2) := by decide +kernel
theorem dX4_copyNow_58 : decode cX4_copyNow 58 = .ok (.invokestatic 60, 3) := by decide +kernel
theorem dX4_copyNow_61 : decode cX4_copyNow 61 = .ok (.aload_n 1, 1) := by decide +kernel
theorem dX4_copyNow_62 : decode cX4_copyNow 62 = .ok (.getfield 28, 3) := by decide +kernel
theorem dX4_copyNow_65 : decode cX4_copyNow 65 = .ok (.iconst 0, 1) := by decide +kernel
theorem dX4_copyNow_66 : decode cX4_copyNow 66 = .ok (.aload_n 0, 1) := by decide +kernel
theorem dX4_copyNow_67 : decode cX4_copyNow 67 = .ok (.getfield 28, 3) := by decide +kernel
theorem dX4_copyNow_70 : decode cX4_copyNow 70 = .ok (.iconst 0, 1) := by decide +kernel
theorem dX4_copyNow_71 : decode cX4_copyNow 71 = .ok (.bipush 8, 2) := by decide +kernel
theorem dX4_copyNow_73 : decode cX4_copyNow 73 = .ok (.invokestatic 60, 3) := by decide +kernel
theorem dX4_copyNow_76 : decode cX4_copyNow 76 = .ok (.aload_n 1, 1) := by decide +kernel
theorem dX4_copyNow_77 : decode cX4_copyNow 77 = .ok (.getfield 31, 3) := by decide +kernel
theorem dX4_copyNow_80 : decode cX4_copyNow 80 = .ok (.iconst 0, 1) := by decide +kernel
theorem dX4_copyNow_81 : decode cX4_copyNow 81 = .ok (.aload_n 0, 1) := by decide +kernel
theorem dX4_copyNow_82 : decode cX4_copyNow 82 = .ok (.getfield 31, 3) := by decide +kernel
theorem dX4_copyNow_85 : decode cX4_copyNow 85 = .ok (.iconst 0, 1) := by decide +kernel
theorem dX4_copyNow_86 : decode cX4_copyNow 86 = .ok (.bipush 8, 2) := by decide +kernel
theorem dX4_copyNow_88 : decode cX4_copyNow 88 = .ok (.invokestatic 60, 3) := by decide +kernel
theorem dX4_copyNow_91 : decode cX4_copyNow 91 = .ok (.return_, 1) := by decide +kernel
theorem dX4_copyAll_0 : decode cX4_copyAll 0 = .ok (.aload_n 0, 1) := by decide +kernel
theorem dX4_copyAll_1 : decode cX4_copyAll 1 = .ok (.aload_n 1, 1) := by decide +kernel
theorem dX4_copyAll_2 : decode cX4_copyAll 2 = .ok (.invokevirtual 66, 3) := by decide +kernel
theorem dX4_copyAll_5 : decode cX4_copyAll 5 = .ok (.aload_n 0, 1) := by decide +kernel
theorem dX4_copyAll_6 : decode cX4_copyAll 6 = .ok (.aload_n 1, 1) := by decide +kernel
theorem dX4_copyAll_7 : decode cX4_copyAll 7 = .ok (.getfield 34, 3) := by decide +kernel
theorem dX4_copyAll_10 : decode cX4_copyAll 10 = .ok (.putfield 34, 3) := by decide +kernel
theorem dX4_copyAll_13 : decode cX4_copyAll 13 = .ok (.aload_n 1, 1) := by decide +kernel
theorem dX4_copyAll_14 : decode cX4_copyAll 14 = .ok (.getfield 37, 3) := by decide +kernel
theorem dX4_copyAll_17 : decode cX4_copyAll 17 = .ok (.iconst 0, 1) := by decide +kernel
theorem dX4_copyAll_18 : decode cX4_copyAll 18 = .ok (.aload_n 0, 1) := by decide +kernel
theorem dX4_copyAll_19 : decode cX4_copyAll 19 = .ok (.getfield 37, 3) := by decide +kernel
theorem dX4_copyAll_22 : decode cX4_copyAll 22 = .ok (.iconst 0, 1) := by decide +kernel
theorem dX4_copyAll_23 : decode cX4_copyAll 23 = .ok (.bipush 40, 2) := by decide +kernel
theorem dX4_copyAll_25 : decode cX4_copyAll 25 = .ok (.invokestatic 60, 3) := by decide +kernel
theorem dX4_copyAll_28 : decode cX4_copyAll 28 = .ok (.aload_n 1, 1) := by decide +kernel
theorem dX4_copyAll_29 : decode cX4_copyAll 29 = .ok (.getfield 40, 3) := by decide +kernel
theorem dX4_copyAll_32 : decode cX4_copyAll 32 = .ok (.iconst 0, 1) := by decide +kernel
theorem dX4_copyAll_33 : decode cX4_copyAll 33 = .ok (.aload_n 0, 1) := by decide +kernel
theorem dX4_copyAll_34 : decode cX4_copyAll 34 = .ok (.getfield 40, 3) := by decide +kernel
theorem dX4_copyAll_37 : decode cX4_copyAll 37 = .ok (.iconst 0, 1) := by decide +kernel
theorem dX4_copyAll_38 : decode cX4_copyAll 38 = .ok (.bipush 40, 2) := by decide +kernel
theorem dX4_copyAll_40 : decode cX4_copyAll 40 = .ok (.invokestatic 60, 3) := by decide +kernel
theorem dX4_copyAll_43 : decode cX4_copyAll 43 = .ok (.aload_n 1, 1) := by decide +kernel
theorem dX4_copyAll_44 : decode cX4_copyAll 44 = .ok (.getfield 43, 3) := by decide +kernel
theorem dX4_copyAll_47 : decode cX4_copyAll 47 = .ok (.iconst 0, 1) := by decide +kernel
theorem dX4_copyAll_48 : decode cX4_copyAll 48 = .ok (.aload_n 0, 1) := by decide +kernel
theorem dX4_copyAll_49 : decode cX4_copyAll 49 = .ok (.getfield 43, 3) := by decide +kernel
theorem dX4_copyAll_52 : decode cX4_copyAll 52 = .ok (.iconst 0, 1) := by decide +kernel
theorem dX4_copyAll_53 : decode cX4_copyAll 53 = .ok (.bipush 40, 2) := by decide +kernel
theorem dX4_copyAll_55 : decode cX4_copyAll 55 = .ok (.invokestatic 60, 3) := by decide +kernel
theorem dX4_copyAll_58 : decode cX4_copyAll 58 = .ok (.return_, 1) := by decide +kernel
theorem dX4_keep_0 : decode cX4_keep 0 = .ok (.aload_n 0, 1) := by decide +kernel
theorem dX4_keep_1 : decode cX4_keep 1 = .ok (.getfield 34, 3) := by decide +kernel
theorem dX4_keep_4 : decode cX4_keep 4 = .ok (.bipush 40, 2) := by decide +kernel
theorem dX4_keep_6 : decode cX4_keep 6 = .ok (.if_icmp .lt 54, 3) := by decide +kernel
theorem dX4_keep_9 : decode cX4_keep 9 = .ok (.aload_n 0, 1) := by decide +kernel
theorem dX4_keep_10 : decode cX4_keep 10 = .ok (.getfield 37, 3) := by decide +kernel
theorem dX4_keep_13 : decode cX4_keep 13 = .ok (.iconst 1, 1) := by decide +kernel
theorem dX4_keep_14 : decode cX4_keep 14 = .ok (.aload_n 0, 1) := by decide +kernel
theorem dX4_keep_15 : decode cX4_keep 15 = .ok (.getfield 37, 3) := by decide +kernel
theorem dX4_keep_18 : decode cX4_keep 18 = .ok (.iconst 0, 1) := by decide +kernel
theorem dX4_keep_19 : decode cX4_keep 19 = .ok (.bipush 39, 2) := by decide +kernel
theorem dX4_keep_21 : decode cX4_keep 21 = .ok (.invokestatic 60, 3) := by decide +kernel
theorem dX4_keep_24 : decode cX4_keep 24 = .ok (.aload_n 0, 1) := by decide +kernel
theorem dX4_keep_25 : decode cX4_keep 25 = .ok (.getfield 40, 3) := by decide +kernel
theorem dX4_keep_28 : decode cX4_keep 28 = .ok (.iconst 1, 1) := by decide +kernel
theorem dX4_keep_29 : decode cX4_keep 29 = .ok (.aload_n 0, 1) := by decide +kernel
theorem dX4_keep_30 : decode cX4_keep 30 = .ok (.getfield 40, 3) := by decide +kernel
theorem dX4_keep_33 : decode cX4_keep 33 = .ok (.iconst 0, 1) := by decide +kernel
theorem dX4_keep_34 : decode cX4_keep 34 = .ok (.bipush 39, 2) := by decide +kernel
theorem dX4_keep_36 : decode cX4_keep 36 = .ok (.invokestatic 60, 3) := by decide +kernel
theorem dX4_keep_39 : decode cX4_keep 39 = .ok (.aload_n 0, 1) := by decide +kernel
theorem dX4_keep_40 : decode cX4_keep 40 = .ok (.getfield 43, 3) := by decide +kernel
theorem dX4_keep_43 : decode cX4_keep 43 = .ok (.iconst 1, 1) := by decide +kernel
theorem dX4_keep_44 : decode cX4_keep 44 = .ok (.aload_n 0, 1) := by decide +kernel
theorem dX4_keep_45 : decode cX4_keep 45 = .ok (.getfield 43, 3) := by decide +kernel
theorem dX4_keep_48 : decode cX4_keep 48 = .ok (.iconst 0, 1) := by decide +kernel
theorem dX4_keep_49 : decode cX4_keep 49 = .ok (.bipush 39, 2) := by decide +kernel
theorem dX4_keep_51 : decode cX4_keep 51 = .ok (.invokestatic 60, 3) := by decide +kernel
theorem dX4_keep_54 : decode cX4_keep 54 = .ok (.aload_n 0, 1) := by decide +kernel
theorem dX4_keep_55 : decode cX4_keep 55 = .ok (.bipush 39, 2) := by decide +kernel
theorem dX4_keep_57 : decode cX4_keep 57 = .ok (.putfield 34, 3) := by decide +kernel
theorem dX4_keep_60 : decode cX4_keep 60 = .ok (.aload_n 0, 1) := by decide +kernel
theorem dX4_keep_61 : decode cX4_keep 61 = .ok (.getfield 37, 3) := by decide +kernel
theorem dX4_keep_64 : decode cX4_keep 64 = .ok (.aload_n 0, 1) := by decide +kernel
theorem dX4_keep_65 : decode cX4_keep 65 = .ok (.getfield 34, 3) := by decide +kernel
theorem dX4_keep_68 : decode cX4_keep 68 = .ok (.iload_n 1, 1) := by decide +kernel
theorem dX4_keep_69 : decode cX4_keep 69 = .ok (.iastore, 1) := by decide +kernel
theorem dX4_keep_70 : decode cX4_keep 70 = .ok (.aload_n 0, 1) := by decide +kernel
theorem dX4_keep_71 : decode cX4_keep 71 = .ok (.getfield 40, 3) := by decide +kernel
theorem dX4_keep_74 : decode cX4_keep 74 = .ok (.aload_n 0, 1) := by decide +kernel
theorem dX4_keep_75 : decode cX4_keep 75 = .ok (.getfield 34, 3) := by decide +kernel
theorem dX4_keep_78 : decode cX4_keep 78 = .ok (.iload_n 2, 1) := by decide +kernel
theorem dX4_keep_79 : decode cX4_keep 79 = .ok (.iastore, 1) := by decide +kernel
theorem dX4_keep_80 : decode cX4_keep 80 = .ok (.aload_n 0, 1) := by decide +kernel
theorem dX4_keep_81 : decode cX4_keep 81 = .ok (.getfield 43, 3) := by decide +kernel
theorem dX4_keep_84 : decode cX4_keep 84 = .ok (.aload_n 0, 1) := by decide +kernel
theorem dX4_keep_85 : decode cX4_keep 85 = .ok (.getfield 34, 3) := by decide +kernel
theorem dX4_keep_88 : decode cX4_keep 88 = .ok (.iload_n 3, 1) := by decide +kernel
theorem dX4_keep_89 : decode cX4_keep 89 = .ok (.iastore, 1) := by decide +kernel
theorem dX4_keep_90 : decode cX4_keep 90 = .ok (.aload_n 0, 1) := by decide +kernel
theorem dX4_keep_91 : decode cX4_keep 91 = .ok (.dup, 1) := by decide +kernel
theorem dX4_keep_92 : decode cX4_keep 92 = .ok (.getfield 34, 3) := by decide +kernel
theorem dX4_keep_95 : decode cX4_keep 95 = .ok (.iconst 1, 1) := by decide +kernel
theorem dX4_keep_96 : decode cX4_keep 96 = .ok (.iadd, 1) := by decide +kernel
theorem dX4_keep_97 : decode cX4_keep 97 = .ok (.putfield 34, 3) := by decide +kernel
theorem dX4_keep_100 : decode cX4_keep 100 = .ok (.return_, 1) := by decide +kernel
theorem dX4_isDead_0 : decode cX4_isDead 0 = .ok (.aload_n 0, 1) := by decide +kernel
theorem dX4_isDead_1 : decode cX4_isDead 1 = .ok (.getfield 9, 3) := by decide +kernel
theorem dX4_isDead_4 : decode cX4_isDead 4 = .ok (.aload_n 0, 1) := by decide +kernel
theorem dX4_isDead_5 : decode cX4_isDead 5 = .ok (.getfield 22, 3) := by decide +kernel
theorem dX4_isDead_8 : decode cX4_isDead 8 = .ok (.iload_n 1, 1) := by decide +kernel
theorem dX4_isDead_9 : decode cX4_isDead 9 = .ok (.iaload, 1) := by decide +kernel
theorem dX4_isDead_10 : decode cX4_isDead 10 = .ok (.if_icmp .lt 7, 3) := by decide +kernel
theorem dX4_isDead_13 : decode cX4_isDead 13 = .ok (.iconst 1, 1) := by decide +kernel
theorem dX4_isDead_14 : decode cX4_isDead 14 = .ok (.goto 4, 3) := by decide +kernel
theorem dX4_isDead_17 : decode cX4_isDead 17 = .ok (.iconst 0, 1) := by decide +kernel
theorem dX4_isDead_18 : decode cX4_isDead 18 = .ok (.ireturn, 1) := by decide +kernel
theorem dX4_ageOf_0 : decode cX4_ageOf 0 = .ok (.iconst 0, 1) := by decide +kernel
theorem dX4_ageOf_1 : decode cX4_ageOf 1 = .ok (.aload_n 0, 1) := by decide +kernel
theorem dX4_ageOf_2 : decode cX4_ageOf 2 = .ok (.getfield 9, 3) := by decide +kernel
theorem dX4_ageOf_5 : decode cX4_ageOf 5 = .ok (.aload_n 0, 1) := by decide +kernel
theorem dX4_ageOf_6 : decode cX4_ageOf 6 = .ok (.getfield 22, 3) := by decide +kernel
theorem dX4_ageOf_9 : decode cX4_ageOf 9 = .ok (.iload_n 1, 1) := by decide +kernel
theorem dX4_ageOf_10 : decode cX4_ageOf 10 = .ok (.iaload, 1) := by decide +kernel
theorem dX4_ageOf_11 : decode cX4_ageOf 11 = .ok (.isub, 1) := by decide +kernel
theorem dX4_ageOf_12 : decode cX4_ageOf 12 = .ok (.invokestatic 70, 3) := by decide +kernel
theorem dX4_ageOf_15 : decode cX4_ageOf 15 = .ok (.ireturn, 1) := by decide +kernel
theorem dX4_sinceOf_0 : decode cX4_sinceOf 0 = .ok (.aload_n 0, 1) := by decide +kernel
theorem dX4_sinceOf_1 : decode cX4_sinceOf 1 = .ok (.getfield 28, 3) := by decide +kernel
theorem dX4_sinceOf_4 : decode cX4_sinceOf 4 = .ok (.iload_n 1, 1) := by decide +kernel
theorem dX4_sinceOf_5 : decode cX4_sinceOf 5 = .ok (.iaload, 1) := by decide +kernel
theorem dX4_sinceOf_6 : decode cX4_sinceOf 6 = .ok (.iconst (-1), 1) := by decide +kernel
theorem dX4_sinceOf_7 : decode cX4_sinceOf 7 = .ok (.if_icmp .ne 8, 3) := by decide +kernel
theorem dX4_sinceOf_10 : decode cX4_sinceOf 10 = .ok (.bipush 99, 2) := by decide +kernel
theorem dX4_sinceOf_12 : decode cX4_sinceOf 12 = .ok (.goto 19, 3) := by decide +kernel
theorem dX4_sinceOf_15 : decode cX4_sinceOf 15 = .ok (.bipush 99, 2) := by decide +kernel
theorem dX4_sinceOf_17 : decode cX4_sinceOf 17 = .ok (.aload_n 0, 1) := by decide +kernel
theorem dX4_sinceOf_18 : decode cX4_sinceOf 18 = .ok (.getfield 9, 3) := by decide +kernel
theorem dX4_sinceOf_21 : decode cX4_sinceOf 21 = .ok (.aload_n 0, 1) := by decide +kernel
theorem dX4_sinceOf_22 : decode cX4_sinceOf 22 = .ok (.getfield 28, 3) := by decide +kernel
theorem dX4_sinceOf_25 : decode cX4_sinceOf 25 = .ok (.iload_n 1, 1) := by decide +kernel
theorem dX4_sinceOf_26 : decode cX4_sinceOf 26 = .ok (.iaload, 1) := by decide +kernel
theorem dX4_sinceOf_27 : decode cX4_sinceOf 27 = .ok (.isub, 1) := by decide +kernel
theorem dX4_sinceOf_28 : decode cX4_sinceOf 28 = .ok (.invokestatic 76, 3) := by decide +kernel
theorem dX4_sinceOf_31 : decode cX4_sinceOf 31 = .ok (.ireturn, 1) := by decide +kernel
theorem dX5_init_0 : decode cX5_init 0 = .ok (.aload_n 0, 1) := by decide +kernel
theorem dX5_init_1 : decode cX5_init 1 = .ok (.invokespecial 3, 3) := by decide +kernel
theorem dX5_init_4 : decode cX5_init 4 = .ok (.aload_n 0, 1) := by decide +kernel
theorem dX5_init_5 : decode cX5_init 5 = .ok (.iconst 0, 1) := by decide +kernel
theorem dX5_init_6 : decode cX5_init 6 = .ok (.putfield 9, 3) := by decide +kernel
theorem dX5_init_9 : decode cX5_init 9 = .ok (.aload_n 0, 1) := by decide +kernel
theorem dX5_init_10 : decode cX5_init 10 = .ok (.iconst 0, 1) := by decide +kernel
theorem dX5_init_11 : decode cX5_init 11 = .ok (.putfield 15, 3) := by decide +kernel
theorem dX5_init_14 : decode cX5_init 14 = .ok (.aload_n 0, 1) := by decide +kernel
theorem dX5_init_15 : decode cX5_init 15 = .ok (.iconst 0, 1) := by decide +kernel
theorem dX5_init_16 : decode cX5_init 16 = .ok (.putfield 18, 3) := by decide +kernel
theorem dX5_init_19 : decode cX5_init 19 = .ok (.aload_n 0, 1) := by decide +kernel
theorem dX5_init_20 : decode cX5_init 20 = .ok (.iconst 0, 1) := by decide +kernel
theorem dX5_init_21 : decode cX5_init 21 = .ok (.putfield 21, 3) := by decide +kernel
theorem dX5_init_24 : decode cX5_init 24 = .ok (.aload_n 0, 1) := by decide +kernel
theorem dX5_init_25 : decode cX5_init 25 = .ok (.iconst 0, 1) := by decide +kernel
theorem dX5_init_26 : decode cX5_init 26 = .ok (.putfield 24, 3) := by decide +kernel
theorem dX5_init_29 : decode cX5_init 29 = .ok (.aload_n 0, 1) := by decide +kernel
theorem dX5_init_30 : decode cX5_init 30 = .ok (.bipush 6, 2) := by decide +kernel
theorem dX5_init_32 : decode cX5_init 32 = .ok (.newarray .int, 2) := by decide +kernel
theorem dX5_init_34 : decode cX5_init 34 = .ok (.putfield 27, 3) := by decide +kernel
theorem dX5_init_37 : decode cX5_init 37 = .ok (.aload_n 0, 1) := by decide +kernel
theorem dX5_init_38 : decode cX5_init 38 = .ok (.bipush 6, 2) := by decide +kernel
theorem dX5_init_40 : decode cX5_init 40 = .ok (.newarray .int, 2) := by decide +kernel
theorem dX5_init_42 : decode cX5_init 42 = .ok (.putfield 31, 3) := by decide +kernel
theorem dX5_init_45 : decode cX5_init 45 = .ok (.aload_n 0, 1) := by decide +kernel
theorem dX5_init_46 : decode cX5_init 46 = .ok (.bipush 6, 2) := by decide +kernel
theorem dX5_init_48 : decode cX5_init 48 = .ok (.newarray .int, 2) := by decide +kernel
theorem dX5_init_50 : decode cX5_init 50 = .ok (.putfield 34, 3) := by decide +kernel
theorem dX5_init_53 : decode cX5_init 53 = .ok (.aload_n 0, 1) := by decide +kernel
theorem dX5_init_54 : decode cX5_init 54 = .ok (.iconst 0, 1) := by decide +kernel
theorem dX5_init_55 : decode cX5_init 55 = .ok (.putfield 37, 3) := by decide +kernel
theorem dX5_init_58 : decode cX5_init 58 = .ok (.aload_n 0, 1) := by decide +kernel
theorem dX5_init_59 : decode cX5_init 59 = .ok (.bipush 8, 2) := by decide +kernel
theorem dX5_init_61 : decode cX5_init 61 = .ok (.newarray .int, 2) := by decide +kernel
theorem dX5_init_63 : decode cX5_init 63 = .ok (.putfield 40, 3) := by decide +kernel
theorem dX5_init_66 : decode cX5_init 66 = .ok (.aload_n 0, 1) := by decide +kernel
theorem dX5_init_67 : decode cX5_init 67 = .ok (.bipush 8, 2) := by decide +kernel
theorem dX5_init_69 : decode cX5_init 69 = .ok (.newarray .int, 2) := by decide +kernel
theorem dX5_init_71 : decode cX5_init 71 = .ok (.putfield 43, 3) := by decide +kernel
theorem dX5_init_74 : decode cX5_init 74 = .ok (.aload_n 0, 1) := by decide +kernel
theorem dX5_init_75 : decode cX5_init 75 = .ok (.bipush 8, 2) := by decide +kernel
theorem dX5_init_77 : decode cX5_init 77 = .ok (.newarray .int, 2) := by decide +kernel
theorem dX5_init_79 : decode cX5_init 79 = .ok (.putfield 46, 3) := by decide +kernel
theorem dX5_init_82 : decode cX5_init 82 = .ok (.aload_n 0, 1) := by decide +kernel
theorem dX5_init_83 : decode cX5_init 83 = .ok (.bipush 8, 2) := by decide +kernel
theorem dX5_init_85 : decode cX5_init 85 = .ok (.newarray .int, 2) := by decide +kernel
theorem dX5_init_87 : decode cX5_init 87 = .ok (.putfield 49, 3) := by decide +kernel
theorem dX5_init_90 : decode cX5_init 90 = .ok (.aload_n 0, 1) := by decide +kernel
theorem dX5_init_91 : decode cX5_init 91 = .ok (.iconst 0, 1) := by decide +kernel
theorem dX5_init_92 : decode cX5_init 92 = .ok (.putfield 52, 3) := by decide +kernel
theorem dX5_init_95 : decode cX5_init 95 = .ok (.aload_n 0, 1) := by decide +kernel
theorem dX5_init_96 : decode cX5_init 96 = .ok (.iconst 5, 1) := by decide +kernel
theorem dX5_init_97 : decode cX5_init 97 = .ok (.newarray .int, 2) := by decide +kernel
theorem dX5_init_99 : decode cX5_init 99 = .ok (.putfield 55, 3) := by decide +kernel
theorem dX5_init_102 : decode cX5_init 102 = .ok (.aload_n 0, 1) := by decide +kernel
theorem dX5_init_103 : decode cX5_init 103 = .ok (.iconst 5, 1) := by decide +kernel
theorem dX5_init_104 : decode cX5_init 104 = .ok (.newarray .int, 2) := by decide +kernel
theorem dX5_init_106 : decode cX5_init 106 = .ok (.putfield 58, 3) := by decide +kernel
theorem dX5_init_109 : decode cX5_init 109 = .ok (.aload_n 0, 1) := by decide +kernel
theorem dX5_init_110 : decode cX5_init 110 = .ok (.new 61, 3) := by decide +kernel
theorem dX5_init_113 : decode cX5_init 113 = .ok (.dup, 1) := by decide +kernel
theorem dX5_init_114 : decode cX5_init 114 = .ok (.invokespecial 63, 3) := by decide +kernel
theorem dX5_init_117 : decode cX5_init 117 = .ok (.putfield 64, 3) := by decide +kernel
theorem dX5_init_120 : decode cX5_init 120 = .ok (.return_, 1) := by decide +kernel
theorem dX5_empty_0 : decode cX5_empty 0 = .ok (.aload_n 0, 1) := by decide +kernel
theorem dX5_empty_1 : decode cX5_empty 1 = .ok (.iconst 0, 1) := by decide +kernel
theorem dX5_empty_2 : decode cX5_empty 2 = .ok (.putfield 9, 3) := by decide +kernel
theorem dX5_empty_5 : decode cX5_empty 5 = .ok (.aload_n 0, 1) := by decide +kernel
theorem dX5_empty_6 : decode cX5_empty 6 = .ok (.iconst 0, 1) := by decide +kernel
theorem dX5_empty_7 : decode cX5_empty 7 = .ok (.putfield 15, 3) := by decide +kernel
theorem dX5_empty_10 : decode cX5_empty 10 = .ok (.aload_n 0, 1) := by decide +kernel
theorem dX5_empty_11 : decode cX5_empty 11 = .ok (.iconst 0, 1) := by decide +kernel
theorem dX5_empty_12 : decode cX5_empty 12 = .ok (.putfield 18, 3) := by decide +kernel
theorem dX5_empty_15 : decode cX5_empty 15 = .ok (.aload_n 0, 1) := by decide +kernel
theorem dX5_empty_16 : decode cX5_empty 16 = .ok (.iconst 0, 1) := by decide +kernel
theorem dX5_empty_17 : decode cX5_empty 17 = .ok (.putfield 21, 3) := by decide +kernel
theorem dX5_empty_20 : decode cX5_empty 20 = .ok (.aload_n 0, 1) := by decide +kernel
theorem dX5_empty_21 : decode cX5_empty 21 = .ok (.iconst 0, 1) := by decide +kernel
theorem dX5_empty_22 : decode cX5_empty 22 = .ok (.putfield 24, 3) := by decide +kernel
theorem dX5_empty_25 : decode cX5_empty 25 = .ok (.aload_n 0, 1) := by decide +kernel
theorem dX5_empty_26 : decode cX5_empty 26 = .ok (.iconst 0, 1) := by decide +kernel
theorem dX5_empty_27 : decode cX5_empty 27 = .ok (.putfield 37, 3) := by decide +kernel
theorem dX5_empty_30 : decode cX5_empty 30 = .ok (.aload_n 0, 1) := by decide +kernel
theorem dX5_empty_31 : decode cX5_empty 31 = .ok (.iconst 0, 1) := by decide +kernel
theorem dX5_empty_32 : decode cX5_empty 32 = .ok (.putfield 52, 3) := by decide +kernel
theorem dX5_empty_35 : decode cX5_empty 35 = .ok (.aload_n 0, 1) := by decide +kernel
theorem dX5_empty_36 : decode cX5_empty 36 = .ok (.getfield 64, 3) := by decide +kernel
theorem dX5_empty_39 : decode cX5_empty 39 = .ok (.invokevirtual 68, 3) := by decide +kernel
theorem dX5_empty_42 : decode cX5_empty 42 = .ok (.return_, 1) := by decide +kernel
theorem dX5_addSong_0 : decode cX5_addSong 0 = .ok (.aload_n 0, 1) := by decide +kernel
theorem dX5_addSong_1 : decode cX5_addSong 1 = .ok (.getfield 24, 3) := by decide +kernel
theorem dX5_addSong_4 : decode cX5_addSong 4 = .ok (.bipush 6, 2) := by decide +kernel
theorem dX5_addSong_6 : decode cX5_addSong 6 = .ok (.if_icmp .ge 43, 3) := by decide +kernel
theorem dX5_addSong_9 : decode cX5_addSong 9 = .ok (.aload_n 0, 1) := by decide +kernel
theorem dX5_addSong_10 : decode cX5_addSong 10 = .ok (.getfield 27, 3) := by decide +kernel
theorem dX5_addSong_13 : decode cX5_addSong 13 = .ok (.aload_n 0, 1) := by decide +kernel
theorem dX5_addSong_14 : decode cX5_addSong 14 = .ok (.getfield 24, 3) := by decide +kernel
theorem dX5_addSong_17 : decode cX5_addSong 17 = .ok (.iload_n 1, 1) := by decide +kernel
theorem dX5_addSong_18 : decode cX5_addSong 18 = .ok (.iastore, 1) := by decide +kernel
theorem dX5_addSong_19 : decode cX5_addSong 19 = .ok (.aload_n 0, 1) := by decide +kernel
theorem dX5_addSong_20 : decode cX5_addSong 20 = .ok (.getfield 31, 3) := by decide +kernel
theorem dX5_addSong_23 : decode cX5_addSong 23 = .ok (.aload_n 0, 1) := by decide +kernel
theorem dX5_addSong_24 : decode cX5_addSong 24 = .ok (.getfield 24, 3) := by decide +kernel
theorem dX5_addSong_27 : decode cX5_addSong 27 = .ok (.iload_n 2, 1) := by decide +kernel
theorem dX5_addSong_28 : decode cX5_addSong 28 = .ok (.iastore, 1) := by decide +kernel
theorem dX5_addSong_29 : decode cX5_addSong 29 = .ok (.aload_n 0, 1) := by decide +kernel
theorem dX5_addSong_30 : decode cX5_addSong 30 = .ok (.getfield 34, 3) := by decide +kernel
theorem dX5_addSong_33 : decode cX5_addSong 33 = .ok (.aload_n 0, 1) := by decide +kernel
theorem dX5_addSong_34 : decode cX5_addSong 34 = .ok (.getfield 24, 3) := by decide +kernel
theorem dX5_addSong_37 : decode cX5_addSong 37 = .ok (.iload_n 3, 1) := by decide +kernel
theorem dX5_addSong_38 : decode cX5_addSong 38 = .ok (.iastore, 1) := by decide +kernel
theorem dX5_addSong_39 : decode cX5_addSong 39 = .ok (.aload_n 0, 1) := by decide +kernel
theorem dX5_addSong_40 : decode cX5_addSong 40 = .ok (.dup, 1) := by decide +kernel
theorem dX5_addSong_41 : decode cX5_addSong 41 = .ok (.getfield 24, 3) := by decide +kernel
theorem dX5_addSong_44 : decode cX5_addSong 44 = .ok (.iconst 1, 1) := by decide +kernel
theorem dX5_addSong_45 : decode cX5_addSong 45 = .ok (.iadd, 1) := by decide +kernel
theorem dX5_addSong_46 : decode cX5_addSong 46 = .ok (.putfield 24, 3) := by decide +kernel
theorem dX5_addSong_49 : decode cX5_addSong 49 = .ok (.return_, 1) := by decide +kernel
theorem dX5_addAsker_0 : decode cX5_addAsker 0 = .ok (.aload_n 0, 1) := by decide +kernel
theorem dX5_addAsker_1 : decode cX5_addAsker 1 = .ok (.getfield 37, 3) := by decide +kernel
theorem dX5_addAsker_4 : decode cX5_addAsker 4 = .ok (.bipush 8, 2) := by decide +kernel
theorem dX5_addAsker_6 : decode cX5_addAsker 6 = .ok (.if_icmp .ge 54, 3) := by decide +kernel
theorem dX5_addAsker_9 : decode cX5_addAsker 9 = .ok (.aload_n 0, 1) := by decide +kernel
theorem dX5_addAsker_10 : decode cX5_addAsker 10 = .ok (.getfield 40, 3) := by decide +kernel
theorem dX5_addAsker_13 : decode cX5_addAsker 13 = .ok (.aload_n 0, 1) := by decide +kernel
theorem dX5_addAsker_14 : decode cX5_addAsker 14 = .ok (.getfield 37, 3) := by decide +kernel
theorem dX5_addAsker_17 : decode cX5_addAsker 17 = .ok (.iload_n 1, 1) := by decide +kernel
theorem dX5_addAsker_18 : decode cX5_addAsker 18 = .ok (.iastore, 1) := by decide +kernel
theorem dX5_addAsker_19 : decode cX5_addAsker 19 = .ok (.aload_n 0, 1) := by decide +kernel
theorem dX5_addAsker_20 : decode cX5_addAsker 20 = .ok (.getfield 43, 3) := by decide +kernel
theorem dX5_addAsker_23 : decode cX5_addAsker 23 = .ok (.aload_n 0, 1) := by decide +kernel
theorem dX5_addAsker_24 : decode cX5_addAsker 24 = .ok (.getfield 37, 3) := by decide +kernel
theorem dX5_addAsker_27 : decode cX5_addAsker 27 = .ok (.iload_n 2, 1) := by decide +kernel
theorem dX5_addAsker_28 : decode cX5_addAsker 28 = .ok (.iastore, 1) := by decide +kernel
theorem dX5_addAsker_29 : decode cX5_addAsker 29 = .ok (.aload_n 0, 1) := by decide +kernel
theorem dX5_addAsker_30 : decode cX5_addAsker 30 = .ok (.getfield 46, 3) := by decide +kernel
theorem dX5_addAsker_33 : decode cX5_addAsker 33 = .ok (.aload_n 0, 1) := by decide +kernel
theorem dX5_addAsker_34 : decode cX5_addAsker 34 = .ok (.getfield 37, 3) := by decide +kernel
theorem dX5_addAsker_37 : decode cX5_addAsker 37 = .ok (.iload_n 3, 1) := by decide +kernel
theorem dX5_addAsker_38 : decode cX5_addAsker 38 = .ok (.iastore, 1) := by decide +kernel
theorem dX5_addAsker_39 : decode cX5_addAsker 39 = .ok (.aload_n 0, 1) := by decide +kernel
theorem dX5_addAsker_40 : decode cX5_addAsker 40 = .ok (.getfield 49, 3) := by decide +kernel
theorem dX5_addAsker_43 : decode cX5_addAsker 43 = .ok (.aload_n 0, 1) := by decide +kernel
theorem dX5_addAsker_44 : decode cX5_addAsker 44 = .ok (.getfield 37, 3) := by decide +kernel
theorem dX5_addAsker_47 : decode cX5_addAsker 47 = .ok (.iload 4, 2) := by decide +kernel
theorem dX5_addAsker_49 : decode cX5_addAsker 49 = .ok (.iastore, 1) := by decide +kernel
theorem dX5_addAsker_50 : decode cX5_addAsker 50 = .ok (.aload_n 0, 1) := by decide +kernel
theorem dX5_addAsker_51 : decode cX5_addAsker 51 = .ok (.dup, 1) := by decide +kernel
theorem dX5_addAsker_52 : decode cX5_addAsker 52 = .ok (.getfield 37, 3) := by decide +kernel
theorem dX5_addAsker_55 : decode cX5_addAsker 55 = .ok (.iconst 1, 1) := by decide +kernel
theorem dX5_addAsker_56 : decode cX5_addAsker 56 = .ok (.iadd, 1) := by decide +kernel
theorem dX5_addAsker_57 : decode cX5_addAsker 57 = .ok (.putfield 37, 3) := by decide +kernel
theorem dX5_addAsker_60 : decode cX5_addAsker 60 = .ok (.return_, 1) := by decide +kernel
theorem dX5_addEar_0 : decode cX5_addEar 0 = .ok (.aload_n 0, 1) := by decide +kernel
theorem dX5_addEar_1 : decode cX5_addEar 1 = .ok (.getfield 52, 3) := by decide +kernel
theorem dX5_addEar_4 : decode cX5_addEar 4 = .ok (.iconst 5, 1) := by decide +kernel
theorem dX5_addEar_5 : decode cX5_addEar 5 = .ok (.if_icmp .ge 33, 3) := by decide +kernel
theorem dX5_addEar_8 : decode cX5_addEar 8 = .ok (.aload_n 0, 1) := by decide +kernel
theorem dX5_addEar_9 : decode cX5_addEar 9 = .ok (.getfield 55, 3) := by decide +kernel
theorem dX5_addEar_12 : decode cX5_addEar 12 = .ok (.aload_n 0, 1) := by decide +kernel
theorem dX5_addEar_13 : decode cX5_addEar 13 = .ok (.getfield 52, 3) := by decide +kernel
theorem dX5_addEar_16 : decode cX5_addEar 16 = .ok (.iload_n 1, 1) := by decide +kernel
theorem dX5_addEar_17 : decode cX5_addEar 17 = .ok (.iastore, 1) := by decide +kernel
theorem dX5_addEar_18 : decode cX5_addEar 18 = .ok (.aload_n 0, 1) := by decide +kernel
theorem dX5_addEar_19 : decode cX5_addEar 19 = .ok (.getfield 58, 3) := by decide +kernel
theorem dX5_addEar_22 : decode cX5_addEar 22 = .ok (.aload_n 0, 1) := by decide +kernel
theorem dX5_addEar_23 : decode cX5_addEar 23 = .ok (.getfield 52, 3) := by decide +kernel
theorem dX5_addEar_26 : decode cX5_addEar 26 = .ok (.iload_n 2, 1) := by decide +kernel
theorem dX5_addEar_27 : decode cX5_addEar 27 = .ok (.iastore, 1) := by decide +kernel
theorem dX5_addEar_28 : decode cX5_addEar 28 = .ok (.aload_n 0, 1) := by decide +kernel
theorem dX5_addEar_29 : decode cX5_addEar 29 = .ok (.dup, 1) := by decide +kernel
theorem dX5_addEar_30 : decode cX5_addEar 30 = .ok (.getfield 52, 3) := by decide +kernel
theorem dX5_addEar_33 : decode cX5_addEar 33 = .ok (.iconst 1, 1) := by decide +kernel
theorem dX5_addEar_34 : decode cX5_addEar 34 = .ok (.iadd, 1) := by decide +kernel
theorem dX5_addEar_35 : decode cX5_addEar 35 = .ok (.putfield 52, 3) := by decide +kernel
theorem dX5_addEar_38 : decode cX5_addEar 38 = .ok (.return_, 1) := by decide +kernel
theorem dX5_findSong_0 : decode cX5_findSong 0 = .ok (.iconst 0, 1) := by decide +kernel
theorem dX5_findSong_1 : decode cX5_findSong 1 = .ok (.istore_n 2, 1) := by decide +kernel
theorem dX5_findSong_2 : decode cX5_findSong 2 = .ok (.iload_n 2, 1) := by decide +kernel
theorem dX5_findSong_3 : decode cX5_findSong 3 = .ok (.aload_n 0, 1) := by decide +kernel
theorem dX5_findSong_4 : decode cX5_findSong 4 = .ok (.getfield 24, 3) := by decide +kernel
theorem dX5_findSong_7 : decode cX5_findSong 7 = .ok (.if_icmp .ge 21, 3) := by decide +kernel
theorem dX5_findSong_10 : decode cX5_findSong 10 = .ok (.aload_n 0, 1) := by decide +kernel
theorem dX5_findSong_11 : decode cX5_findSong 11 = .ok (.getfield 27, 3) := by decide +kernel
theorem dX5_findSong_14 : decode cX5_findSong 14 = .ok (.iload_n 2, 1) := by decide +kernel
theorem dX5_findSong_15 : decode cX5_findSong 15 = .ok (.iaload, 1) := by decide +kernel
theorem dX5_findSong_16 : decode cX5_findSong 16 = .ok (.iload_n 1, 1) := by decide +kernel
theorem dX5_findSong_17 : decode cX5_findSong 17 = .ok (.if_icmp .ne 5, 3) := by decide +kernel
theorem dX5_findSong_20 : decode cX5_findSong 20 = .ok (.iload_n 2, 1) := by decide +kernel
theorem dX5_findSong_21 : decode cX5_findSong 21 = .ok (.ireturn, 1) := by decide +kernel
theorem dX5_findSong_22 : decode cX5_findSong 22 = .ok (.iinc 2 1, 3) := by decide +kernel
theorem dX5_findSong_25 : decode cX5_findSong 25 = .ok (.goto (-23), 3) := by decide +kernel
theorem dX5_findSong_28 : decode cX5_findSong 28 = .ok (.iconst (-1), 1) := by decide +kernel
theorem dX5_findSong_29 : decode cX5_findSong 29 = .ok (.ireturn, 1) := by decide +kernel
theorem dX5_hasName_0 : decode cX5_hasName 0 = .ok (.aload_n 0, 1) := by decide +kernel
theorem dX5_hasName_1 : decode cX5_hasName 1 = .ok (.iload_n 1, 1) := by decide +kernel
theorem dX5_hasName_2 : decode cX5_hasName 2 = .ok (.invokevirtual 71, 3) := by decide +kernel
theorem dX5_hasName_5 : decode cX5_hasName 5 = .ok (.iconst (-1), 1) := by decide +kernel
theorem dX5_hasName_6 : decode cX5_hasName 6 = .ok (.if_icmp .eq 5, 3) := by decide +kernel
theorem dX5_hasName_9 : decode cX5_hasName 9 = .ok (.iconst 1, 1) := by decide +kernel
theorem dX5_hasName_10 : decode cX5_hasName 10 = .ok (.ireturn, 1) := by decide +kernel
theorem dX5_hasName_11 : decode cX5_hasName 11 = .ok (.iconst 0, 1) := by decide +kernel
theorem dX5_hasName_12 : decode cX5_hasName 12 = .ok (.istore_n 2, 1) := by decide +kernel
theorem dX5_hasName_13 : decode cX5_hasName 13 = .ok (.iload_n 2, 1) := by decide +kernel
theorem dX5_hasName_14 : decode cX5_hasName 14 = .ok (.aload_n 0, 1) := by decide +kernel
theorem dX5_hasName_15 : decode cX5_hasName 15 = .ok (.getfield 37, 3) := by decide +kernel
theorem dX5_hasName_18 : decode cX5_hasName 18 = .ok (.if_icmp .ge 21, 3) := by decide +kernel
theorem dX5_hasName_21 : decode cX5_hasName 21 = .ok (.aload_n 0, 1) := by decide +kernel
theorem dX5_hasName_22 : decode cX5_hasName 22 = .ok (.getfield 40, 3) := by decide +kernel
theorem dX5_hasName_25 : decode cX5_hasName 25 = .ok (.iload_n 2, 1) := by decide +kernel
theorem dX5_hasName_26 : decode cX5_hasName 26 = .ok (.iaload, 1) := by decide +kernel
theorem dX5_hasName_27 : decode cX5_hasName 27 = .ok (.iload_n 1, 1) := by decide +kernel
theorem dX5_hasName_28 : decode cX5_hasName 28 = .ok (.if_icmp .ne 5, 3) := by decide +kernel
theorem dX5_hasName_31 : decode cX5_hasName 31 = .ok (.iconst 1, 1) := by decide +kernel
theorem dX5_hasName_32 : decode cX5_hasName 32 = .ok (.ireturn, 1) := by decide +kernel
theorem dX5_hasName_33 : decode cX5_hasName 33 = .ok (.iinc 2 1, 3) := by decide +kernel
theorem dX5_hasName_36 : decode cX5_hasName 36 = .ok (.goto (-23), 3) := by decide +kernel
theorem dX5_hasName_39 : decode cX5_hasName 39 = .ok (.iconst 0, 1) := by decide +kernel
theorem dX5_hasName_40 : decode cX5_hasName 40 = .ok (.istore_n 2, 1) := by decide +kernel
theorem dX5_hasName_41 : decode cX5_hasName 41 = .ok (.iload_n 2, 1) := by decide +kernel
theorem dX5_hasName_42 : decode cX5_hasName 42 = .ok (.aload_n 0, 1) := by decide +kernel
theorem dX5_hasName_43 : decode cX5_hasName 43 = .ok (.getfield 52, 3) := by decide +kernel
theorem dX5_hasName_46 : decode cX5_hasName 46 = .ok (.if_icmp .ge 21, 3) := by decide +kernel
theorem dX5_hasName_49 : decode cX5_hasName 49 = .ok (.aload_n 0, 1) := by decide +kernel
theorem dX5_hasName_50 : decode cX5_hasName 50 = .ok (.getfield 55, 3) := by decide +kernel
theorem dX5_hasName_53 : decode cX5_hasName 53 = .ok (.iload_n 2, 1) := by decide +kernel
theorem dX5_hasName_54 : decode cX5_hasName 54 = .ok (.iaload, 1) := by decide +kernel
theorem dX5_hasName_55 : decode cX5_hasName 55 = .ok (.iload_n 1, 1) := by decide +kernel
theorem dX5_hasName_56 : decode cX5_hasName 56 = .ok (.if_icmp .ne 5, 3) := by decide +kernel
theorem dX5_hasName_59 : decode cX5_hasName 59 = .ok (.iconst 1, 1) := by decide +kernel
theorem dX5_hasName_60 : decode cX5_hasName 60 = .ok (.ireturn, 1) := by decide +kernel
theorem dX5_hasName_61 : decode cX5_hasName 61 = .ok (.iinc 2 1, 3) := by decide +kernel
theorem dX5_hasName_64 : decode cX5_hasName 64 = .ok (.goto (-23), 3) := by decide +kernel
theorem dX5_hasName_67 : decode cX5_hasName 67 = .ok (.iconst 0, 1) := by decide +kernel
theorem dX5_hasName_68 : decode cX5_hasName 68 = .ok (.ireturn, 1) := by decide +kernel
theorem dX5_longOf_0 : decode cX5_longOf 0 = .ok (.iload_n 1, 1) := by decide +kernel
theorem dX5_longOf_1 : decode cX5_longOf 1 = .ok (.ifCond .lt 20, 3) := by decide +kernel
theorem dX5_longOf_4 : decode cX5_longOf 4 = .ok (.iload_n 1, 1) := by decide +kernel
theorem dX5_longOf_5 : decode cX5_longOf 5 = .ok (.aload_n 0, 1) := by decide +kernel
theorem dX5_longOf_6 : decode cX5_longOf 6 = .ok (.getfield 24, 3) := by decide +kernel
theorem dX5_longOf_9 : decode cX5_longOf 9 = .ok (.if_icmp .ge 12, 3) := by decide +kernel
theorem dX5_longOf_12 : decode cX5_longOf 12 = .ok (.aload_n 0, 1) := by decide +kernel
theorem dX5_longOf_13 : decode cX5_longOf 13 = .ok (.getfield 31, 3) := by decide +kernel
theorem dX5_longOf_16 : decode cX5_longOf 16 = .ok (.iload_n 1, 1) := by decide +kernel
theorem dX5_longOf_17 : decode cX5_longOf 17 = .ok (.iaload, 1) := by decide +kernel
theorem dX5_longOf_18 : decode cX5_longOf 18 = .ok (.goto 4, 3) := by decide +kernel
theorem dX5_longOf_21 : decode cX5_longOf 21 = .ok (.iconst 0, 1) := by decide +kernel
theorem dX5_longOf_22 : decode cX5_longOf 22 = .ok (.ireturn, 1) := by decide +kernel
theorem dX5_styleOf_0 : decode cX5_styleOf 0 = .ok (.iload_n 1, 1) := by decide +kernel
theorem dX5_styleOf_1 : decode cX5_styleOf 1 = .ok (.ifCond .lt 20, 3) := by decide +kernel
theorem dX5_styleOf_4 : decode cX5_styleOf 4 = .ok (.iload_n 1, 1) := by decide +kernel
theorem dX5_styleOf_5 : decode cX5_styleOf 5 = .ok (.aload_n 0, 1) := by decide +kernel
theorem dX5_styleOf_6 : decode cX5_styleOf 6 = .ok (.getfield 24, 3) := by decide +kernel
theorem dX5_styleOf_9 : decode cX5_styleOf 9 = .ok (.if_icmp .ge 12, 3) := by decide +kernel
theorem dX5_styleOf_12 : decode cX5_styleOf 12 = .ok (.aload_n 0, 1) := by decide +kernel
theorem dX5_styleOf_13 : decode cX5_styleOf 13 = .ok (.getfield 34, 3) := by decide +kernel
theorem dX5_styleOf_16 : decode cX5_styleOf 16 = .ok (.iload_n 1, 1) := by decide +kernel
theorem dX5_styleOf_17 : decode cX5_styleOf 17 = .ok (.iaload, 1) := by decide +kernel
theorem dX5_styleOf_18 : decode cX5_styleOf 18 = .ok (.goto 4, 3) := by decide +kernel
theorem dX5_styleOf_21 : decode cX5_styleOf 21 = .ok (.iconst 0, 1) := by decide +kernel
theorem dX5_styleOf_22 : decode cX5_styleOf 22 = .ok (.ireturn, 1) := by decide +kernel
theorem dX5_addDefaults_0 : decode cX5_addDefaults 0 = .ok (.aload_n 0, 1) := by decide +kernel
theorem dX5_addDefaults_1 : decode cX5_addDefaults 1 = .ok (.getfield 64, 3) := by decide +kernel
theorem dX5_addDefaults_4 : decode cX5_addDefaults 4 = .ok (.iconst 0, 1) := by decide +kernel
theorem dX5_addDefaults_5 : decode cX5_addDefaults 5 = .ok (.invokevirtual 75, 3) := by decide +kernel
theorem dX5_addDefaults_8 : decode cX5_addDefaults 8 = .ok (.ifCond .ne 47, 3) := by decide +kernel
theorem dX5_addDefaults_11 : decode cX5_addDefaults 11 = .ok (.aload_n 0, 1) := by decide +kernel
theorem dX5_addDefaults_12 : decode cX5_addDefaults 12 = .ok (.getfield 64, 3) := by decide +kernel
theorem dX5_addDefaults_15 : decode cX5_addDefaults 15 = .ok (.iconst 0, 1) := by decide +kernel
theorem dX5_addDefaults_16 : decode cX5_addDefaults 16 = .ok (.invokevirtual 79, 3) := by decide +kernel
theorem dX5_addDefaults_19 : decode cX5_addDefaults 19 = .ok (.aload_n 0, 1) := by decide +kernel
theorem dX5_addDefaults_20 : decode cX5_addDefaults 20 = .ok (.getfield 64, 3) := by decide +kernel
theorem dX5_addDefaults_23 : decode cX5_addDefaults 23 = .ok (.sipush 10107, 3) := by decide +kernel
theorem dX5_addDefaults_26 : decode cX5_addDefaults 26 = .ok (.invokevirtual 83, 3) := by decide +kernel
theorem dX5_addDefaults_29 : decode cX5_addDefaults 29 = .ok (.aload_n 0, 1) := by decide +kernel
theorem dX5_addDefaults_30 : decode cX5_addDefaults 30 = .ok (.getfield 64, 3) := by decide +kernel
theorem dX5_addDefaults_33 : decode cX5_addDefaults 33 = .ok (.iconst 1, 1) := by decide +kernel
theorem dX5_addDefaults_34 : decode cX5_addDefaults 34 = .ok (.invokevirtual 83, 3) := by decide +kernel
theorem dX5_addDefaults_37 : decode cX5_addDefaults 37 = .ok (.aload_n 0, 1) := by decide +kernel
theorem dX5_addDefaults_38 : decode cX5_addDefaults 38 = .ok (.getfield 64, 3) := by decide +kernel
theorem dX5_addDefaults_41 : decode cX5_addDefaults 41 = .ok (.sipush 10001, 3) := by decide +kernel
theorem dX5_addDefaults_44 : decode cX5_addDefaults 44 = .ok (.invokevirtual 83, 3) := by decide +kernel
theorem dX5_addDefaults_47 : decode cX5_addDefaults 47 = .ok (.aload_n 0, 1) := by decide +kernel
theorem dX5_addDefaults_48 : decode cX5_addDefaults 48 = .ok (.getfield 64, 3) := by decide +kernel
theorem dX5_addDefaults_51 : decode cX5_addDefaults 51 = .ok (.iconst 0, 1) := by decide +kernel
theorem dX5_addDefaults_52 : decode cX5_addDefaults 52 = .ok (.invokevirtual 86, 3) := by decide +kernel
theorem dX5_addDefaults_55 : decode cX5_addDefaults 55 = .ok (.aload_n 0, 1) := by decide +kernel
theorem dX5_addDefaults_56 : decode cX5_addDefaults 56 = .ok (.getfield 64, 3) := by decide +kernel
theorem dX5_addDefaults_59 : decode cX5_addDefaults 59 = .ok (.iconst 1, 1) := by decide +kernel
theorem dX5_addDefaults_60 : decode cX5_addDefaults 60 = .ok (.invokevirtual 75, 3) := by decide +kernel
theorem dX5_addDefaults_63 : decode cX5_addDefaults 63 = .ok (.ifCond .ne 27, 3) := by decide +kernel
theorem dX5_addDefaults_66 : decode cX5_addDefaults 66 = .ok (.aload_n 0, 1) := by decide +kernel
theorem dX5_addDefaults_67 : decode cX5_addDefaults 67 = .ok (.getfield 64, 3) := by decide +kernel
theorem dX5_addDefaults_70 : decode cX5_addDefaults 70 = .ok (.iconst 1, 1) := by decide +kernel
theorem dX5_addDefaults_71 : decode cX5_addDefaults 71 = .ok (.invokevirtual 79, 3) := by decide +kernel
theorem dX5_addDefaults_74 : decode cX5_addDefaults 74 = .ok (.aload_n 0, 1) := by decide +kernel
theorem dX5_addDefaults_75 : decode cX5_addDefaults 75 = .ok (.getfield 64, 3) := by decide +kernel
theorem dX5_addDefaults_78 : decode cX5_addDefaults 78 = .ok (.iconst 1, 1) := by decide +kernel
theorem dX5_addDefaults_79 : decode cX5_addDefaults 79 = .ok (.invokevirtual 83, 3) := by decide +kernel
theorem dX5_addDefaults_82 : decode cX5_addDefaults 82 = .ok (.aload_n 0, 1) := by decide +kernel
theorem dX5_addDefaults_83 : decode cX5_addDefaults 83 = .ok (.getfield 64, 3) := by decide +kernel
theorem dX5_addDefaults_86 : decode cX5_addDefaults 86 = .ok (.iconst 1, 1) := by decide +kernel
theorem dX5_addDefaults_87 : decode cX5_addDefaults 87 = .ok (.invokevirtual 86, 3) := by decide +kernel
theorem dX5_addDefaults_90 : decode cX5_addDefaults 90 = .ok (.aload_n 0, 1) := by decide +kernel
theorem dX5_addDefaults_91 : decode cX5_addDefaults 91 = .ok (.getfield 64, 3) := by decide +kernel
theorem dX5_addDefaults_94 : decode cX5_addDefaults 94 = .ok (.iconst 2, 1) := by decide +kernel
theorem dX5_addDefaults_95 : decode cX5_addDefaults 95 = .ok (.invokevirtual 75, 3) := by decide +kernel
theorem dX5_addDefaults_98 : decode cX5_addDefaults 98 = .ok (.ifCond .ne 29, 3) := by decide +kernel
theorem dX5_addDefaults_101 : decode cX5_addDefaults 101 = .ok (.aload_n 0, 1) := by decide +kernel
theorem dX5_addDefaults_102 : decode cX5_addDefaults 102 = .ok (.getfield 64, 3) := by decide +kernel
theorem dX5_addDefaults_105 : decode cX5_addDefaults 105 = .ok (.iconst 2, 1) := by decide +kernel
theorem dX5_addDefaults_106 : decode cX5_addDefaults 106 = .ok (.invokevirtual 79, 3) := by decide +kernel
theorem dX5_addDefaults_109 : decode cX5_addDefaults 109 = .ok (.aload_n 0, 1) := by decide +kernel
theorem dX5_addDefaults_110 : decode cX5_addDefaults 110 = .ok (.getfield 64, 3) := by decide +kernel
theorem dX5_addDefaults_113 : decode cX5_addDefaults 113 = .ok (.sipush 10107, 3) := by decide +kernel
theorem dX5_addDefaults_116 : decode cX5_addDefaults 116 = .ok (.invokevirtual 83, 3) := by decide +kernel
theorem dX5_addDefaults_119 : decode cX5_addDefaults 119 = .ok (.aload_n 0, 1) := by decide +kernel
theorem dX5_addDefaults_120 : decode cX5_addDefaults 120 = .ok (.getfield 64, 3) := by decide +kernel
theorem dX5_addDefaults_123 : decode cX5_addDefaults 123 = .ok (.iconst 2, 1) := by decide +kernel
theorem dX5_addDefaults_124 : decode cX5_addDefaults 124 = .ok (.invokevirtual 86, 3) := by decide +kernel
theorem dX5_addDefaults_127 : decode cX5_addDefaults 127 = .ok (.return_, 1) := by decide +kernel
theorem dX6_init_0 : decode cX6_init 0 = .ok (.aload_n 0, 1) := by decide +kernel
theorem dX6_init_1 : decode cX6_init 1 = .ok (.invokespecial 3, 3) := by decide +kernel
theorem dX6_init_4 : decode cX6_init 4 = .ok (.aload_n 0, 1) := by decide +kernel
theorem dX6_init_5 : decode cX6_init 5 = .ok (.bipush 34, 2) := by decide +kernel
theorem dX6_init_7 : decode cX6_init 7 = .ok (.newarray .int, 2) := by decide +kernel
theorem dX6_init_9 : decode cX6_init 9 = .ok (.putfield 9, 3) := by decide +kernel
theorem dX6_init_12 : decode cX6_init 12 = .ok (.aload_n 0, 1) := by decide +kernel
theorem dX6_init_13 : decode cX6_init 13 = .ok (.iconst 0, 1) := by decide +kernel
theorem dX6_init_14 : decode cX6_init 14 = .ok (.newarray .byte, 2) := by decide +kernel
theorem dX6_init_16 : decode cX6_init 16 = .ok (.putfield 15, 3) := by decide +kernel
theorem dX6_init_19 : decode cX6_init 19 = .ok (.aload_n 0, 1) := by decide +kernel
theorem dX6_init_20 : decode cX6_init 20 = .ok (.iconst 0, 1) := by decide +kernel
theorem dX6_init_21 : decode cX6_init 21 = .ok (.putfield 19, 3) := by decide +kernel
theorem dX6_init_24 : decode cX6_init 24 = .ok (.aload_n 0, 1) := by decide +kernel
theorem dX6_init_25 : decode cX6_init 25 = .ok (.iconst 0, 1) := by decide +kernel
theorem dX6_init_26 : decode cX6_init 26 = .ok (.putfield 23, 3) := by decide +kernel
theorem dX6_init_29 : decode cX6_init 29 = .ok (.aload_n 0, 1) := by decide +kernel
theorem dX6_init_30 : decode cX6_init 30 = .ok (.iconst 0, 1) := by decide +kernel
theorem dX6_init_31 : decode cX6_init 31 = .ok (.putfield 26, 3) := by decide +kernel
theorem dX6_init_34 : decode cX6_init 34 = .ok (.aload_n 0, 1) := by decide +kernel
theorem dX6_init_35 : decode cX6_init 35 = .ok (.iconst 0, 1) := by decide +kernel
theorem dX6_init_36 : decode cX6_init 36 = .ok (.putfield 29, 3) := by decide +kernel
theorem dX6_init_39 : decode cX6_init 39 = .ok (.aload_n 0, 1) := by decide +kernel
theorem dX6_init_40 : decode cX6_init 40 = .ok (.iconst 0, 1) := by decide +kernel
theorem dX6_init_41 : decode cX6_init 41 = .ok (.putfield 32, 3) := by decide +kernel
theorem dX6_init_44 : decode cX6_init 44 = .ok (.aload_n 0, 1) := by decide +kernel
theorem dX6_init_45 : decode cX6_init 45 = .ok (.iconst 0, 1) := by decide +kernel
theorem dX6_init_46 : decode cX6_init 46 = .ok (.putfield 35, 3) := by decide +kernel
theorem dX6_init_49 : decode cX6_init 49 = .ok (.aload_n 0, 1) := by decide +kernel
theorem dX6_init_50 : decode cX6_init 50 = .ok (.iconst (-1), 1) := by decide +kernel
theorem dX6_init_51 : decode cX6_init 51 = .ok (.putfield 38, 3) := by decide +kernel
theorem dX6_init_54 : decode cX6_init 54 = .ok (.iconst 0, 1) := by decide +kernel
theorem dX6_init_55 : decode cX6_init 55 = .ok (.istore_n 1, 1) := by decide +kernel
theorem dX6_init_56 : decode cX6_init 56 = .ok (.iload_n 1, 1) := by decide +kernel
theorem dX6_init_57 : decode cX6_init 57 = .ok (.bipush 34, 2) := by decide +kernel
theorem dX6_init_59 : decode cX6_init 59 = .ok (.if_icmp .ge 19, 3) := by decide +kernel
theorem dX6_init_62 : decode cX6_init 62 = .ok (.aload_n 0, 1) := by decide +kernel
theorem dX6_init_63 : decode cX6_init 63 = .ok (.getfield 9, 3) := by decide +kernel
theorem dX6_init_66 : decode cX6_init 66 = .ok (.iload_n 1, 1) := by decide +kernel
theorem dX6_init_67 : decode cX6_init 67 = .ok (.iload_n 1, 1) := by decide +kernel
theorem dX6_init_68 : decode cX6_init 68 = .ok (.invokestatic 41, 3) := by decide +kernel
theorem dX6_init_71 : decode cX6_init 71 = .ok (.iastore, 1) := by decide +kernel
theorem dX6_init_72 : decode cX6_init 72 = .ok (.iinc 1 1, 3) := by decide +kernel
theorem dX6_init_75 : decode cX6_init 75 = .ok (.goto (-19), 3) := by decide +kernel
theorem dX6_init_78 : decode cX6_init 78 = .ok (.return_, 1) := by decide +kernel
theorem dX6_packWord_0 : decode cX6_packWord 0 = .ok (.iconst 0, 1) := by decide +kernel
theorem dX6_packWord_1 : decode cX6_packWord 1 = .ok (.istore_n 1, 1) := by decide +kernel
theorem dX6_packWord_2 : decode cX6_packWord 2 = .ok (.iconst 0, 1) := by decide +kernel
theorem dX6_packWord_3 : decode cX6_packWord 3 = .ok (.istore_n 2, 1) := by decide +kernel
theorem dX6_packWord_4 : decode cX6_packWord 4 = .ok (.iload_n 2, 1) := by decide +kernel
theorem dX6_packWord_5 : decode cX6_packWord 5 = .ok (.bipush 6, 2) := by decide +kernel
theorem dX6_packWord_7 : decode cX6_packWord 7 = .ok (.if_icmp .ge 58, 3) := by decide +kernel
theorem dX6_packWord_10 : decode cX6_packWord 10 = .ok (.iload_n 0, 1) := by decide +kernel
theorem dX6_packWord_11 : decode cX6_packWord 11 = .ok (.bipush 6, 2) := by decide +kernel
theorem dX6_packWord_13 : decode cX6_packWord 13 = .ok (.imul, 1) := by decide +kernel
theorem dX6_packWord_14 : decode cX6_packWord 14 = .ok (.iload_n 2, 1) := by decide +kernel
theorem dX6_packWord_15 : decode cX6_packWord 15 = .ok (.iadd, 1) := by decide +kernel
theorem dX6_packWord_16 : decode cX6_packWord 16 = .ok (.istore_n 3, 1) := by decide +kernel
theorem dX6_packWord_17 : decode cX6_packWord 17 = .ok (.iload_n 3, 1) := by decide +kernel
theorem dX6_packWord_18 : decode cX6_packWord 18 = .ok (.ifCond .lt 41, 3) := by decide +kernel
theorem dX6_packWord_21 : decode cX6_packWord 21 = .ok (.iload_n 3, 1) := by decide +kernel
theorem dX6_packWord_22 : decode cX6_packWord 22 = .ok (.ldc 45, 2) := by decide +kernel
theorem dX6_packWord_24 : decode cX6_packWord 24 = .ok (.invokevirtual 47, 3) := by decide +kernel
theorem dX6_packWord_27 : decode cX6_packWord 27 = .ok (.if_icmp .ge 32, 3) := by decide +kernel
theorem dX6_packWord_30 : decode cX6_packWord 30 = .ok (.ldc 45, 2) := by decide +kernel
theorem dX6_packWord_32 : decode cX6_packWord 32 = .ok (.iload_n 3, 1) := by decide +kernel
theorem dX6_packWord_33 : decode cX6_packWord 33 = .ok (.invokevirtual 52, 3) := by decide +kernel
theorem dX6_packWord_36 : decode cX6_packWord 36 = .ok (.bipush 32, 2) := by decide +kernel
theorem dX6_packWord_38 : decode cX6_packWord 38 = .ok (.if_icmp .eq 21, 3) := by decide +kernel
theorem dX6_packWord_41 : decode cX6_packWord 41 = .ok (.iload_n 1, 1) := by decide +kernel
theorem dX6_packWord_42 : decode cX6_packWord 42 = .ok (.ldc 45, 2) := by decide +kernel
theorem dX6_packWord_44 : decode cX6_packWord 44 = .ok (.iload_n 3, 1) := by decide +kernel
theorem dX6_packWord_45 : decode cX6_packWord 45 = .ok (.invokevirtual 52, 3) := by decide +kernel
theorem dX6_packWord_48 : decode cX6_packWord 48 = .ok (.bipush 97, 2) := by decide +kernel
theorem dX6_packWord_50 : decode cX6_packWord 50 = .ok (.isub, 1) := by decide +kernel
theorem dX6_packWord_51 : decode cX6_packWord 51 = .ok (.iconst 1, 1) := by decide +kernel
theorem dX6_packWord_52 : decode cX6_packWord 52 = .ok (.iadd, 1) := by decide +kernel
theorem dX6_packWord_53 : decode cX6_packWord 53 = .ok (.iconst 5, 1) := by decide +kernel
theorem dX6_packWord_54 : decode cX6_packWord 54 = .ok (.iload_n 2, 1) := by decide +kernel
theorem dX6_packWord_55 : decode cX6_packWord 55 = .ok (.imul, 1) := by decide +kernel
theorem dX6_packWord_56 : decode cX6_packWord 56 = .ok (.ishl, 1) := by decide +kernel
theorem dX6_packWord_57 : decode cX6_packWord 57 = .ok (.ior, 1) := by decide +kernel
theorem dX6_packWord_58 : decode cX6_packWord 58 = .ok (.istore_n 1, 1) := by decide +kernel
theorem dX6_packWord_59 : decode cX6_packWord 59 = .ok (.iinc 2 1, 3) := by decide +kernel
theorem dX6_packWord_62 : decode cX6_packWord 62 = .ok (.goto (-58), 3) := by decide +kernel
theorem dX6_packWord_65 : decode cX6_packWord 65 = .ok (.iload_n 1, 1) := by decide +kernel
theorem dX6_packWord_66 : decode cX6_packWord 66 = .ok (.ireturn, 1) := by decide +kernel
theorem dX6_read_0 : decode cX6_read 0 = .ok (.aload_n 0, 1) := by decide +kernel
theorem dX6_read_1 : decode cX6_read 1 = .ok (.aload_n 1, 1) := by decide +kernel
theorem dX6_read_2 : decode cX6_read 2 = .ok (.putfield 15, 3) := by decide +kernel
theorem dX6_read_5 : decode cX6_read 5 = .ok (.aload_n 0, 1) := by decide +kernel
theorem dX6_read_6 : decode cX6_read 6 = .ok (.iconst 0, 1) := by decide +kernel
theorem dX6_read_7 : decode cX6_read 7 = .ok (.iload_n 2, 1) := by decide +kernel
theorem dX6_read_8 : decode cX6_read 8 = .ok (.aload_n 1, 1) := by decide +kernel
theorem dX6_read_9 : decode cX6_read 9 = .ok (.arraylength, 1) := by decide +kernel
theorem dX6_read_10 : decode cX6_read 10 = .ok (.invokestatic 56, 3) := by decide +kernel
theorem dX6_read_13 : decode cX6_read 13 = .ok (.invokestatic 62, 3) := by decide +kernel
theorem dX6_read_16 : decode cX6_read 16 = .ok (.putfield 19, 3) := by decide +kernel
theorem dX6_read_19 : decode cX6_read 19 = .ok (.aload_n 0, 1) := by decide +kernel
theorem dX6_read_20 : decode cX6_read 20 = .ok (.iconst 0, 1) := by decide +kernel
theorem dX6_read_21 : decode cX6_read 21 = .ok (.putfield 23, 3) := by decide +kernel
theorem dX6_read_24 : decode cX6_read 24 = .ok (.aload_n 0, 1) := by decide +kernel
theorem dX6_read_25 : decode cX6_read 25 = .ok (.iconst 0, 1) := by decide +kernel
theorem dX6_read_26 : decode cX6_read 26 = .ok (.putfield 26, 3) := by decide +kernel
theorem dX6_read_29 : decode cX6_read 29 = .ok (.aload_n 0, 1) := by decide +kernel
theorem dX6_read_30 : decode cX6_read 30 = .ok (.iconst 0, 1) := by decide +kernel
theorem dX6_read_31 : decode cX6_read 31 = .ok (.putfield 29, 3) := by decide +kernel
theorem dX6_read_34 : decode cX6_read 34 = .ok (.aload_n 0, 1) := by decide +kernel
theorem dX6_read_35 : decode cX6_read 35 = .ok (.iconst 0, 1) := by decide +kernel
theorem dX6_read_36 : decode cX6_read 36 = .ok (.putfield 35, 3) := by decide +kernel
theorem dX6_read_39 : decode cX6_read 39 = .ok (.aload_n 0, 1) := by decide +kernel
theorem dX6_read_40 : decode cX6_read 40 = .ok (.iconst (-1), 1) := by decide +kernel
theorem dX6_read_41 : decode cX6_read 41 = .ok (.putfield 38, 3) := by decide +kernel
theorem dX6_read_44 : decode cX6_read 44 = .ok (.aload_n 0, 1) := by decide +kernel
theorem dX6_read_45 : decode cX6_read 45 = .ok (.invokevirtual 65, 3) := by decide +kernel
theorem dX6_read_48 : decode cX6_read 48 = .ok (.return_, 1) := by decide +kernel
theorem dX6_fail_0 : decode cX6_fail 0 = .ok (.aload_n 0, 1) := by decide +kernel
theorem dX6_fail_1 : decode cX6_fail 1 = .ok (.getfield 35, 3) := by decide +kernel
theorem dX6_fail_4 : decode cX6_fail 4 = .ok (.ifCond .ne 13, 3) := by decide +kernel
theorem dX6_fail_7 : decode cX6_fail 7 = .ok (.aload_n 0, 1) := by decide +kernel
theorem dX6_fail_8 : decode cX6_fail 8 = .ok (.iload_n 1, 1) := by decide +kernel
theorem dX6_fail_9 : decode cX6_fail 9 = .ok (.putfield 35, 3) := by decide +kernel
theorem dX6_fail_12 : decode cX6_fail 12 = .ok (.aload_n 0, 1) := by decide +kernel
theorem dX6_fail_13 : decode cX6_fail 13 = .ok (.iload_n 2, 1) := by decide +kernel
theorem dX6_fail_14 : decode cX6_fail 14 = .ok (.putfield 38, 3) := by decide +kernel
theorem dX6_fail_17 : decode cX6_fail 17 = .ok (.aload_n 0, 1) := by decide +kernel
theorem dX6_fail_18 : decode cX6_fail 18 = .ok (.bipush 6, 2) := by decide +kernel
theorem dX6_fail_20 : decode cX6_fail 20 = .ok (.putfield 23, 3) := by decide +kernel
theorem dX6_fail_23 : decode cX6_fail 23 = .ok (.return_, 1) := by decide +kernel
theorem dX6_goesOn_0 : decode cX6_goesOn 0 = .ok (.aload_n 0, 1) := by decide +kernel
theorem dX6_goesOn_1 : decode cX6_goesOn 1 = .ok (.getfield 23, 3) := by decide +kernel
theorem dX6_goesOn_4 : decode cX6_goesOn 4 = .ok (.iconst 5, 1) := by decide +kernel
theorem dX6_goesOn_5 : decode cX6_goesOn 5 = .ok (.if_icmp .eq 16, 3) := by decide +kernel
theorem dX6_goesOn_8 : decode cX6_goesOn 8 = .ok (.aload_n 0, 1) := by decide +kernel
theorem dX6_goesOn_9 : decode cX6_goesOn 9 = .ok (.getfield 23, 3) := by decide +kernel
theorem dX6_goesOn_12 : decode cX6_goesOn 12 = .ok (.bipush 6, 2) := by decide +kernel
theorem dX6_goesOn_14 : decode cX6_goesOn 14 = .ok (.if_icmp .eq 7, 3) := by decide +kernel
theorem dX6_goesOn_17 : decode cX6_goesOn 17 = .ok (.iconst 1, 1) := by decide +kernel
theorem dX6_goesOn_18 : decode cX6_goesOn 18 = .ok (.goto 4, 3) := by decide +kernel
theorem dX6_goesOn_21 : decode cX6_goesOn 21 = .ok (.iconst 0, 1) := by decide +kernel
theorem dX6_goesOn_22 : decode cX6_goesOn 22 = .ok (.ireturn, 1) := by decide +kernel
theorem dX6_take_0 : decode cX6_take 0 = .ok (.aload_n 0, 1) := by decide +kernel
theorem dX6_take_1 : decode cX6_take 1 = .ok (.getfield 23, 3) := by decide +kernel
theorem dX6_take_4 : decode cX6_take 4 = .ok (.bipush 6, 2) := by decide +kernel
theorem dX6_take_6 : decode cX6_take 6 = .ok (.if_icmp .ne 4, 3) := by decide +kernel
theorem dX6_take_9 : decode cX6_take 9 = .ok (.return_, 1) := by decide +kernel
theorem dX6_take_10 : decode cX6_take 10 = .ok (.aload_n 0, 1) := by decide +kernel
theorem dX6_take_11 : decode cX6_take 11 = .ok (.getfield 23, 3) := by decide +kernel
theorem dX6_take_14 : decode cX6_take 14 = .ok (.iconst 1, 1) := by decide +kernel
theorem dX6_take_15 : decode cX6_take 15 = .ok (.if_icmp .eq 11, 3) := by decide +kernel
theorem dX6_take_18 : decode cX6_take 18 = .ok (.aload_n 0, 1) := by decide +kernel
theorem dX6_take_19 : decode cX6_take 19 = .ok (.getfield 23, 3) := by decide +kernel
theorem dX6_take_22 : decode cX6_take 22 = .ok (.iconst 2, 1) := by decide +kernel
theorem dX6_take_23 : decode cX6_take 23 = .ok (.if_icmp .ne 7, 3) := by decide +kernel
theorem dX6_take_26 : decode cX6_take 26 = .ok (.iconst 1, 1) := by decide +kernel
theorem dX6_take_27 : decode cX6_take 27 = .ok (.goto 4, 3) := by decide +kernel
theorem dX6_take_30 : decode cX6_take 30 = .ok (.iconst 0, 1) := by decide +kernel
theorem dX6_take_31 : decode cX6_take 31 = .ok (.istore_n 1, 1) := by decide +kernel
theorem dX6_take_32 : decode cX6_take 32 = .ok (.aload_n 0, 1) := by decide +kernel
theorem dX6_take_33 : decode cX6_take 33 = .ok (.getfield 29, 3) := by decide +kernel
theorem dX6_take_36 : decode cX6_take 36 = .ok (.istore_n 2, 1) := by decide +kernel
theorem dX6_take_37 : decode cX6_take 37 = .ok (.iload_n 2, 1) := by decide +kernel
theorem dX6_take_38 : decode cX6_take 38 = .ok (.aload_n 0, 1) := by decide +kernel
theorem dX6_take_39 : decode cX6_take 39 = .ok (.getfield 19, 3) := by decide +kernel
theorem dX6_take_42 : decode cX6_take 42 = .ok (.if_icmp .ge 31, 3) := by decide +kernel
theorem dX6_take_45 : decode cX6_take 45 = .ok (.aload_n 0, 1) := by decide +kernel
theorem dX6_take_46 : decode cX6_take 46 = .ok (.getfield 15, 3) := by decide +kernel
theorem dX6_take_49 : decode cX6_take 49 = .ok (.iload_n 2, 1) := by decide +kernel
theorem dX6_take_50 : decode cX6_take 50 = .ok (.baload, 1) := by decide +kernel
theorem dX6_take_51 : decode cX6_take 51 = .ok (.bipush 32, 2) := by decide +kernel
theorem dX6_take_53 : decode cX6_take 53 = .ok (.if_icmp .eq 14, 3) := by decide +kernel
theorem dX6_take_56 : decode cX6_take 56 = .ok (.aload_n 0, 1) := by decide +kernel
theorem dX6_take_57 : decode cX6_take 57 = .ok (.getfield 15, 3) := by decide +kernel
theorem dX6_take_60 : decode cX6_take 60 = .ok (.iload_n 2, 1) := by decide +kernel
theorem dX6_take_61 : decode cX6_take 61 = .ok (.baload, 1) := by decide +kernel
theorem dX6_take_62 : decode cX6_take 62 = .ok (.bipush 10, 2) := by decide +kernel
theorem dX6_take_64 : decode cX6_take 64 = .ok (.if_icmp .ne 9, 3) := by decide +kernel
theorem dX6_take_67 : decode cX6_take 67 = .ok (.iinc 2 1, 3) := by decide +kernel
theorem dX6_take_70 : decode cX6_take 70 = .ok (.goto (-33), 3) := by decide +kernel
theorem dX6_take_73 : decode cX6_take 73 = .ok (.iload_n 2, 1) := by decide +kernel
theorem dX6_take_74 : decode cX6_take 74 = .ok (.aload_n 0, 1) := by decide +kernel
theorem dX6_take_75 : decode cX6_take 75 = .ok (.getfield 19, 3) := by decide +kernel
theorem dX6_take_78 : decode cX6_take 78 = .ok (.if_icmp .ge 12, 3) := by decide +kernel
theorem dX6_take_81 : decode cX6_take 81 = .ok (.aload_n 0, 1) := by decide +kernel
theorem dX6_take_82 : decode cX6_take 82 = .ok (.getfield 15, 3) := by decide +kernel
theorem dX6_take_85 : decode cX6_take 85 = .ok (.iload_n 2, 1) := by decide +kernel
theorem dX6_take_86 : decode cX6_take 86 = .ok (.baload, 1) := by decide +kernel
theorem dX6_take_87 : decode cX6_take 87 = .ok (.goto 4, 3) := by decide +kernel
theorem dX6_take_90 : decode cX6_take 90 = .ok (.iconst 0, 1) := by decide +kernel
theorem dX6_take_91 : decode cX6_take 91 = .ok (.istore_n 3, 1) := by decide +kernel
theorem dX6_take_92 : decode cX6_take 92 = .ok (.iload_n 3, 1) := by decide +kernel
theorem dX6_take_93 : decode cX6_take 93 = .ok (.bipush 97, 2) := by decide +kernel
theorem dX6_take_95 : decode cX6_take 95 = .ok (.if_icmp .lt 13, 3) := by decide +kernel
theorem dX6_take_98 : decode cX6_take 98 = .ok (.iload_n 3, 1) := by decide +kernel
theorem dX6_take_99 : decode cX6_take 99 = .ok (.bipush 122, 2) := by decide +kernel
theorem dX6_take_101 : decode cX6_take 101 = .ok (.if_icmp .gt 7, 3) := by decide +kernel
theorem dX6_take_104 : decode cX6_take 104 = .ok (.iconst 1, 1) := by decide +kernel
theorem dX6_take_105 : decode cX6_take 105 = .ok (.goto 4, 3) := by decide +kernel
theorem dX6_take_108 : decode cX6_take 108 = .ok (.iconst 0, 1) := by decide +kernel
theorem dX6_take_109 : decode cX6_take 109 = .ok (.istore 4, 2) := by decide +kernel
theorem dX6_take_111 : decode cX6_take 111 = .ok (.iload_n 3, 1) := by decide +kernel
theorem dX6_take_112 : decode cX6_take 112 = .ok (.bipush 48, 2) := by decide +kernel
theorem dX6_take_114 : decode cX6_take 114 = .ok (.if_icmp .lt 13, 3) := by decide +kernel
theorem dX6_take_117 : decode cX6_take 117 = .ok (.iload_n 3, 1) := by decide +kernel
theorem dX6_take_118 : decode cX6_take 118 = .ok (.bipush 57, 2) := by decide +kernel
theorem dX6_take_120 : decode cX6_take 120 = .ok (.if_icmp .gt 7, 3) := by decide +kernel
theorem dX6_take_123 : decode cX6_take 123 = .ok (.iconst 1, 1) := by decide +kernel
theorem dX6_take_124 : decode cX6_take 124 = .ok (.goto 4, 3) := by decide +kernel
theorem dX6_take_127 : decode cX6_take 127 = .ok (.iconst 0, 1) := by decide +kernel
theorem dX6_take_128 : decode cX6_take 128 = .ok (.istore 5, 2) := by decide +kernel
theorem dX6_take_130 : decode cX6_take 130 = .ok (.iload_n 1, 1) := by decide +kernel
theorem dX6_take_131 : decode cX6_take 131 = .ok (.ifCond .eq 15, 3) := by decide +kernel
theorem dX6_take_134 : decode cX6_take 134 = .ok (.iload_n 2, 1) := by decide +kernel
theorem dX6_take_135 : decode cX6_take 135 = .ok (.aload_n 0, 1) := by decide +kernel
theorem dX6_take_136 : decode cX6_take 136 = .ok (.getfield 29, 3) := by decide +kernel
theorem dX6_take_139 : decode cX6_take 139 = .ok (.if_icmp .ne 7, 3) := by decide +kernel
theorem dX6_take_142 : decode cX6_take 142 = .ok (.iconst 1, 1) := by decide +kernel
theorem dX6_take_143 : decode cX6_take 143 = .ok (.goto 4, 3) := by decide +kernel
theorem dX6_take_146 : decode cX6_take 146 = .ok (.iconst 0, 1) := by decide +kernel
theorem dX6_take_147 : decode cX6_take 147 = .ok (.istore 6, 2) := by decide +kernel
theorem dX6_take_149 : decode cX6_take 149 = .ok (.aload_n 0, 1) := by decide +kernel
theorem dX6_take_150 : decode cX6_take 150 = .ok (.iload_n 2, 1) := by decide +kernel
theorem dX6_take_151 : decode cX6_take 151 = .ok (.putfield 26, 3) := by decide +kernel
theorem dX6_take_154 : decode cX6_take 154 = .ok (.aload_n 0, 1) := by decide +kernel
theorem dX6_take_155 : decode cX6_take 155 = .ok (.iconst 0, 1) := by decide +kernel
theorem dX6_take_156 : decode cX6_take 156 = .ok (.putfield 32, 3) := by decide +kernel
theorem dX6_take_159 : decode cX6_take 159 = .ok (.iload_n 2, 1) := by decide +kernel
theorem dX6_take_160 : decode cX6_take 160 = .ok (.aload_n 0, 1) := by decide +kernel
theorem dX6_take_161 : decode cX6_take 161 = .ok (.getfield 19, 3) := by decide +kernel
theorem dX6_take_164 : decode cX6_take 164 = .ok (.if_icmp .lt 11, 3) := by decide +kernel
theorem dX6_take_167 : decode cX6_take 167 = .ok (.aload_n 0, 1) := by decide +kernel
theorem dX6_take_168 : decode cX6_take 168 = .ok (.iconst 5, 1) := by decide +kernel
theorem dX6_take_169 : decode cX6_take 169 = .ok (.putfield 23, 3) := by decide +kernel
theorem dX6_take_172 : decode cX6_take 172 = .ok (.goto 173, 3) := by decide +kernel
theorem dX6_take_175 : decode cX6_take 175 = .ok (.iload 6, 2) := by decide +kernel
theorem dX6_take_177 : decode cX6_take 177 = .ok (.ifCond .eq 24, 3) := by decide +kernel
theorem dX6_take_180 : decode cX6_take 180 = .ok (.iload 4, 2) := by decide +kernel
theorem dX6_take_182 : decode cX6_take 182 = .ok (.ifCond .ne 8, 3) := by decide +kernel
theorem dX6_take_185 : decode cX6_take 185 = .ok (.iload 5, 2) := by decide +kernel
theorem dX6_take_187 : decode cX6_take 187 = .ok (.ifCond .eq 14, 3) := by decide +kernel
theorem dX6_take_190 : decode cX6_take 190 = .ok (.aload_n 0, 1) := by decide +kernel
theorem dX6_take_191 : decode cX6_take 191 = .ok (.iconst 4, 1) := by decide +kernel
theorem dX6_take_192 : decode cX6_take 192 = .ok (.putfield 23, 3) := by decide +kernel
theorem dX6_take_195 : decode cX6_take 195 = .ok (.iinc 2 1, 3) := by decide +kernel
theorem dX6_take_198 : decode cX6_take 198 = .ok (.goto 147, 3) := by decide +kernel
theorem dX6_take_201 : decode cX6_take 201 = .ok (.iload 4, 2) := by decide +kernel
theorem dX6_take_203 : decode cX6_take 203 = .ok (.ifCond .eq 88, 3) := by decide +kernel
theorem dX6_take_206 : decode cX6_take 206 = .ok (.aload_n 0, 1) := by decide +kernel
theorem dX6_take_207 : decode cX6_take 207 = .ok (.iconst 1, 1) := by decide +kernel
theorem dX6_take_208 : decode cX6_take 208 = .ok (.putfield 23, 3) := by decide +kernel
theorem dX6_take_211 : decode cX6_take 211 = .ok (.iload_n 2, 1) := by decide +kernel
theorem dX6_take_212 : decode cX6_take 212 = .ok (.aload_n 0, 1) := by decide +kernel
theorem dX6_take_213 : decode cX6_take 213 = .ok (.getfield 19, 3) := by decide +kernel
theorem dX6_take_216 : decode cX6_take 216 = .ok (.if_icmp .ge 129, 3) := by decide +kernel
theorem dX6_take_219 : decode cX6_take 219 = .ok (.aload_n 0, 1) := by decide +kernel
theorem dX6_take_220 : decode cX6_take 220 = .ok (.getfield 15, 3) := by decide +kernel
theorem dX6_take_223 : decode cX6_take 223 = .ok (.iload_n 2, 1) := by decide +kernel
theorem dX6_take_224 : decode cX6_take 224 = .ok (.baload, 1) := by decide +kernel
theorem dX6_take_225 : decode cX6_take 225 = .ok (.bipush 97, 2) := by decide +kernel
theorem dX6_take_227 : decode cX6_take 227 = .ok (.if_icmp .lt 118, 3) := by decide +kernel
theorem dX6_take_230 : decode cX6_take 230 = .ok (.aload_n 0, 1) := by decide +kernel
theorem dX6_take_231 : decode cX6_take 231 = .ok (.getfield 15, 3) := by decide +kernel
theorem dX6_take_234 : decode cX6_take 234 = .ok (.iload_n 2, 1) := by decide +kernel
theorem dX6_take_235 : decode cX6_take 235 = .ok (.baload, 1) := by decide +kernel
theorem dX6_take_236 : decode cX6_take 236 = .ok (.bipush 122, 2) := by decide +kernel
theorem dX6_take_238 : decode cX6_take 238 = .ok (.if_icmp .gt 107, 3) := by decide +kernel
theorem dX6_take_241 : decode cX6_take 241 = .ok (.iload_n 2, 1) := by decide +kernel
theorem dX6_take_242 : decode cX6_take 242 = .ok (.aload_n 0, 1) := by decide +kernel
theorem dX6_take_243 : decode cX6_take 243 = .ok (.getfield 26, 3) := by decide +kernel
theorem dX6_take_246 : decode cX6_take 246 = .ok (.isub, 1) := by decide +kernel
theorem dX6_take_247 : decode cX6_take 247 = .ok (.istore 7, 2) := by decide +kernel
theorem dX6_take_249 : decode cX6_take 249 = .ok (.aload_n 0, 1) := by decide +kernel
theorem dX6_take_250 : decode cX6_take 250 = .ok (.dup, 1) := by decide +kernel
theorem dX6_take_251 : decode cX6_take 251 = .ok (.getfield 32, 3) := by decide +kernel
theorem dX6_take_254 : decode cX6_take 254 = .ok (.iload 7, 2) := by decide +kernel
theorem dX6_take_256 : decode cX6_take 256 = .ok (.bipush 6, 2) := by decide +kernel
theorem dX6_take_258 : decode cX6_take 258 = .ok (.if_icmp .ge 22, 3) := by decide +kernel
theorem dX6_take_261 : decode cX6_take 261 = .ok (.aload_n 0, 1) := by decide +kernel
theorem dX6_take_262 : decode cX6_take 262 = .ok (.getfield 15, 3) := by decide +kernel
theorem dX6_take_265 : decode cX6_take 265 = .ok (.iload_n 2, 1) := by decide +kernel
theorem dX6_take_266 : decode cX6_take 266 = .ok (.baload, 1) := by decide +kernel
