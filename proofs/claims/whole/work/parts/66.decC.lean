/-! what stands at each place of the code -/
theorem dX7_init_0 : decode cX7_init 0 = .ok (.aload_n 0, 1) := by decide +kernel
theorem dX7_init_1 : decode cX7_init 1 = .ok (.invokespecial 3, 3) := by decide +kernel
theorem dX7_init_4 : decode cX7_init 4 = .ok (.aload_n 0, 1) := by decide +kernel
theorem dX7_init_5 : decode cX7_init 5 = .ok (.new 9, 3) := by decide +kernel
theorem dX7_init_8 : decode cX7_init 8 = .ok (.dup, 1) := by decide +kernel
theorem dX7_init_9 : decode cX7_init 9 = .ok (.invokespecial 11, 3) := by decide +kernel
theorem dX7_init_12 : decode cX7_init 12 = .ok (.putfield 12, 3) := by decide +kernel
theorem dX7_init_15 : decode cX7_init 15 = .ok (.aload_n 0, 1) := by decide +kernel
theorem dX7_init_16 : decode cX7_init 16 = .ok (.bipush 49, 2) := by decide +kernel
theorem dX7_init_18 : decode cX7_init 18 = .ok (.newarray .int, 2) := by decide +kernel
theorem dX7_init_20 : decode cX7_init 20 = .ok (.putfield 18, 3) := by decide +kernel
theorem dX7_init_23 : decode cX7_init 23 = .ok (.aload_n 0, 1) := by decide +kernel
theorem dX7_init_24 : decode cX7_init 24 = .ok (.new 22, 3) := by decide +kernel
theorem dX7_init_27 : decode cX7_init 27 = .ok (.dup, 1) := by decide +kernel
theorem dX7_init_28 : decode cX7_init 28 = .ok (.invokespecial 24, 3) := by decide +kernel
theorem dX7_init_31 : decode cX7_init 31 = .ok (.putfield 25, 3) := by decide +kernel
theorem dX7_init_34 : decode cX7_init 34 = .ok (.aload_n 0, 1) := by decide +kernel
theorem dX7_init_35 : decode cX7_init 35 = .ok (.sipush 960, 3) := by decide +kernel
theorem dX7_init_38 : decode cX7_init 38 = .ok (.newarray .int, 2) := by decide +kernel
theorem dX7_init_40 : decode cX7_init 40 = .ok (.putfield 29, 3) := by decide +kernel
theorem dX7_init_43 : decode cX7_init 43 = .ok (.return_, 1) := by decide +kernel
theorem dX7_beginWith_0 : decode cX7_beginWith 0 = .ok (.aload_n 0, 1) := by decide +kernel
theorem dX7_beginWith_1 : decode cX7_beginWith 1 = .ok (.aload_n 1, 1) := by decide +kernel
theorem dX7_beginWith_2 : decode cX7_beginWith 2 = .ok (.putfield 12, 3) := by decide +kernel
theorem dX7_beginWith_5 : decode cX7_beginWith 5 = .ok (.aload_n 0, 1) := by decide +kernel
theorem dX7_beginWith_6 : decode cX7_beginWith 6 = .ok (.getfield 18, 3) := by decide +kernel
theorem dX7_beginWith_9 : decode cX7_beginWith 9 = .ok (.iconst 0, 1) := by decide +kernel
theorem dX7_beginWith_10 : decode cX7_beginWith 10 = .ok (.invokestatic 32, 3) := by decide +kernel
theorem dX7_beginWith_13 : decode cX7_beginWith 13 = .ok (.aload_n 0, 1) := by decide +kernel
theorem dX7_beginWith_14 : decode cX7_beginWith 14 = .ok (.getfield 18, 3) := by decide +kernel
theorem dX7_beginWith_17 : decode cX7_beginWith 17 = .ok (.iconst 0, 1) := by decide +kernel
theorem dX7_beginWith_18 : decode cX7_beginWith 18 = .ok (.aload_n 1, 1) := by decide +kernel
theorem dX7_beginWith_19 : decode cX7_beginWith 19 = .ok (.getfield 38, 3) := by decide +kernel
theorem dX7_beginWith_22 : decode cX7_beginWith 22 = .ok (.iastore, 1) := by decide +kernel
theorem dX7_beginWith_23 : decode cX7_beginWith 23 = .ok (.iconst 0, 1) := by decide +kernel
theorem dX7_beginWith_24 : decode cX7_beginWith 24 = .ok (.istore_n 2, 1) := by decide +kernel
theorem dX7_beginWith_25 : decode cX7_beginWith 25 = .ok (.iload_n 2, 1) := by decide +kernel
theorem dX7_beginWith_26 : decode cX7_beginWith 26 = .ok (.bipush 8, 2) := by decide +kernel
theorem dX7_beginWith_28 : decode cX7_beginWith 28 = .ok (.if_icmp .ge 39, 3) := by decide +kernel
theorem dX7_beginWith_31 : decode cX7_beginWith 31 = .ok (.aload_n 0, 1) := by decide +kernel
theorem dX7_beginWith_32 : decode cX7_beginWith 32 = .ok (.getfield 18, 3) := by decide +kernel
theorem dX7_beginWith_35 : decode cX7_beginWith 35 = .ok (.bipush 33, 2) := by decide +kernel
theorem dX7_beginWith_37 : decode cX7_beginWith 37 = .ok (.iload_n 2, 1) := by decide +kernel
theorem dX7_beginWith_38 : decode cX7_beginWith 38 = .ok (.iadd, 1) := by decide +kernel
theorem dX7_beginWith_39 : decode cX7_beginWith 39 = .ok (.aload_n 1, 1) := by decide +kernel
theorem dX7_beginWith_40 : decode cX7_beginWith 40 = .ok (.getfield 42, 3) := by decide +kernel
theorem dX7_beginWith_43 : decode cX7_beginWith 43 = .ok (.iload_n 2, 1) := by decide +kernel
theorem dX7_beginWith_44 : decode cX7_beginWith 44 = .ok (.iaload, 1) := by decide +kernel
theorem dX7_beginWith_45 : decode cX7_beginWith 45 = .ok (.iastore, 1) := by decide +kernel
theorem dX7_beginWith_46 : decode cX7_beginWith 46 = .ok (.aload_n 0, 1) := by decide +kernel
theorem dX7_beginWith_47 : decode cX7_beginWith 47 = .ok (.getfield 18, 3) := by decide +kernel
theorem dX7_beginWith_50 : decode cX7_beginWith 50 = .ok (.bipush 41, 2) := by decide +kernel
theorem dX7_beginWith_52 : decode cX7_beginWith 52 = .ok (.iload_n 2, 1) := by decide +kernel
theorem dX7_beginWith_53 : decode cX7_beginWith 53 = .ok (.iadd, 1) := by decide +kernel
theorem dX7_beginWith_54 : decode cX7_beginWith 54 = .ok (.aload_n 1, 1) := by decide +kernel
theorem dX7_beginWith_55 : decode cX7_beginWith 55 = .ok (.getfield 45, 3) := by decide +kernel
theorem dX7_beginWith_58 : decode cX7_beginWith 58 = .ok (.iload_n 2, 1) := by decide +kernel
theorem dX7_beginWith_59 : decode cX7_beginWith 59 = .ok (.iaload, 1) := by decide +kernel
theorem dX7_beginWith_60 : decode cX7_beginWith 60 = .ok (.iastore, 1) := by decide +kernel
theorem dX7_beginWith_61 : decode cX7_beginWith 61 = .ok (.iinc 2 1, 3) := by decide +kernel
theorem dX7_beginWith_64 : decode cX7_beginWith 64 = .ok (.goto (-39), 3) := by decide +kernel
theorem dX7_beginWith_67 : decode cX7_beginWith 67 = .ok (.aload_n 0, 1) := by decide +kernel
theorem dX7_beginWith_68 : decode cX7_beginWith 68 = .ok (.invokevirtual 48, 3) := by decide +kernel
theorem dX7_beginWith_71 : decode cX7_beginWith 71 = .ok (.return_, 1) := by decide +kernel
theorem dX7_forgetPrevailing_0 : decode cX7_forgetPrevailing 0 = .ok (.aload_n 0, 1) := by decide +kernel
theorem dX7_forgetPrevailing_1 : decode cX7_forgetPrevailing 1 = .ok (.getfield 29, 3) := by decide +kernel
theorem dX7_forgetPrevailing_4 : decode cX7_forgetPrevailing 4 = .ok (.iconst 0, 1) := by decide +kernel
theorem dX7_forgetPrevailing_5 : decode cX7_forgetPrevailing 5 = .ok (.invokestatic 32, 3) := by decide +kernel
theorem dX7_forgetPrevailing_8 : decode cX7_forgetPrevailing 8 = .ok (.return_, 1) := by decide +kernel
theorem dX7_isRepealed_0 : decode cX7_isRepealed 0 = .ok (.aload_n 0, 1) := by decide +kernel
theorem dX7_isRepealed_1 : decode cX7_isRepealed 1 = .ok (.getfield 18, 3) := by decide +kernel
theorem dX7_isRepealed_4 : decode cX7_isRepealed 4 = .ok (.iconst 2, 1) := by decide +kernel
theorem dX7_isRepealed_5 : decode cX7_isRepealed 5 = .ok (.iaload, 1) := by decide +kernel
theorem dX7_isRepealed_6 : decode cX7_isRepealed 6 = .ok (.iload_n 1, 1) := by decide +kernel
theorem dX7_isRepealed_7 : decode cX7_isRepealed 7 = .ok (.ishr, 1) := by decide +kernel
theorem dX7_isRepealed_8 : decode cX7_isRepealed 8 = .ok (.iconst 1, 1) := by decide +kernel
theorem dX7_isRepealed_9 : decode cX7_isRepealed 9 = .ok (.iand, 1) := by decide +kernel
theorem dX7_isRepealed_10 : decode cX7_isRepealed 10 = .ok (.ifCond .eq 7, 3) := by decide +kernel
theorem dX7_isRepealed_13 : decode cX7_isRepealed 13 = .ok (.iconst 1, 1) := by decide +kernel
theorem dX7_isRepealed_14 : decode cX7_isRepealed 14 = .ok (.goto 4, 3) := by decide +kernel
theorem dX7_isRepealed_17 : decode cX7_isRepealed 17 = .ok (.iconst 0, 1) := by decide +kernel
theorem dX7_isRepealed_18 : decode cX7_isRepealed 18 = .ok (.ireturn, 1) := by decide +kernel
theorem dX7_liveActs_0 : decode cX7_liveActs 0 = .ok (.iconst 1, 1) := by decide +kernel
theorem dX7_liveActs_1 : decode cX7_liveActs 1 = .ok (.aload_n 0, 1) := by decide +kernel
theorem dX7_liveActs_2 : decode cX7_liveActs 2 = .ok (.getfield 12, 3) := by decide +kernel
theorem dX7_liveActs_5 : decode cX7_liveActs 5 = .ok (.getfield 51, 3) := by decide +kernel
theorem dX7_liveActs_8 : decode cX7_liveActs 8 = .ok (.ishl, 1) := by decide +kernel
theorem dX7_liveActs_9 : decode cX7_liveActs 9 = .ok (.iconst 1, 1) := by decide +kernel
theorem dX7_liveActs_10 : decode cX7_liveActs 10 = .ok (.isub, 1) := by decide +kernel
theorem dX7_liveActs_11 : decode cX7_liveActs 11 = .ok (.aload_n 0, 1) := by decide +kernel
theorem dX7_liveActs_12 : decode cX7_liveActs 12 = .ok (.getfield 18, 3) := by decide +kernel
theorem dX7_liveActs_15 : decode cX7_liveActs 15 = .ok (.iconst 2, 1) := by decide +kernel
theorem dX7_liveActs_16 : decode cX7_liveActs 16 = .ok (.iaload, 1) := by decide +kernel
theorem dX7_liveActs_17 : decode cX7_liveActs 17 = .ok (.iconst (-1), 1) := by decide +kernel
theorem dX7_liveActs_18 : decode cX7_liveActs 18 = .ok (.ixor, 1) := by decide +kernel
theorem dX7_liveActs_19 : decode cX7_liveActs 19 = .ok (.iand, 1) := by decide +kernel
theorem dX7_liveActs_20 : decode cX7_liveActs 20 = .ok (.ireturn, 1) := by decide +kernel
theorem dX7_laidOn_0 : decode cX7_laidOn 0 = .ok (.iload_n 3, 1) := by decide +kernel
theorem dX7_laidOn_1 : decode cX7_laidOn 1 = .ok (.aload_n 0, 1) := by decide +kernel
theorem dX7_laidOn_2 : decode cX7_laidOn 2 = .ok (.getfield 18, 3) := by decide +kernel
theorem dX7_laidOn_5 : decode cX7_laidOn 5 = .ok (.iload_n 1, 1) := by decide +kernel
theorem dX7_laidOn_6 : decode cX7_laidOn 6 = .ok (.iconst 5, 1) := by decide +kernel
theorem dX7_laidOn_7 : decode cX7_laidOn 7 = .ok (.iadd, 1) := by decide +kernel
theorem dX7_laidOn_8 : decode cX7_laidOn 8 = .ok (.iload_n 2, 1) := by decide +kernel
theorem dX7_laidOn_9 : decode cX7_laidOn 9 = .ok (.iadd, 1) := by decide +kernel
theorem dX7_laidOn_10 : decode cX7_laidOn 10 = .ok (.iaload, 1) := by decide +kernel
theorem dX7_laidOn_11 : decode cX7_laidOn 11 = .ok (.if_icmp .lt 29, 3) := by decide +kernel
theorem dX7_laidOn_14 : decode cX7_laidOn 14 = .ok (.iload_n 3, 1) := by decide +kernel
theorem dX7_laidOn_15 : decode cX7_laidOn 15 = .ok (.aload_n 0, 1) := by decide +kernel
theorem dX7_laidOn_16 : decode cX7_laidOn 16 = .ok (.getfield 18, 3) := by decide +kernel
theorem dX7_laidOn_19 : decode cX7_laidOn 19 = .ok (.iload_n 1, 1) := by decide +kernel
theorem dX7_laidOn_20 : decode cX7_laidOn 20 = .ok (.bipush 10, 2) := by decide +kernel
theorem dX7_laidOn_22 : decode cX7_laidOn 22 = .ok (.iadd, 1) := by decide +kernel
theorem dX7_laidOn_23 : decode cX7_laidOn 23 = .ok (.iload_n 2, 1) := by decide +kernel
theorem dX7_laidOn_24 : decode cX7_laidOn 24 = .ok (.iadd, 1) := by decide +kernel
theorem dX7_laidOn_25 : decode cX7_laidOn 25 = .ok (.iaload, 1) := by decide +kernel
theorem dX7_laidOn_26 : decode cX7_laidOn 26 = .ok (.if_icmp .ge 14, 3) := by decide +kernel
theorem dX7_laidOn_29 : decode cX7_laidOn 29 = .ok (.aload_n 0, 1) := by decide +kernel
theorem dX7_laidOn_30 : decode cX7_laidOn 30 = .ok (.getfield 18, 3) := by decide +kernel
theorem dX7_laidOn_33 : decode cX7_laidOn 33 = .ok (.iload_n 1, 1) := by decide +kernel
theorem dX7_laidOn_34 : decode cX7_laidOn 34 = .ok (.iload_n 2, 1) := by decide +kernel
theorem dX7_laidOn_35 : decode cX7_laidOn 35 = .ok (.iadd, 1) := by decide +kernel
theorem dX7_laidOn_36 : decode cX7_laidOn 36 = .ok (.iaload, 1) := by decide +kernel
theorem dX7_laidOn_37 : decode cX7_laidOn 37 = .ok (.goto 4, 3) := by decide +kernel
theorem dX7_laidOn_40 : decode cX7_laidOn 40 = .ok (.iconst 0, 1) := by decide +kernel
theorem dX7_laidOn_41 : decode cX7_laidOn 41 = .ok (.ireturn, 1) := by decide +kernel
theorem dX7_layOn_0 : decode cX7_layOn 0 = .ok (.aload_n 0, 1) := by decide +kernel
theorem dX7_layOn_1 : decode cX7_layOn 1 = .ok (.getfield 18, 3) := by decide +kernel
theorem dX7_layOn_4 : decode cX7_layOn 4 = .ok (.iload_n 1, 1) := by decide +kernel
theorem dX7_layOn_5 : decode cX7_layOn 5 = .ok (.iload_n 2, 1) := by decide +kernel
theorem dX7_layOn_6 : decode cX7_layOn 6 = .ok (.iadd, 1) := by decide +kernel
theorem dX7_layOn_7 : decode cX7_layOn 7 = .ok (.iload_n 3, 1) := by decide +kernel
theorem dX7_layOn_8 : decode cX7_layOn 8 = .ok (.iastore, 1) := by decide +kernel
theorem dX7_layOn_9 : decode cX7_layOn 9 = .ok (.aload_n 0, 1) := by decide +kernel
theorem dX7_layOn_10 : decode cX7_layOn 10 = .ok (.getfield 18, 3) := by decide +kernel
theorem dX7_layOn_13 : decode cX7_layOn 13 = .ok (.iload_n 1, 1) := by decide +kernel
theorem dX7_layOn_14 : decode cX7_layOn 14 = .ok (.iconst 5, 1) := by decide +kernel
theorem dX7_layOn_15 : decode cX7_layOn 15 = .ok (.iadd, 1) := by decide +kernel
theorem dX7_layOn_16 : decode cX7_layOn 16 = .ok (.iload_n 2, 1) := by decide +kernel
theorem dX7_layOn_17 : decode cX7_layOn 17 = .ok (.iadd, 1) := by decide +kernel
theorem dX7_layOn_18 : decode cX7_layOn 18 = .ok (.aload_n 0, 1) := by decide +kernel
theorem dX7_layOn_19 : decode cX7_layOn 19 = .ok (.getfield 18, 3) := by decide +kernel
theorem dX7_layOn_22 : decode cX7_layOn 22 = .ok (.iconst 0, 1) := by decide +kernel
theorem dX7_layOn_23 : decode cX7_layOn 23 = .ok (.iaload, 1) := by decide +kernel
theorem dX7_layOn_24 : decode cX7_layOn 24 = .ok (.iastore, 1) := by decide +kernel
theorem dX7_layOn_25 : decode cX7_layOn 25 = .ok (.aload_n 0, 1) := by decide +kernel
theorem dX7_layOn_26 : decode cX7_layOn 26 = .ok (.getfield 18, 3) := by decide +kernel
theorem dX7_layOn_29 : decode cX7_layOn 29 = .ok (.iload_n 1, 1) := by decide +kernel
theorem dX7_layOn_30 : decode cX7_layOn 30 = .ok (.bipush 10, 2) := by decide +kernel
theorem dX7_layOn_32 : decode cX7_layOn 32 = .ok (.iadd, 1) := by decide +kernel
theorem dX7_layOn_33 : decode cX7_layOn 33 = .ok (.iload_n 2, 1) := by decide +kernel
theorem dX7_layOn_34 : decode cX7_layOn 34 = .ok (.iadd, 1) := by decide +kernel
theorem dX7_layOn_35 : decode cX7_layOn 35 = .ok (.iload_n 3, 1) := by decide +kernel
theorem dX7_layOn_36 : decode cX7_layOn 36 = .ok (.ifCond .ne 12, 3) := by decide +kernel
theorem dX7_layOn_39 : decode cX7_layOn 39 = .ok (.aload_n 0, 1) := by decide +kernel
theorem dX7_layOn_40 : decode cX7_layOn 40 = .ok (.getfield 18, 3) := by decide +kernel
theorem dX7_layOn_43 : decode cX7_layOn 43 = .ok (.iconst 0, 1) := by decide +kernel
theorem dX7_layOn_44 : decode cX7_layOn 44 = .ok (.iaload, 1) := by decide +kernel
theorem dX7_layOn_45 : decode cX7_layOn 45 = .ok (.goto 12, 3) := by decide +kernel
theorem dX7_layOn_48 : decode cX7_layOn 48 = .ok (.aload_n 0, 1) := by decide +kernel
theorem dX7_layOn_49 : decode cX7_layOn 49 = .ok (.getfield 18, 3) := by decide +kernel
theorem dX7_layOn_52 : decode cX7_layOn 52 = .ok (.iconst 0, 1) := by decide +kernel
theorem dX7_layOn_53 : decode cX7_layOn 53 = .ok (.iaload, 1) := by decide +kernel
theorem dX7_layOn_54 : decode cX7_layOn 54 = .ok (.iload 4, 2) := by decide +kernel
theorem dX7_layOn_56 : decode cX7_layOn 56 = .ok (.iadd, 1) := by decide +kernel
theorem dX7_layOn_57 : decode cX7_layOn 57 = .ok (.iastore, 1) := by decide +kernel
theorem dX7_layOn_58 : decode cX7_layOn 58 = .ok (.return_, 1) := by decide +kernel
theorem dX7_degreeIn_0 : decode cX7_degreeIn 0 = .ok (.aload_n 0, 1) := by decide +kernel
theorem dX7_degreeIn_1 : decode cX7_degreeIn 1 = .ok (.iconst 3, 1) := by decide +kernel
theorem dX7_degreeIn_2 : decode cX7_degreeIn 2 = .ok (.iload_n 1, 1) := by decide +kernel
theorem dX7_degreeIn_3 : decode cX7_degreeIn 3 = .ok (.iload_n 2, 1) := by decide +kernel
theorem dX7_degreeIn_4 : decode cX7_degreeIn 4 = .ok (.invokevirtual 54, 3) := by decide +kernel
theorem dX7_degreeIn_7 : decode cX7_degreeIn 7 = .ok (.istore_n 3, 1) := by decide +kernel
theorem dX7_degreeIn_8 : decode cX7_degreeIn 8 = .ok (.aload_n 0, 1) := by decide +kernel
theorem dX7_degreeIn_9 : decode cX7_degreeIn 9 = .ok (.bipush 18, 2) := by decide +kernel
theorem dX7_degreeIn_11 : decode cX7_degreeIn 11 = .ok (.iload_n 1, 1) := by decide +kernel
theorem dX7_degreeIn_12 : decode cX7_degreeIn 12 = .ok (.iload_n 2, 1) := by decide +kernel
theorem dX7_degreeIn_13 : decode cX7_degreeIn 13 = .ok (.invokevirtual 54, 3) := by decide +kernel
theorem dX7_degreeIn_16 : decode cX7_degreeIn 16 = .ok (.istore 4, 2) := by decide +kernel
theorem dX7_degreeIn_18 : decode cX7_degreeIn 18 = .ok (.aload_n 0, 1) := by decide +kernel
theorem dX7_degreeIn_19 : decode cX7_degreeIn 19 = .ok (.getfield 12, 3) := by decide +kernel
theorem dX7_degreeIn_22 : decode cX7_degreeIn 22 = .ok (.getfield 58, 3) := by decide +kernel
theorem dX7_degreeIn_25 : decode cX7_degreeIn 25 = .ok (.arraylength, 1) := by decide +kernel
theorem dX7_degreeIn_26 : decode cX7_degreeIn 26 = .ok (.ifCond .ne 21, 3) := by decide +kernel
theorem dX7_degreeIn_29 : decode cX7_degreeIn 29 = .ok (.aload_n 0, 1) := by decide +kernel
theorem dX7_degreeIn_30 : decode cX7_degreeIn 30 = .ok (.getfield 12, 3) := by decide +kernel
theorem dX7_degreeIn_33 : decode cX7_degreeIn 33 = .ok (.getfield 61, 3) := by decide +kernel
theorem dX7_degreeIn_36 : decode cX7_degreeIn 36 = .ok (.iload_n 1, 1) := by decide +kernel
theorem dX7_degreeIn_37 : decode cX7_degreeIn 37 = .ok (.iaload, 1) := by decide +kernel
theorem dX7_degreeIn_38 : decode cX7_degreeIn 38 = .ok (.iload_n 3, 1) := by decide +kernel
theorem dX7_degreeIn_39 : decode cX7_degreeIn 39 = .ok (.iadd, 1) := by decide +kernel
theorem dX7_degreeIn_40 : decode cX7_degreeIn 40 = .ok (.iload 4, 2) := by decide +kernel
theorem dX7_degreeIn_42 : decode cX7_degreeIn 42 = .ok (.isub, 1) := by decide +kernel
theorem dX7_degreeIn_43 : decode cX7_degreeIn 43 = .ok (.invokestatic 64, 3) := by decide +kernel
theorem dX7_degreeIn_46 : decode cX7_degreeIn 46 = .ok (.ireturn, 1) := by decide +kernel
theorem dX7_degreeIn_47 : decode cX7_degreeIn 47 = .ok (.aload_n 0, 1) := by decide +kernel
theorem dX7_degreeIn_48 : decode cX7_degreeIn 48 = .ok (.getfield 25, 3) := by decide +kernel
theorem dX7_degreeIn_51 : decode cX7_degreeIn 51 = .ok (.getfield 68, 3) := by decide +kernel
theorem dX7_degreeIn_54 : decode cX7_degreeIn 54 = .ok (.astore 5, 2) := by decide +kernel
theorem dX7_degreeIn_56 : decode cX7_degreeIn 56 = .ok (.aload 5, 2) := by decide +kernel
theorem dX7_degreeIn_58 : decode cX7_degreeIn 58 = .ok (.bipush 14, 2) := by decide +kernel
theorem dX7_degreeIn_60 : decode cX7_degreeIn 60 = .ok (.aload_n 0, 1) := by decide +kernel
theorem dX7_degreeIn_61 : decode cX7_degreeIn 61 = .ok (.getfield 12, 3) := by decide +kernel
theorem dX7_degreeIn_64 : decode cX7_degreeIn 64 = .ok (.getfield 61, 3) := by decide +kernel
theorem dX7_degreeIn_67 : decode cX7_degreeIn 67 = .ok (.iload_n 1, 1) := by decide +kernel
theorem dX7_degreeIn_68 : decode cX7_degreeIn 68 = .ok (.iaload, 1) := by decide +kernel
theorem dX7_degreeIn_69 : decode cX7_degreeIn 69 = .ok (.iastore, 1) := by decide +kernel
theorem dX7_degreeIn_70 : decode cX7_degreeIn 70 = .ok (.aload 5, 2) := by decide +kernel
theorem dX7_degreeIn_72 : decode cX7_degreeIn 72 = .ok (.bipush 15, 2) := by decide +kernel
theorem dX7_degreeIn_74 : decode cX7_degreeIn 74 = .ok (.iload_n 3, 1) := by decide +kernel
theorem dX7_degreeIn_75 : decode cX7_degreeIn 75 = .ok (.iastore, 1) := by decide +kernel
theorem dX7_degreeIn_76 : decode cX7_degreeIn 76 = .ok (.aload 5, 2) := by decide +kernel
theorem dX7_degreeIn_78 : decode cX7_degreeIn 78 = .ok (.bipush 16, 2) := by decide +kernel
theorem dX7_degreeIn_80 : decode cX7_degreeIn 80 = .ok (.iload 4, 2) := by decide +kernel
theorem dX7_degreeIn_82 : decode cX7_degreeIn 82 = .ok (.iastore, 1) := by decide +kernel
theorem dX7_degreeIn_83 : decode cX7_degreeIn 83 = .ok (.aload 5, 2) := by decide +kernel
theorem dX7_degreeIn_85 : decode cX7_degreeIn 85 = .ok (.bipush 6, 2) := by decide +kernel
theorem dX7_degreeIn_87 : decode cX7_degreeIn 87 = .ok (.iload_n 2, 1) := by decide +kernel
theorem dX7_degreeIn_88 : decode cX7_degreeIn 88 = .ok (.invokestatic 73, 3) := by decide +kernel
theorem dX7_degreeIn_91 : decode cX7_degreeIn 91 = .ok (.iastore, 1) := by decide +kernel
theorem dX7_degreeIn_92 : decode cX7_degreeIn 92 = .ok (.aload 5, 2) := by decide +kernel
theorem dX7_degreeIn_94 : decode cX7_degreeIn 94 = .ok (.bipush 17, 2) := by decide +kernel
theorem dX7_degreeIn_96 : decode cX7_degreeIn 96 = .ok (.iload_n 2, 1) := by decide +kernel
theorem dX7_degreeIn_97 : decode cX7_degreeIn 97 = .ok (.bipush 24, 2) := by decide +kernel
theorem dX7_degreeIn_99 : decode cX7_degreeIn 99 = .ok (.idiv, 1) := by decide +kernel
theorem dX7_degreeIn_100 : decode cX7_degreeIn 100 = .ok (.sipush 1000, 3) := by decide +kernel
theorem dX7_degreeIn_103 : decode cX7_degreeIn 103 = .ok (.irem, 1) := by decide +kernel
theorem dX7_degreeIn_104 : decode cX7_degreeIn 104 = .ok (.iastore, 1) := by decide +kernel
theorem dX7_degreeIn_105 : decode cX7_degreeIn 105 = .ok (.aload 5, 2) := by decide +kernel
theorem dX7_degreeIn_107 : decode cX7_degreeIn 107 = .ok (.iconst 0, 1) := by decide +kernel
theorem dX7_degreeIn_108 : decode cX7_degreeIn 108 = .ok (.iload_n 1, 1) := by decide +kernel
theorem dX7_degreeIn_109 : decode cX7_degreeIn 109 = .ok (.iastore, 1) := by decide +kernel
theorem dX7_degreeIn_110 : decode cX7_degreeIn 110 = .ok (.aload_n 0, 1) := by decide +kernel
theorem dX7_degreeIn_111 : decode cX7_degreeIn 111 = .ok (.getfield 25, 3) := by decide +kernel
theorem dX7_degreeIn_114 : decode cX7_degreeIn 114 = .ok (.aload_n 0, 1) := by decide +kernel
theorem dX7_degreeIn_115 : decode cX7_degreeIn 115 = .ok (.getfield 12, 3) := by decide +kernel
theorem dX7_degreeIn_118 : decode cX7_degreeIn 118 = .ok (.getfield 58, 3) := by decide +kernel
theorem dX7_degreeIn_121 : decode cX7_degreeIn 121 = .ok (.invokevirtual 76, 3) := by decide +kernel
theorem dX7_degreeIn_124 : decode cX7_degreeIn 124 = .ok (.invokestatic 64, 3) := by decide +kernel
theorem dX7_degreeIn_127 : decode cX7_degreeIn 127 = .ok (.ireturn, 1) := by decide +kernel
theorem dX7_keptDegree_0 : decode cX7_keptDegree 0 = .ok (.iconst 0, 1) := by decide +kernel
theorem dX7_keptDegree_1 : decode cX7_keptDegree 1 = .ok (.bipush 99, 2) := by decide +kernel
theorem dX7_keptDegree_3 : decode cX7_keptDegree 3 = .ok (.iload_n 0, 1) := by decide +kernel
theorem dX7_keptDegree_4 : decode cX7_keptDegree 4 = .ok (.invokestatic 86, 3) := by decide +kernel
theorem dX7_keptDegree_7 : decode cX7_keptDegree 7 = .ok (.invokestatic 89, 3) := by decide +kernel
theorem dX7_keptDegree_10 : decode cX7_keptDegree 10 = .ok (.ireturn, 1) := by decide +kernel
theorem dX7_codeIn_0 : decode cX7_codeIn 0 = .ok (.aload_n 0, 1) := by decide +kernel
theorem dX7_codeIn_1 : decode cX7_codeIn 1 = .ok (.iload_n 1, 1) := by decide +kernel
theorem dX7_codeIn_2 : decode cX7_codeIn 2 = .ok (.iload_n 2, 1) := by decide +kernel
theorem dX7_codeIn_3 : decode cX7_codeIn 3 = .ok (.aload_n 0, 1) := by decide +kernel
theorem dX7_codeIn_4 : decode cX7_codeIn 4 = .ok (.iload_n 1, 1) := by decide +kernel
theorem dX7_codeIn_5 : decode cX7_codeIn 5 = .ok (.iload_n 2, 1) := by decide +kernel
theorem dX7_codeIn_6 : decode cX7_codeIn 6 = .ok (.invokevirtual 92, 3) := by decide +kernel
theorem dX7_codeIn_9 : decode cX7_codeIn 9 = .ok (.aload_n 0, 1) := by decide +kernel
theorem dX7_codeIn_10 : decode cX7_codeIn 10 = .ok (.invokevirtual 95, 3) := by decide +kernel
theorem dX7_codeIn_13 : decode cX7_codeIn 13 = .ok (.invokevirtual 99, 3) := by decide +kernel
theorem dX7_codeIn_16 : decode cX7_codeIn 16 = .ok (.ireturn, 1) := by decide +kernel
theorem dX7_actsOf_0 : decode cX7_actsOf 0 = .ok (.aload_n 0, 1) := by decide +kernel
theorem dX7_actsOf_1 : decode cX7_actsOf 1 = .ok (.invokevirtual 95, 3) := by decide +kernel
theorem dX7_actsOf_4 : decode cX7_actsOf 4 = .ok (.aload_n 0, 1) := by decide +kernel
theorem dX7_actsOf_5 : decode cX7_actsOf 5 = .ok (.getfield 12, 3) := by decide +kernel
theorem dX7_actsOf_8 : decode cX7_actsOf 8 = .ok (.getfield 103, 3) := by decide +kernel
theorem dX7_actsOf_11 : decode cX7_actsOf 11 = .ok (.iload_n 1, 1) := by decide +kernel
theorem dX7_actsOf_12 : decode cX7_actsOf 12 = .ok (.iaload, 1) := by decide +kernel
theorem dX7_actsOf_13 : decode cX7_actsOf 13 = .ok (.iand, 1) := by decide +kernel
theorem dX7_actsOf_14 : decode cX7_actsOf 14 = .ok (.ireturn, 1) := by decide +kernel
theorem dX7_inForce_0 : decode cX7_inForce 0 = .ok (.iconst 0, 1) := by decide +kernel
theorem dX7_inForce_1 : decode cX7_inForce 1 = .ok (.istore 5, 2) := by decide +kernel
theorem dX7_inForce_3 : decode cX7_inForce 3 = .ok (.iconst 0, 1) := by decide +kernel
theorem dX7_inForce_4 : decode cX7_inForce 4 = .ok (.istore 6, 2) := by decide +kernel
theorem dX7_inForce_6 : decode cX7_inForce 6 = .ok (.iload 6, 2) := by decide +kernel
theorem dX7_inForce_8 : decode cX7_inForce 8 = .ok (.aload_n 0, 1) := by decide +kernel
theorem dX7_inForce_9 : decode cX7_inForce 9 = .ok (.getfield 12, 3) := by decide +kernel
theorem dX7_inForce_12 : decode cX7_inForce 12 = .ok (.getfield 51, 3) := by decide +kernel
theorem dX7_inForce_15 : decode cX7_inForce 15 = .ok (.if_icmp .ge 56, 3) := by decide +kernel
theorem dX7_inForce_18 : decode cX7_inForce 18 = .ok (.iload 4, 2) := by decide +kernel
theorem dX7_inForce_20 : decode cX7_inForce 20 = .ok (.iload 6, 2) := by decide +kernel
theorem dX7_inForce_22 : decode cX7_inForce 22 = .ok (.ishr, 1) := by decide +kernel
theorem dX7_inForce_23 : decode cX7_inForce 23 = .ok (.iconst 1, 1) := by decide +kernel
theorem dX7_inForce_24 : decode cX7_inForce 24 = .ok (.iand, 1) := by decide +kernel
theorem dX7_inForce_25 : decode cX7_inForce 25 = .ok (.ifCond .eq 40, 3) := by decide +kernel
theorem dX7_inForce_28 : decode cX7_inForce 28 = .ok (.aload_n 0, 1) := by decide +kernel
theorem dX7_inForce_29 : decode cX7_inForce 29 = .ok (.getfield 18, 3) := by decide +kernel
theorem dX7_inForce_32 : decode cX7_inForce 32 = .ok (.bipush 33, 2) := by decide +kernel
theorem dX7_inForce_34 : decode cX7_inForce 34 = .ok (.iload 6, 2) := by decide +kernel
theorem dX7_inForce_36 : decode cX7_inForce 36 = .ok (.iadd, 1) := by decide +kernel
theorem dX7_inForce_37 : decode cX7_inForce 37 = .ok (.iaload, 1) := by decide +kernel
theorem dX7_inForce_38 : decode cX7_inForce 38 = .ok (.iload_n 3, 1) := by decide +kernel
theorem dX7_inForce_39 : decode cX7_inForce 39 = .ok (.if_icmp .gt 26, 3) := by decide +kernel
theorem dX7_inForce_42 : decode cX7_inForce 42 = .ok (.iload_n 3, 1) := by decide +kernel
theorem dX7_inForce_43 : decode cX7_inForce 43 = .ok (.aload_n 0, 1) := by decide +kernel
theorem dX7_inForce_44 : decode cX7_inForce 44 = .ok (.getfield 18, 3) := by decide +kernel
theorem dX7_inForce_47 : decode cX7_inForce 47 = .ok (.bipush 41, 2) := by decide +kernel
theorem dX7_inForce_49 : decode cX7_inForce 49 = .ok (.iload 6, 2) := by decide +kernel
theorem dX7_inForce_51 : decode cX7_inForce 51 = .ok (.iadd, 1) := by decide +kernel
theorem dX7_inForce_52 : decode cX7_inForce 52 = .ok (.iaload, 1) := by decide +kernel
theorem dX7_inForce_53 : decode cX7_inForce 53 = .ok (.if_icmp .gt 12, 3) := by decide +kernel
theorem dX7_inForce_56 : decode cX7_inForce 56 = .ok (.iload 5, 2) := by decide +kernel
theorem dX7_inForce_58 : decode cX7_inForce 58 = .ok (.iconst 1, 1) := by decide +kernel
theorem dX7_inForce_59 : decode cX7_inForce 59 = .ok (.iload 6, 2) := by decide +kernel
theorem dX7_inForce_61 : decode cX7_inForce 61 = .ok (.ishl, 1) := by decide +kernel
theorem dX7_inForce_62 : decode cX7_inForce 62 = .ok (.ior, 1) := by decide +kernel
theorem dX7_inForce_63 : decode cX7_inForce 63 = .ok (.istore 5, 2) := by decide +kernel
theorem dX7_inForce_65 : decode cX7_inForce 65 = .ok (.iinc 6 1, 3) := by decide +kernel
theorem dX7_inForce_68 : decode cX7_inForce 68 = .ok (.goto (-62), 3) := by decide +kernel
theorem dX7_inForce_71 : decode cX7_inForce 71 = .ok (.aload_n 0, 1) := by decide +kernel
theorem dX7_inForce_72 : decode cX7_inForce 72 = .ok (.getfield 12, 3) := by decide +kernel
theorem dX7_inForce_75 : decode cX7_inForce 75 = .ok (.getfield 106, 3) := by decide +kernel
theorem dX7_inForce_78 : decode cX7_inForce 78 = .ok (.arraylength, 1) := by decide +kernel
theorem dX7_inForce_79 : decode cX7_inForce 79 = .ok (.ifCond .ne 6, 3) := by decide +kernel
theorem dX7_inForce_82 : decode cX7_inForce 82 = .ok (.iload 5, 2) := by decide +kernel
theorem dX7_inForce_84 : decode cX7_inForce 84 = .ok (.ireturn, 1) := by decide +kernel
theorem dX7_inForce_85 : decode cX7_inForce 85 = .ok (.iconst 0, 1) := by decide +kernel
theorem dX7_inForce_86 : decode cX7_inForce 86 = .ok (.istore 6, 2) := by decide +kernel
theorem dX7_inForce_88 : decode cX7_inForce 88 = .ok (.iconst 0, 1) := by decide +kernel
theorem dX7_inForce_89 : decode cX7_inForce 89 = .ok (.istore 7, 2) := by decide +kernel
theorem dX7_inForce_91 : decode cX7_inForce 91 = .ok (.iload 7, 2) := by decide +kernel
theorem dX7_inForce_93 : decode cX7_inForce 93 = .ok (.aload_n 0, 1) := by decide +kernel
theorem dX7_inForce_94 : decode cX7_inForce 94 = .ok (.getfield 12, 3) := by decide +kernel
theorem dX7_inForce_97 : decode cX7_inForce 97 = .ok (.getfield 51, 3) := by decide +kernel
theorem dX7_inForce_100 : decode cX7_inForce 100 = .ok (.if_icmp .ge 70, 3) := by decide +kernel
theorem dX7_inForce_103 : decode cX7_inForce 103 = .ok (.iload 5, 2) := by decide +kernel
theorem dX7_inForce_105 : decode cX7_inForce 105 = .ok (.iload 7, 2) := by decide +kernel
theorem dX7_inForce_107 : decode cX7_inForce 107 = .ok (.ishr, 1) := by decide +kernel
theorem dX7_inForce_108 : decode cX7_inForce 108 = .ok (.iconst 1, 1) := by decide +kernel
theorem dX7_inForce_109 : decode cX7_inForce 109 = .ok (.iand, 1) := by decide +kernel
theorem dX7_inForce_110 : decode cX7_inForce 110 = .ok (.ifCond .eq 54, 3) := by decide +kernel
theorem dX7_inForce_113 : decode cX7_inForce 113 = .ok (.iload 5, 2) := by decide +kernel
theorem dX7_inForce_115 : decode cX7_inForce 115 = .ok (.aload_n 0, 1) := by decide +kernel
theorem dX7_inForce_116 : decode cX7_inForce 116 = .ok (.getfield 12, 3) := by decide +kernel
theorem dX7_inForce_119 : decode cX7_inForce 119 = .ok (.getfield 103, 3) := by decide +kernel
theorem dX7_inForce_122 : decode cX7_inForce 122 = .ok (.aload_n 0, 1) := by decide +kernel
theorem dX7_inForce_123 : decode cX7_inForce 123 = .ok (.getfield 12, 3) := by decide +kernel
theorem dX7_inForce_126 : decode cX7_inForce 126 = .ok (.getfield 109, 3) := by decide +kernel
theorem dX7_inForce_129 : decode cX7_inForce 129 = .ok (.iload 7, 2) := by decide +kernel
theorem dX7_inForce_131 : decode cX7_inForce 131 = .ok (.iaload, 1) := by decide +kernel
theorem dX7_inForce_132 : decode cX7_inForce 132 = .ok (.iaload, 1) := by decide +kernel
theorem dX7_inForce_133 : decode cX7_inForce 133 = .ok (.iand, 1) := by decide +kernel
theorem dX7_inForce_134 : decode cX7_inForce 134 = .ok (.invokestatic 112, 3) := by decide +kernel
theorem dX7_inForce_137 : decode cX7_inForce 137 = .ok (.istore 8, 2) := by decide +kernel
theorem dX7_inForce_139 : decode cX7_inForce 139 = .ok (.aload_n 0, 1) := by decide +kernel
theorem dX7_inForce_140 : decode cX7_inForce 140 = .ok (.iload 7, 2) := by decide +kernel
theorem dX7_inForce_142 : decode cX7_inForce 142 = .ok (.iload 8, 2) := by decide +kernel
theorem dX7_inForce_144 : decode cX7_inForce 144 = .ok (.iload_n 1, 1) := by decide +kernel
theorem dX7_inForce_145 : decode cX7_inForce 145 = .ok (.iload_n 2, 1) := by decide +kernel
theorem dX7_inForce_146 : decode cX7_inForce 146 = .ok (.invokestatic 73, 3) := by decide +kernel
theorem dX7_inForce_149 : decode cX7_inForce 149 = .ok (.invokevirtual 117, 3) := by decide +kernel
theorem dX7_inForce_152 : decode cX7_inForce 152 = .ok (.ifCond .eq 12, 3) := by decide +kernel
theorem dX7_inForce_155 : decode cX7_inForce 155 = .ok (.iload 6, 2) := by decide +kernel
theorem dX7_inForce_157 : decode cX7_inForce 157 = .ok (.iconst 1, 1) := by decide +kernel
theorem dX7_inForce_158 : decode cX7_inForce 158 = .ok (.iload 7, 2) := by decide +kernel
theorem dX7_inForce_160 : decode cX7_inForce 160 = .ok (.ishl, 1) := by decide +kernel
theorem dX7_inForce_161 : decode cX7_inForce 161 = .ok (.ior, 1) := by decide +kernel
theorem dX7_inForce_162 : decode cX7_inForce 162 = .ok (.istore 6, 2) := by decide +kernel
theorem dX7_inForce_164 : decode cX7_inForce 164 = .ok (.iinc 7 1, 3) := by decide +kernel
theorem dX7_inForce_167 : decode cX7_inForce 167 = .ok (.goto (-76), 3) := by decide +kernel
theorem dX7_inForce_170 : decode cX7_inForce 170 = .ok (.iload 6, 2) := by decide +kernel
theorem dX7_inForce_172 : decode cX7_inForce 172 = .ok (.ireturn, 1) := by decide +kernel
theorem dX7_prevails_0 : decode cX7_prevails 0 = .ok (.iload_n 3, 1) := by decide +kernel
theorem dX7_prevails_1 : decode cX7_prevails 1 = .ok (.bipush 24, 2) := by decide +kernel
theorem dX7_prevails_3 : decode cX7_prevails 3 = .ok (.imul, 1) := by decide +kernel
theorem dX7_prevails_4 : decode cX7_prevails 4 = .ok (.iload 4, 2) := by decide +kernel
theorem dX7_prevails_6 : decode cX7_prevails 6 = .ok (.iadd, 1) := by decide +kernel
theorem dX7_prevails_7 : decode cX7_prevails 7 = .ok (.bipush 8, 2) := by decide +kernel
theorem dX7_prevails_9 : decode cX7_prevails 9 = .ok (.imul, 1) := by decide +kernel
theorem dX7_prevails_10 : decode cX7_prevails 10 = .ok (.iload_n 1, 1) := by decide +kernel
theorem dX7_prevails_11 : decode cX7_prevails 11 = .ok (.iadd, 1) := by decide +kernel
theorem dX7_prevails_12 : decode cX7_prevails 12 = .ok (.istore 5, 2) := by decide +kernel
theorem dX7_prevails_14 : decode cX7_prevails 14 = .ok (.aload_n 0, 1) := by decide +kernel
theorem dX7_prevails_15 : decode cX7_prevails 15 = .ok (.getfield 29, 3) := by decide +kernel
theorem dX7_prevails_18 : decode cX7_prevails 18 = .ok (.iload 5, 2) := by decide +kernel
theorem dX7_prevails_20 : decode cX7_prevails 20 = .ok (.iaload, 1) := by decide +kernel
theorem dX7_prevails_21 : decode cX7_prevails 21 = .ok (.istore 6, 2) := by decide +kernel
theorem dX7_prevails_23 : decode cX7_prevails 23 = .ok (.iload 6, 2) := by decide +kernel
theorem dX7_prevails_25 : decode cX7_prevails 25 = .ok (.iload_n 2, 1) := by decide +kernel
theorem dX7_prevails_26 : decode cX7_prevails 26 = .ok (.ishr, 1) := by decide +kernel
theorem dX7_prevails_27 : decode cX7_prevails 27 = .ok (.iconst 1, 1) := by decide +kernel
theorem dX7_prevails_28 : decode cX7_prevails 28 = .ok (.iand, 1) := by decide +kernel
theorem dX7_prevails_29 : decode cX7_prevails 29 = .ok (.ifCond .ne 124, 3) := by decide +kernel
theorem dX7_prevails_32 : decode cX7_prevails 32 = .ok (.aload_n 0, 1) := by decide +kernel
theorem dX7_prevails_33 : decode cX7_prevails 33 = .ok (.getfield 25, 3) := by decide +kernel
theorem dX7_prevails_36 : decode cX7_prevails 36 = .ok (.getfield 68, 3) := by decide +kernel
theorem dX7_prevails_39 : decode cX7_prevails 39 = .ok (.astore 7, 2) := by decide +kernel
theorem dX7_prevails_41 : decode cX7_prevails 41 = .ok (.aload 7, 2) := by decide +kernel
theorem dX7_prevails_43 : decode cX7_prevails 43 = .ok (.iconst 1, 1) := by decide +kernel
theorem dX7_prevails_44 : decode cX7_prevails 44 = .ok (.iload_n 1, 1) := by decide +kernel
theorem dX7_prevails_45 : decode cX7_prevails 45 = .ok (.iastore, 1) := by decide +kernel
theorem dX7_prevails_46 : decode cX7_prevails 46 = .ok (.aload 7, 2) := by decide +kernel
theorem dX7_prevails_48 : decode cX7_prevails 48 = .ok (.bipush 18, 2) := by decide +kernel
theorem dX7_prevails_50 : decode cX7_prevails 50 = .ok (.aload_n 0, 1) := by decide +kernel
theorem dX7_prevails_51 : decode cX7_prevails 51 = .ok (.getfield 12, 3) := by decide +kernel
theorem dX7_prevails_54 : decode cX7_prevails 54 = .ok (.getfield 109, 3) := by decide +kernel
theorem dX7_prevails_57 : decode cX7_prevails 57 = .ok (.iload_n 1, 1) := by decide +kernel
theorem dX7_prevails_58 : decode cX7_prevails 58 = .ok (.iaload, 1) := by decide +kernel
theorem dX7_prevails_59 : decode cX7_prevails 59 = .ok (.iastore, 1) := by decide +kernel
theorem dX7_prevails_60 : decode cX7_prevails 60 = .ok (.aload 7, 2) := by decide +kernel
theorem dX7_prevails_62 : decode cX7_prevails 62 = .ok (.bipush 10, 2) := by decide +kernel
theorem dX7_prevails_64 : decode cX7_prevails 64 = .ok (.aload_n 0, 1) := by decide +kernel
theorem dX7_prevails_65 : decode cX7_prevails 65 = .ok (.getfield 12, 3) := by decide +kernel
theorem dX7_prevails_68 : decode cX7_prevails 68 = .ok (.getfield 121, 3) := by decide +kernel
theorem dX7_prevails_71 : decode cX7_prevails 71 = .ok (.iload_n 1, 1) := by decide +kernel
theorem dX7_prevails_72 : decode cX7_prevails 72 = .ok (.iaload, 1) := by decide +kernel
theorem dX7_prevails_73 : decode cX7_prevails 73 = .ok (.iastore, 1) := by decide +kernel
theorem dX7_prevails_74 : decode cX7_prevails 74 = .ok (.aload 7, 2) := by decide +kernel
theorem dX7_prevails_76 : decode cX7_prevails 76 = .ok (.bipush 19, 2) := by decide +kernel
theorem dX7_prevails_78 : decode cX7_prevails 78 = .ok (.aload_n 0, 1) := by decide +kernel
theorem dX7_prevails_79 : decode cX7_prevails 79 = .ok (.getfield 18, 3) := by decide +kernel
theorem dX7_prevails_82 : decode cX7_prevails 82 = .ok (.bipush 41, 2) := by decide +kernel
theorem dX7_prevails_84 : decode cX7_prevails 84 = .ok (.iload_n 1, 1) := by decide +kernel
theorem dX7_prevails_85 : decode cX7_prevails 85 = .ok (.iadd, 1) := by decide +kernel
theorem dX7_prevails_86 : decode cX7_prevails 86 = .ok (.iaload, 1) := by decide +kernel
theorem dX7_prevails_87 : decode cX7_prevails 87 = .ok (.aload_n 0, 1) := by decide +kernel
theorem dX7_prevails_88 : decode cX7_prevails 88 = .ok (.getfield 18, 3) := by decide +kernel
theorem dX7_prevails_91 : decode cX7_prevails 91 = .ok (.bipush 33, 2) := by decide +kernel
theorem dX7_prevails_93 : decode cX7_prevails 93 = .ok (.iload_n 1, 1) := by decide +kernel
theorem dX7_prevails_94 : decode cX7_prevails 94 = .ok (.iadd, 1) := by decide +kernel
theorem dX7_prevails_95 : decode cX7_prevails 95 = .ok (.iaload, 1) := by decide +kernel
theorem dX7_prevails_96 : decode cX7_prevails 96 = .ok (.isub, 1) := by decide +kernel
theorem dX7_prevails_97 : decode cX7_prevails 97 = .ok (.iastore, 1) := by decide +kernel
theorem dX7_prevails_98 : decode cX7_prevails 98 = .ok (.aload 7, 2) := by decide +kernel
theorem dX7_prevails_100 : decode cX7_prevails 100 = .ok (.bipush 20, 2) := by decide +kernel
theorem dX7_prevails_102 : decode cX7_prevails 102 = .ok (.iload_n 2, 1) := by decide +kernel
theorem dX7_prevails_103 : decode cX7_prevails 103 = .ok (.iastore, 1) := by decide +kernel
theorem dX7_prevails_104 : decode cX7_prevails 104 = .ok (.aload 7, 2) := by decide +kernel
theorem dX7_prevails_106 : decode cX7_prevails 106 = .ok (.bipush 6, 2) := by decide +kernel
theorem dX7_prevails_108 : decode cX7_prevails 108 = .ok (.iload 4, 2) := by decide +kernel
theorem dX7_prevails_110 : decode cX7_prevails 110 = .ok (.iastore, 1) := by decide +kernel
theorem dX7_prevails_111 : decode cX7_prevails 111 = .ok (.aload 7, 2) := by decide +kernel
theorem dX7_prevails_113 : decode cX7_prevails 113 = .ok (.iconst 0, 1) := by decide +kernel
theorem dX7_prevails_114 : decode cX7_prevails 114 = .ok (.iload_n 3, 1) := by decide +kernel
theorem dX7_prevails_115 : decode cX7_prevails 115 = .ok (.iastore, 1) := by decide +kernel
theorem dX7_prevails_116 : decode cX7_prevails 116 = .ok (.iload 6, 2) := by decide +kernel
theorem dX7_prevails_118 : decode cX7_prevails 118 = .ok (.iconst 1, 1) := by decide +kernel
theorem dX7_prevails_119 : decode cX7_prevails 119 = .ok (.iload_n 2, 1) := by decide +kernel
theorem dX7_prevails_120 : decode cX7_prevails 120 = .ok (.ishl, 1) := by decide +kernel
theorem dX7_prevails_121 : decode cX7_prevails 121 = .ok (.aload_n 0, 1) := by decide +kernel
theorem dX7_prevails_122 : decode cX7_prevails 122 = .ok (.getfield 25, 3) := by decide +kernel
theorem dX7_prevails_125 : decode cX7_prevails 125 = .ok (.aload_n 0, 1) := by decide +kernel
theorem dX7_prevails_126 : decode cX7_prevails 126 = .ok (.getfield 12, 3) := by decide +kernel
theorem dX7_prevails_129 : decode cX7_prevails 129 = .ok (.getfield 106, 3) := by decide +kernel
theorem dX7_prevails_132 : decode cX7_prevails 132 = .ok (.invokevirtual 76, 3) := by decide +kernel
theorem dX7_prevails_135 : decode cX7_prevails 135 = .ok (.bipush 16, 2) := by decide +kernel
theorem dX7_prevails_137 : decode cX7_prevails 137 = .ok (.iload_n 2, 1) := by decide +kernel
theorem dX7_prevails_138 : decode cX7_prevails 138 = .ok (.iadd, 1) := by decide +kernel
theorem dX7_prevails_139 : decode cX7_prevails 139 = .ok (.ishl, 1) := by decide +kernel
theorem dX7_prevails_140 : decode cX7_prevails 140 = .ok (.ior, 1) := by decide +kernel
theorem dX7_prevails_141 : decode cX7_prevails 141 = .ok (.ior, 1) := by decide +kernel
theorem dX7_prevails_142 : decode cX7_prevails 142 = .ok (.istore 6, 2) := by decide +kernel
theorem dX7_prevails_144 : decode cX7_prevails 144 = .ok (.aload_n 0, 1) := by decide +kernel
theorem dX7_prevails_145 : decode cX7_prevails 145 = .ok (.getfield 29, 3) := by decide +kernel
theorem dX7_prevails_148 : decode cX7_prevails 148 = .ok (.iload 5, 2) := by decide +kernel
theorem dX7_prevails_150 : decode cX7_prevails 150 = .ok (.iload 6, 2) := by decide +kernel
theorem dX7_prevails_152 : decode cX7_prevails 152 = .ok (.iastore, 1) := by decide +kernel
theorem dX7_prevails_153 : decode cX7_prevails 153 = .ok (.iload 6, 2) := by decide +kernel
theorem dX7_prevails_155 : decode cX7_prevails 155 = .ok (.bipush 16, 2) := by decide +kernel
theorem dX7_prevails_157 : decode cX7_prevails 157 = .ok (.iload_n 2, 1) := by decide +kernel
theorem dX7_prevails_158 : decode cX7_prevails 158 = .ok (.iadd, 1) := by decide +kernel
theorem dX7_prevails_159 : decode cX7_prevails 159 = .ok (.ishr, 1) := by decide +kernel
theorem dX7_prevails_160 : decode cX7_prevails 160 = .ok (.iconst 1, 1) := by decide +kernel
theorem dX7_prevails_161 : decode cX7_prevails 161 = .ok (.iand, 1) := by decide +kernel
theorem dX7_prevails_162 : decode cX7_prevails 162 = .ok (.ifCond .eq 7, 3) := by decide +kernel
theorem dX7_prevails_165 : decode cX7_prevails 165 = .ok (.iconst 1, 1) := by decide +kernel
theorem dX7_prevails_166 : decode cX7_prevails 166 = .ok (.goto 4, 3) := by decide +kernel
theorem dX7_prevails_169 : decode cX7_prevails 169 = .ok (.iconst 0, 1) := by decide +kernel
theorem dX7_prevails_170 : decode cX7_prevails 170 = .ok (.ireturn, 1) := by decide +kernel
theorem dX7_measured_0 : decode cX7_measured 0 = .ok (.aload_n 0, 1) := by decide +kernel
theorem dX7_measured_1 : decode cX7_measured 1 = .ok (.getfield 12, 3) := by decide +kernel
theorem dX7_measured_4 : decode cX7_measured 4 = .ok (.getfield 124, 3) := by decide +kernel
theorem dX7_measured_7 : decode cX7_measured 7 = .ok (.ifCond .eq 7, 3) := by decide +kernel
theorem dX7_measured_10 : decode cX7_measured 10 = .ok (.iload_n 1, 1) := by decide +kernel
theorem dX7_measured_11 : decode cX7_measured 11 = .ok (.goto 4, 3) := by decide +kernel
theorem dX7_measured_14 : decode cX7_measured 14 = .ok (.iconst 1, 1) := by decide +kernel
theorem dX7_measured_15 : decode cX7_measured 15 = .ok (.ireturn, 1) := by decide +kernel
theorem dX7_fineOfDeed_0 : decode cX7_fineOfDeed 0 = .ok (.aload_n 0, 1) := by decide +kernel
theorem dX7_fineOfDeed_1 : decode cX7_fineOfDeed 1 = .ok (.iload_n 1, 1) := by decide +kernel
theorem dX7_fineOfDeed_2 : decode cX7_fineOfDeed 2 = .ok (.invokevirtual 128, 3) := by decide +kernel
theorem dX7_fineOfDeed_5 : decode cX7_fineOfDeed 5 = .ok (.istore 5, 2) := by decide +kernel
theorem dX7_fineOfDeed_7 : decode cX7_fineOfDeed 7 = .ok (.aload_n 0, 1) := by decide +kernel
theorem dX7_fineOfDeed_8 : decode cX7_fineOfDeed 8 = .ok (.iload 4, 2) := by decide +kernel
theorem dX7_fineOfDeed_10 : decode cX7_fineOfDeed 10 = .ok (.invokevirtual 131, 3) := by decide +kernel
theorem dX7_fineOfDeed_13 : decode cX7_fineOfDeed 13 = .ok (.istore 6, 2) := by decide +kernel
theorem dX7_fineOfDeed_15 : decode cX7_fineOfDeed 15 = .ok (.iconst 0, 1) := by decide +kernel
theorem dX7_fineOfDeed_16 : decode cX7_fineOfDeed 16 = .ok (.istore 7, 2) := by decide +kernel
theorem dX7_fineOfDeed_18 : decode cX7_fineOfDeed 18 = .ok (.iconst 0, 1) := by decide +kernel
theorem dX7_fineOfDeed_19 : decode cX7_fineOfDeed 19 = .ok (.istore 8, 2) := by decide +kernel
theorem dX7_fineOfDeed_21 : decode cX7_fineOfDeed 21 = .ok (.iload 8, 2) := by decide +kernel
theorem dX7_fineOfDeed_23 : decode cX7_fineOfDeed 23 = .ok (.iload 6, 2) := by decide +kernel
theorem dX7_fineOfDeed_25 : decode cX7_fineOfDeed 25 = .ok (.if_icmp .ge 41, 3) := by decide +kernel
theorem dX7_fineOfDeed_28 : decode cX7_fineOfDeed 28 = .ok (.iload 7, 2) := by decide +kernel
theorem dX7_fineOfDeed_30 : decode cX7_fineOfDeed 30 = .ok (.aload_n 0, 1) := by decide +kernel
theorem dX7_fineOfDeed_31 : decode cX7_fineOfDeed 31 = .ok (.getfield 12, 3) := by decide +kernel
theorem dX7_fineOfDeed_34 : decode cX7_fineOfDeed 34 = .ok (.aload_n 0, 1) := by decide +kernel
theorem dX7_fineOfDeed_35 : decode cX7_fineOfDeed 35 = .ok (.iload_n 2, 1) := by decide +kernel
theorem dX7_fineOfDeed_36 : decode cX7_fineOfDeed 36 = .ok (.iload_n 3, 1) := by decide +kernel
theorem dX7_fineOfDeed_37 : decode cX7_fineOfDeed 37 = .ok (.iload 8, 2) := by decide +kernel
theorem dX7_fineOfDeed_39 : decode cX7_fineOfDeed 39 = .ok (.iadd, 1) := by decide +kernel
theorem dX7_fineOfDeed_40 : decode cX7_fineOfDeed 40 = .ok (.aload_n 0, 1) := by decide +kernel
theorem dX7_fineOfDeed_41 : decode cX7_fineOfDeed 41 = .ok (.iload_n 2, 1) := by decide +kernel
theorem dX7_fineOfDeed_42 : decode cX7_fineOfDeed 42 = .ok (.iload_n 3, 1) := by decide +kernel
theorem dX7_fineOfDeed_43 : decode cX7_fineOfDeed 43 = .ok (.iload 8, 2) := by decide +kernel
theorem dX7_fineOfDeed_45 : decode cX7_fineOfDeed 45 = .ok (.iadd, 1) := by decide +kernel
theorem dX7_fineOfDeed_46 : decode cX7_fineOfDeed 46 = .ok (.invokevirtual 92, 3) := by decide +kernel
theorem dX7_fineOfDeed_49 : decode cX7_fineOfDeed 49 = .ok (.iload 5, 2) := by decide +kernel
theorem dX7_fineOfDeed_51 : decode cX7_fineOfDeed 51 = .ok (.invokevirtual 99, 3) := by decide +kernel
theorem dX7_fineOfDeed_54 : decode cX7_fineOfDeed 54 = .ok (.invokevirtual 134, 3) := by decide +kernel
theorem dX7_fineOfDeed_57 : decode cX7_fineOfDeed 57 = .ok (.iadd, 1) := by decide +kernel
theorem dX7_fineOfDeed_58 : decode cX7_fineOfDeed 58 = .ok (.istore 7, 2) := by decide +kernel
theorem dX7_fineOfDeed_60 : decode cX7_fineOfDeed 60 = .ok (.iinc 8 1, 3) := by decide +kernel
theorem dX7_fineOfDeed_63 : decode cX7_fineOfDeed 63 = .ok (.goto (-42), 3) := by decide +kernel
theorem dX7_fineOfDeed_66 : decode cX7_fineOfDeed 66 = .ok (.iload 7, 2) := by decide +kernel
theorem dX7_fineOfDeed_68 : decode cX7_fineOfDeed 68 = .ok (.ireturn, 1) := by decide +kernel
theorem dX7_doDeed_0 : decode cX7_doDeed 0 = .ok (.aload_n 0, 1) := by decide +kernel
theorem dX7_doDeed_1 : decode cX7_doDeed 1 = .ok (.iload_n 1, 1) := by decide +kernel
theorem dX7_doDeed_2 : decode cX7_doDeed 2 = .ok (.iload_n 2, 1) := by decide +kernel
theorem dX7_doDeed_3 : decode cX7_doDeed 3 = .ok (.aload_n 0, 1) := by decide +kernel
theorem dX7_doDeed_4 : decode cX7_doDeed 4 = .ok (.getfield 18, 3) := by decide +kernel
theorem dX7_doDeed_7 : decode cX7_doDeed 7 = .ok (.iconst 0, 1) := by decide +kernel
theorem dX7_doDeed_8 : decode cX7_doDeed 8 = .ok (.iaload, 1) := by decide +kernel
theorem dX7_doDeed_9 : decode cX7_doDeed 9 = .ok (.iload_n 3, 1) := by decide +kernel
theorem dX7_doDeed_10 : decode cX7_doDeed 10 = .ok (.invokevirtual 137, 3) := by decide +kernel
theorem dX7_doDeed_13 : decode cX7_doDeed 13 = .ok (.istore 4, 2) := by decide +kernel
theorem dX7_doDeed_15 : decode cX7_doDeed 15 = .ok (.aload_n 0, 1) := by decide +kernel
theorem dX7_doDeed_16 : decode cX7_doDeed 16 = .ok (.getfield 18, 3) := by decide +kernel
theorem dX7_doDeed_19 : decode cX7_doDeed 19 = .ok (.iconst 1, 1) := by decide +kernel
theorem dX7_doDeed_20 : decode cX7_doDeed 20 = .ok (.dup2, 1) := by decide +kernel
theorem dX7_doDeed_21 : decode cX7_doDeed 21 = .ok (.iaload, 1) := by decide +kernel
theorem dX7_doDeed_22 : decode cX7_doDeed 22 = .ok (.iload 4, 2) := by decide +kernel
theorem dX7_doDeed_24 : decode cX7_doDeed 24 = .ok (.iadd, 1) := by decide +kernel
theorem dX7_doDeed_25 : decode cX7_doDeed 25 = .ok (.iastore, 1) := by decide +kernel
theorem dX7_doDeed_26 : decode cX7_doDeed 26 = .ok (.aload_n 0, 1) := by decide +kernel
theorem dX7_doDeed_27 : decode cX7_doDeed 27 = .ok (.getfield 18, 3) := by decide +kernel
theorem dX7_doDeed_30 : decode cX7_doDeed 30 = .ok (.iconst 0, 1) := by decide +kernel
theorem dX7_doDeed_31 : decode cX7_doDeed 31 = .ok (.dup2, 1) := by decide +kernel
theorem dX7_doDeed_32 : decode cX7_doDeed 32 = .ok (.iaload, 1) := by decide +kernel
theorem dX7_doDeed_33 : decode cX7_doDeed 33 = .ok (.iload_n 3, 1) := by decide +kernel
theorem dX7_doDeed_34 : decode cX7_doDeed 34 = .ok (.iadd, 1) := by decide +kernel
theorem dX7_doDeed_35 : decode cX7_doDeed 35 = .ok (.iastore, 1) := by decide +kernel
theorem dX7_doDeed_36 : decode cX7_doDeed 36 = .ok (.iload 4, 2) := by decide +kernel
theorem dX7_doDeed_38 : decode cX7_doDeed 38 = .ok (.ireturn, 1) := by decide +kernel
theorem dX7_isDeed_0 : decode cX7_isDeed 0 = .ok (.lload_n 1, 1) := by decide +kernel
theorem dX7_isDeed_1 : decode cX7_isDeed 1 = .ok (.lconst 0, 1) := by decide +kernel
theorem dX7_isDeed_2 : decode cX7_isDeed 2 = .ok (.lcmp, 1) := by decide +kernel
theorem dX7_isDeed_3 : decode cX7_isDeed 3 = .ok (.ifCond .lt 58, 3) := by decide +kernel
theorem dX7_isDeed_6 : decode cX7_isDeed 6 = .ok (.lload_n 1, 1) := by decide +kernel
theorem dX7_isDeed_7 : decode cX7_isDeed 7 = .ok (.ldc2_w 140, 3) := by decide +kernel
theorem dX7_isDeed_10 : decode cX7_isDeed 10 = .ok (.lcmp, 1) := by decide +kernel
theorem dX7_isDeed_11 : decode cX7_isDeed 11 = .ok (.ifCond .gt 50, 3) := by decide +kernel
theorem dX7_isDeed_14 : decode cX7_isDeed 14 = .ok (.lload_n 1, 1) := by decide +kernel
theorem dX7_isDeed_15 : decode cX7_isDeed 15 = .ok (.ldc2_w 142, 3) := by decide +kernel
theorem dX7_isDeed_18 : decode cX7_isDeed 18 = .ok (.ldiv, 1) := by decide +kernel
theorem dX7_isDeed_19 : decode cX7_isDeed 19 = .ok (.ldc2_w 144, 3) := by decide +kernel
theorem dX7_isDeed_22 : decode cX7_isDeed 22 = .ok (.lrem, 1) := by decide +kernel
theorem dX7_isDeed_23 : decode cX7_isDeed 23 = .ok (.aload_n 0, 1) := by decide +kernel
theorem dX7_isDeed_24 : decode cX7_isDeed 24 = .ok (.getfield 12, 3) := by decide +kernel
theorem dX7_isDeed_27 : decode cX7_isDeed 27 = .ok (.getfield 146, 3) := by decide +kernel
theorem dX7_isDeed_30 : decode cX7_isDeed 30 = .ok (.i2l, 1) := by decide +kernel
theorem dX7_isDeed_31 : decode cX7_isDeed 31 = .ok (.lcmp, 1) := by decide +kernel
theorem dX7_isDeed_32 : decode cX7_isDeed 32 = .ok (.ifCond .ge 29, 3) := by decide +kernel
theorem dX7_isDeed_35 : decode cX7_isDeed 35 = .ok (.lload_n 1, 1) := by decide +kernel
theorem dX7_isDeed_36 : decode cX7_isDeed 36 = .ok (.ldc2_w 142, 3) := by decide +kernel
theorem dX7_isDeed_39 : decode cX7_isDeed 39 = .ok (.lrem, 1) := by decide +kernel
theorem dX7_isDeed_40 : decode cX7_isDeed 40 = .ok (.lconst 1, 1) := by decide +kernel
theorem dX7_isDeed_41 : decode cX7_isDeed 41 = .ok (.lcmp, 1) := by decide +kernel
theorem dX7_isDeed_42 : decode cX7_isDeed 42 = .ok (.ifCond .lt 19, 3) := by decide +kernel
theorem dX7_isDeed_45 : decode cX7_isDeed 45 = .ok (.lload_n 1, 1) := by decide +kernel
theorem dX7_isDeed_46 : decode cX7_isDeed 46 = .ok (.ldc2_w 142, 3) := by decide +kernel
theorem dX7_isDeed_49 : decode cX7_isDeed 49 = .ok (.lrem, 1) := by decide +kernel
theorem dX7_isDeed_50 : decode cX7_isDeed 50 = .ok (.ldc2_w 149, 3) := by decide +kernel
theorem dX7_isDeed_53 : decode cX7_isDeed 53 = .ok (.lcmp, 1) := by decide +kernel
theorem dX7_isDeed_54 : decode cX7_isDeed 54 = .ok (.ifCond .gt 7, 3) := by decide +kernel
theorem dX7_isDeed_57 : decode cX7_isDeed 57 = .ok (.iconst 1, 1) := by decide +kernel
theorem dX7_isDeed_58 : decode cX7_isDeed 58 = .ok (.goto 4, 3) := by decide +kernel
theorem dX7_isDeed_61 : decode cX7_isDeed 61 = .ok (.iconst 0, 1) := by decide +kernel
theorem dX7_isDeed_62 : decode cX7_isDeed 62 = .ok (.ireturn, 1) := by decide +kernel
theorem dX7_whyNot_0 : decode cX7_whyNot 0 = .ok (.lload_n 1, 1) := by decide +kernel
theorem dX7_whyNot_1 : decode cX7_whyNot 1 = .ok (.ldc2_w 151, 3) := by decide +kernel
theorem dX7_whyNot_4 : decode cX7_whyNot 4 = .ok (.lcmp, 1) := by decide +kernel
theorem dX7_whyNot_5 : decode cX7_whyNot 5 = .ok (.ifCond .lt 37, 3) := by decide +kernel
theorem dX7_whyNot_8 : decode cX7_whyNot 8 = .ok (.lload_n 1, 1) := by decide +kernel
theorem dX7_whyNot_9 : decode cX7_whyNot 9 = .ok (.ldc 153, 2) := by decide +kernel
theorem dX7_whyNot_11 : decode cX7_whyNot 11 = .ok (.aload_n 0, 1) := by decide +kernel
theorem dX7_whyNot_12 : decode cX7_whyNot 12 = .ok (.getfield 12, 3) := by decide +kernel
theorem dX7_whyNot_15 : decode cX7_whyNot 15 = .ok (.getfield 51, 3) := by decide +kernel
theorem dX7_whyNot_18 : decode cX7_whyNot 18 = .ok (.iadd, 1) := by decide +kernel
theorem dX7_whyNot_19 : decode cX7_whyNot 19 = .ok (.i2l, 1) := by decide +kernel
theorem dX7_whyNot_20 : decode cX7_whyNot 20 = .ok (.lcmp, 1) := by decide +kernel
theorem dX7_whyNot_21 : decode cX7_whyNot 21 = .ok (.ifCond .ge 21, 3) := by decide +kernel
theorem dX7_whyNot_24 : decode cX7_whyNot 24 = .ok (.aload_n 0, 1) := by decide +kernel
theorem dX7_whyNot_25 : decode cX7_whyNot 25 = .ok (.lload_n 1, 1) := by decide +kernel
theorem dX7_whyNot_26 : decode cX7_whyNot 26 = .ok (.l2i, 1) := by decide +kernel
theorem dX7_whyNot_27 : decode cX7_whyNot 27 = .ok (.ldc 153, 2) := by decide +kernel
theorem dX7_whyNot_29 : decode cX7_whyNot 29 = .ok (.isub, 1) := by decide +kernel
theorem dX7_whyNot_30 : decode cX7_whyNot 30 = .ok (.invokevirtual 154, 3) := by decide +kernel
theorem dX7_whyNot_33 : decode cX7_whyNot 33 = .ok (.ifCond .eq 7, 3) := by decide +kernel
theorem dX7_whyNot_36 : decode cX7_whyNot 36 = .ok (.iconst 2, 1) := by decide +kernel
theorem dX7_whyNot_37 : decode cX7_whyNot 37 = .ok (.goto 4, 3) := by decide +kernel
theorem dX7_whyNot_40 : decode cX7_whyNot 40 = .ok (.iconst 0, 1) := by decide +kernel
theorem dX7_whyNot_41 : decode cX7_whyNot 41 = .ok (.ireturn, 1) := by decide +kernel
theorem dX7_whyNot_42 : decode cX7_whyNot 42 = .ok (.lload_n 1, 1) := by decide +kernel
theorem dX7_whyNot_43 : decode cX7_whyNot 43 = .ok (.ldc2_w 158, 3) := by decide +kernel
theorem dX7_whyNot_46 : decode cX7_whyNot 46 = .ok (.lcmp, 1) := by decide +kernel
theorem dX7_whyNot_47 : decode cX7_whyNot 47 = .ok (.ifCond .lt 53, 3) := by decide +kernel
theorem dX7_whyNot_50 : decode cX7_whyNot 50 = .ok (.lload_n 1, 1) := by decide +kernel
theorem dX7_whyNot_51 : decode cX7_whyNot 51 = .ok (.ldc2_w 151, 3) := by decide +kernel
theorem dX7_whyNot_54 : decode cX7_whyNot 54 = .ok (.lcmp, 1) := by decide +kernel
theorem dX7_whyNot_55 : decode cX7_whyNot 55 = .ok (.ifCond .ge 45, 3) := by decide +kernel
theorem dX7_whyNot_58 : decode cX7_whyNot 58 = .ok (.lload_n 1, 1) := by decide +kernel
theorem dX7_whyNot_59 : decode cX7_whyNot 59 = .ok (.ldc2_w 160, 3) := by decide +kernel
theorem dX7_whyNot_62 : decode cX7_whyNot 62 = .ok (.lrem, 1) := by decide +kernel
theorem dX7_whyNot_63 : decode cX7_whyNot 63 = .ok (.ldc2_w 142, 3) := by decide +kernel
theorem dX7_whyNot_66 : decode cX7_whyNot 66 = .ok (.ldiv, 1) := by decide +kernel
theorem dX7_whyNot_67 : decode cX7_whyNot 67 = .ok (.aload_n 0, 1) := by decide +kernel
theorem dX7_whyNot_68 : decode cX7_whyNot 68 = .ok (.getfield 12, 3) := by decide +kernel
theorem dX7_whyNot_71 : decode cX7_whyNot 71 = .ok (.getfield 146, 3) := by decide +kernel
theorem dX7_whyNot_74 : decode cX7_whyNot 74 = .ok (.i2l, 1) := by decide +kernel
theorem dX7_whyNot_75 : decode cX7_whyNot 75 = .ok (.lcmp, 1) := by decide +kernel
theorem dX7_whyNot_76 : decode cX7_whyNot 76 = .ok (.ifCond .ge 19, 3) := by decide +kernel
theorem dX7_whyNot_79 : decode cX7_whyNot 79 = .ok (.lload_n 1, 1) := by decide +kernel
theorem dX7_whyNot_80 : decode cX7_whyNot 80 = .ok (.ldc2_w 142, 3) := by decide +kernel
theorem dX7_whyNot_83 : decode cX7_whyNot 83 = .ok (.lrem, 1) := by decide +kernel
theorem dX7_whyNot_84 : decode cX7_whyNot 84 = .ok (.ldc2_w 162, 3) := by decide +kernel
theorem dX7_whyNot_87 : decode cX7_whyNot 87 = .ok (.lcmp, 1) := by decide +kernel
theorem dX7_whyNot_88 : decode cX7_whyNot 88 = .ok (.ifCond .gt 7, 3) := by decide +kernel
theorem dX7_whyNot_91 : decode cX7_whyNot 91 = .ok (.iconst 1, 1) := by decide +kernel
theorem dX7_whyNot_92 : decode cX7_whyNot 92 = .ok (.goto 4, 3) := by decide +kernel
theorem dX7_whyNot_95 : decode cX7_whyNot 95 = .ok (.iconst 0, 1) := by decide +kernel
theorem dX7_whyNot_96 : decode cX7_whyNot 96 = .ok (.istore_n 3, 1) := by decide +kernel
theorem dX7_whyNot_97 : decode cX7_whyNot 97 = .ok (.goto 25, 3) := by decide +kernel
theorem dX7_whyNot_100 : decode cX7_whyNot 100 = .ok (.lload_n 1, 1) := by decide +kernel
theorem dX7_whyNot_101 : decode cX7_whyNot 101 = .ok (.ldc2_w 164, 3) := by decide +kernel
theorem dX7_whyNot_104 : decode cX7_whyNot 104 = .ok (.lcmp, 1) := by decide +kernel
theorem dX7_whyNot_105 : decode cX7_whyNot 105 = .ok (.ifCond .eq 11, 3) := by decide +kernel
theorem dX7_whyNot_108 : decode cX7_whyNot 108 = .ok (.aload_n 0, 1) := by decide +kernel
theorem dX7_whyNot_109 : decode cX7_whyNot 109 = .ok (.lload_n 1, 1) := by decide +kernel
theorem dX7_whyNot_110 : decode cX7_whyNot 110 = .ok (.invokevirtual 166, 3) := by decide +kernel
theorem dX7_whyNot_113 : decode cX7_whyNot 113 = .ok (.ifCond .eq 7, 3) := by decide +kernel
theorem dX7_whyNot_116 : decode cX7_whyNot 116 = .ok (.iconst 1, 1) := by decide +kernel
theorem dX7_whyNot_117 : decode cX7_whyNot 117 = .ok (.goto 4, 3) := by decide +kernel
theorem dX7_whyNot_120 : decode cX7_whyNot 120 = .ok (.iconst 0, 1) := by decide +kernel
theorem dX7_whyNot_121 : decode cX7_whyNot 121 = .ok (.istore_n 3, 1) := by decide +kernel
theorem dX7_whyNot_122 : decode cX7_whyNot 122 = .ok (.iload_n 3, 1) := by decide +kernel
theorem dX7_whyNot_123 : decode cX7_whyNot 123 = .ok (.ifCond .eq 7, 3) := by decide +kernel
theorem dX7_whyNot_126 : decode cX7_whyNot 126 = .ok (.iconst 0, 1) := by decide +kernel
theorem dX7_whyNot_127 : decode cX7_whyNot 127 = .ok (.goto 4, 3) := by decide +kernel
theorem dX7_whyNot_130 : decode cX7_whyNot 130 = .ok (.iconst 1, 1) := by decide +kernel
theorem dX7_whyNot_131 : decode cX7_whyNot 131 = .ok (.ireturn, 1) := by decide +kernel
theorem dX7_carryOut_0 : decode cX7_carryOut 0 = .ok (.lload_n 1, 1) := by decide +kernel
theorem dX7_carryOut_1 : decode cX7_carryOut 1 = .ok (.l2i, 1) := by decide +kernel
theorem dX7_carryOut_2 : decode cX7_carryOut 2 = .ok (.istore_n 3, 1) := by decide +kernel
theorem dX7_carryOut_3 : decode cX7_carryOut 3 = .ok (.iload_n 3, 1) := by decide +kernel
theorem dX7_carryOut_4 : decode cX7_carryOut 4 = .ok (.iconst (-1), 1) := by decide +kernel
theorem dX7_carryOut_5 : decode cX7_carryOut 5 = .ok (.if_icmp .ne 16, 3) := by decide +kernel
theorem dX7_carryOut_8 : decode cX7_carryOut 8 = .ok (.aload_n 0, 1) := by decide +kernel
theorem dX7_carryOut_9 : decode cX7_carryOut 9 = .ok (.getfield 18, 3) := by decide +kernel
theorem dX7_carryOut_12 : decode cX7_carryOut 12 = .ok (.iconst 0, 1) := by decide +kernel
theorem dX7_carryOut_13 : decode cX7_carryOut 13 = .ok (.dup2, 1) := by decide +kernel
theorem dX7_carryOut_14 : decode cX7_carryOut 14 = .ok (.iaload, 1) := by decide +kernel
theorem dX7_carryOut_15 : decode cX7_carryOut 15 = .ok (.iconst 1, 1) := by decide +kernel
theorem dX7_carryOut_16 : decode cX7_carryOut 16 = .ok (.iadd, 1) := by decide +kernel
theorem dX7_carryOut_17 : decode cX7_carryOut 17 = .ok (.iastore, 1) := by decide +kernel
theorem dX7_carryOut_18 : decode cX7_carryOut 18 = .ok (.goto 89, 3) := by decide +kernel
theorem dX7_carryOut_21 : decode cX7_carryOut 21 = .ok (.iload_n 3, 1) := by decide +kernel
theorem dX7_carryOut_22 : decode cX7_carryOut 22 = .ok (.sipush 20000, 3) := by decide +kernel
theorem dX7_carryOut_25 : decode cX7_carryOut 25 = .ok (.if_icmp .ge 27, 3) := by decide +kernel
theorem dX7_carryOut_28 : decode cX7_carryOut 28 = .ok (.aload_n 0, 1) := by decide +kernel
theorem dX7_carryOut_29 : decode cX7_carryOut 29 = .ok (.iload_n 3, 1) := by decide +kernel
theorem dX7_carryOut_30 : decode cX7_carryOut 30 = .ok (.sipush 1000, 3) := by decide +kernel
theorem dX7_carryOut_33 : decode cX7_carryOut 33 = .ok (.idiv, 1) := by decide +kernel
theorem dX7_carryOut_34 : decode cX7_carryOut 34 = .ok (.iload_n 3, 1) := by decide +kernel
theorem dX7_carryOut_35 : decode cX7_carryOut 35 = .ok (.bipush 100, 2) := by decide +kernel
theorem dX7_carryOut_37 : decode cX7_carryOut 37 = .ok (.idiv, 1) := by decide +kernel
theorem dX7_carryOut_38 : decode cX7_carryOut 38 = .ok (.bipush 10, 2) := by decide +kernel
theorem dX7_carryOut_40 : decode cX7_carryOut 40 = .ok (.irem, 1) := by decide +kernel
theorem dX7_carryOut_41 : decode cX7_carryOut 41 = .ok (.iload_n 3, 1) := by decide +kernel
theorem dX7_carryOut_42 : decode cX7_carryOut 42 = .ok (.bipush 100, 2) := by decide +kernel
theorem dX7_carryOut_44 : decode cX7_carryOut 44 = .ok (.irem, 1) := by decide +kernel
theorem dX7_carryOut_45 : decode cX7_carryOut 45 = .ok (.invokevirtual 170, 3) := by decide +kernel
theorem dX7_carryOut_48 : decode cX7_carryOut 48 = .ok (.pop, 1) := by decide +kernel
theorem dX7_carryOut_49 : decode cX7_carryOut 49 = .ok (.goto 58, 3) := by decide +kernel
theorem dX7_carryOut_52 : decode cX7_carryOut 52 = .ok (.iload_n 3, 1) := by decide +kernel
theorem dX7_carryOut_53 : decode cX7_carryOut 53 = .ok (.ldc 153, 2) := by decide +kernel
theorem dX7_carryOut_55 : decode cX7_carryOut 55 = .ok (.if_icmp .ge 37, 3) := by decide +kernel
theorem dX7_carryOut_58 : decode cX7_carryOut 58 = .ok (.aload_n 0, 1) := by decide +kernel
theorem dX7_carryOut_59 : decode cX7_carryOut 59 = .ok (.iload_n 3, 1) := by decide +kernel
theorem dX7_carryOut_60 : decode cX7_carryOut 60 = .ok (.sipush 30000, 3) := by decide +kernel
theorem dX7_carryOut_63 : decode cX7_carryOut 63 = .ok (.if_icmp .ge 7, 3) := by decide +kernel
theorem dX7_carryOut_66 : decode cX7_carryOut 66 = .ok (.iconst 3, 1) := by decide +kernel
theorem dX7_carryOut_67 : decode cX7_carryOut 67 = .ok (.goto 5, 3) := by decide +kernel
theorem dX7_carryOut_70 : decode cX7_carryOut 70 = .ok (.bipush 18, 2) := by decide +kernel
theorem dX7_carryOut_72 : decode cX7_carryOut 72 = .ok (.iload_n 3, 1) := by decide +kernel
theorem dX7_carryOut_73 : decode cX7_carryOut 73 = .ok (.sipush 10000, 3) := by decide +kernel
theorem dX7_carryOut_76 : decode cX7_carryOut 76 = .ok (.irem, 1) := by decide +kernel
theorem dX7_carryOut_77 : decode cX7_carryOut 77 = .ok (.bipush 100, 2) := by decide +kernel
theorem dX7_carryOut_79 : decode cX7_carryOut 79 = .ok (.idiv, 1) := by decide +kernel
theorem dX7_carryOut_80 : decode cX7_carryOut 80 = .ok (.iload_n 3, 1) := by decide +kernel
theorem dX7_carryOut_81 : decode cX7_carryOut 81 = .ok (.bipush 100, 2) := by decide +kernel
theorem dX7_carryOut_83 : decode cX7_carryOut 83 = .ok (.irem, 1) := by decide +kernel
theorem dX7_carryOut_84 : decode cX7_carryOut 84 = .ok (.bipush 6, 2) := by decide +kernel
theorem dX7_carryOut_86 : decode cX7_carryOut 86 = .ok (.invokevirtual 173, 3) := by decide +kernel
theorem dX7_carryOut_89 : decode cX7_carryOut 89 = .ok (.goto 18, 3) := by decide +kernel
theorem dX7_carryOut_92 : decode cX7_carryOut 92 = .ok (.aload_n 0, 1) := by decide +kernel
theorem dX7_carryOut_93 : decode cX7_carryOut 93 = .ok (.getfield 18, 3) := by decide +kernel
theorem dX7_carryOut_96 : decode cX7_carryOut 96 = .ok (.iconst 2, 1) := by decide +kernel
theorem dX7_carryOut_97 : decode cX7_carryOut 97 = .ok (.dup2, 1) := by decide +kernel
theorem dX7_carryOut_98 : decode cX7_carryOut 98 = .ok (.iaload, 1) := by decide +kernel
theorem dX7_carryOut_99 : decode cX7_carryOut 99 = .ok (.iconst 1, 1) := by decide +kernel
theorem dX7_carryOut_100 : decode cX7_carryOut 100 = .ok (.iload_n 3, 1) := by decide +kernel
theorem dX7_carryOut_101 : decode cX7_carryOut 101 = .ok (.ldc 153, 2) := by decide +kernel
theorem dX7_carryOut_103 : decode cX7_carryOut 103 = .ok (.isub, 1) := by decide +kernel
theorem dX7_carryOut_104 : decode cX7_carryOut 104 = .ok (.ishl, 1) := by decide +kernel
theorem dX7_carryOut_105 : decode cX7_carryOut 105 = .ok (.ior, 1) := by decide +kernel
theorem dX7_carryOut_106 : decode cX7_carryOut 106 = .ok (.iastore, 1) := by decide +kernel
theorem dX7_carryOut_107 : decode cX7_carryOut 107 = .ok (.return_, 1) := by decide +kernel
theorem dX8_init_0 : decode cX8_init 0 = .ok (.aload_n 0, 1) := by decide +kernel
theorem dX8_init_1 : decode cX8_init 1 = .ok (.invokespecial 3, 3) := by decide +kernel
theorem dX8_init_4 : decode cX8_init 4 = .ok (.aload_n 0, 1) := by decide +kernel
theorem dX8_init_5 : decode cX8_init 5 = .ok (.bipush 24, 2) := by decide +kernel
theorem dX8_init_7 : decode cX8_init 7 = .ok (.newarray .int, 2) := by decide +kernel
theorem dX8_init_9 : decode cX8_init 9 = .ok (.putfield 9, 3) := by decide +kernel
theorem dX8_init_12 : decode cX8_init 12 = .ok (.aload_n 0, 1) := by decide +kernel
theorem dX8_init_13 : decode cX8_init 13 = .ok (.bipush 41, 2) := by decide +kernel
theorem dX8_init_15 : decode cX8_init 15 = .ok (.newarray .int, 2) := by decide +kernel
theorem dX8_init_17 : decode cX8_init 17 = .ok (.putfield 15, 3) := by decide +kernel
theorem dX8_init_20 : decode cX8_init 20 = .ok (.aload_n 0, 1) := by decide +kernel
theorem dX8_init_21 : decode cX8_init 21 = .ok (.bipush 41, 2) := by decide +kernel
theorem dX8_init_23 : decode cX8_init 23 = .ok (.newarray .int, 2) := by decide +kernel
theorem dX8_init_25 : decode cX8_init 25 = .ok (.putfield 18, 3) := by decide +kernel
theorem dX8_init_28 : decode cX8_init 28 = .ok (.aload_n 0, 1) := by decide +kernel
theorem dX8_init_29 : decode cX8_init 29 = .ok (.iconst 0, 1) := by decide +kernel
theorem dX8_init_30 : decode cX8_init 30 = .ok (.putfield 21, 3) := by decide +kernel
theorem dX8_init_33 : decode cX8_init 33 = .ok (.aload_n 0, 1) := by decide +kernel
theorem dX8_init_34 : decode cX8_init 34 = .ok (.aload_n 1, 1) := by decide +kernel
theorem dX8_init_35 : decode cX8_init 35 = .ok (.putfield 25, 3) := by decide +kernel
theorem dX8_init_38 : decode cX8_init 38 = .ok (.return_, 1) := by decide +kernel
theorem dX8_find_0 : decode cX8_find 0 = .ok (.iconst 0, 1) := by decide +kernel
theorem dX8_find_1 : decode cX8_find 1 = .ok (.istore 4, 2) := by decide +kernel
theorem dX8_find_3 : decode cX8_find 3 = .ok (.iload 4, 2) := by decide +kernel
theorem dX8_find_5 : decode cX8_find 5 = .ok (.aload_n 1, 1) := by decide +kernel
theorem dX8_find_6 : decode cX8_find 6 = .ok (.getfield 29, 3) := by decide +kernel
theorem dX8_find_9 : decode cX8_find 9 = .ok (.if_icmp .ge 59, 3) := by decide +kernel
theorem dX8_find_12 : decode cX8_find 12 = .ok (.iload 4, 2) := by decide +kernel
theorem dX8_find_14 : decode cX8_find 14 = .ok (.bipush 24, 2) := by decide +kernel
theorem dX8_find_16 : decode cX8_find 16 = .ok (.if_icmp .ge 52, 3) := by decide +kernel
theorem dX8_find_19 : decode cX8_find 19 = .ok (.aload_n 1, 1) := by decide +kernel
theorem dX8_find_20 : decode cX8_find 20 = .ok (.getfield 32, 3) := by decide +kernel
theorem dX8_find_23 : decode cX8_find 23 = .ok (.iload 4, 2) := by decide +kernel
theorem dX8_find_25 : decode cX8_find 25 = .ok (.laload, 1) := by decide +kernel
theorem dX8_find_26 : decode cX8_find 26 = .ok (.ldc2_w 36, 3) := by decide +kernel
theorem dX8_find_29 : decode cX8_find 29 = .ok (.lcmp, 1) := by decide +kernel
theorem dX8_find_30 : decode cX8_find 30 = .ok (.ifCond .eq 32, 3) := by decide +kernel
theorem dX8_find_33 : decode cX8_find 33 = .ok (.aload_n 0, 1) := by decide +kernel
theorem dX8_find_34 : decode cX8_find 34 = .ok (.getfield 9, 3) := by decide +kernel
theorem dX8_find_37 : decode cX8_find 37 = .ok (.iload 4, 2) := by decide +kernel
theorem dX8_find_39 : decode cX8_find 39 = .ok (.aload_n 0, 1) := by decide +kernel
theorem dX8_find_40 : decode cX8_find 40 = .ok (.getfield 25, 3) := by decide +kernel
theorem dX8_find_43 : decode cX8_find 43 = .ok (.iload_n 3, 1) := by decide +kernel
theorem dX8_find_44 : decode cX8_find 44 = .ok (.aload_n 0, 1) := by decide +kernel
theorem dX8_find_45 : decode cX8_find 45 = .ok (.getfield 25, 3) := by decide +kernel
theorem dX8_find_48 : decode cX8_find 48 = .ok (.getfield 38, 3) := by decide +kernel
theorem dX8_find_51 : decode cX8_find 51 = .ok (.iconst 0, 1) := by decide +kernel
theorem dX8_find_52 : decode cX8_find 52 = .ok (.iaload, 1) := by decide +kernel
theorem dX8_find_53 : decode cX8_find 53 = .ok (.iconst 1, 1) := by decide +kernel
theorem dX8_find_54 : decode cX8_find 54 = .ok (.isub, 1) := by decide +kernel
theorem dX8_find_55 : decode cX8_find 55 = .ok (.iload 4, 2) := by decide +kernel
theorem dX8_find_57 : decode cX8_find 57 = .ok (.isub, 1) := by decide +kernel
theorem dX8_find_58 : decode cX8_find 58 = .ok (.invokevirtual 43, 3) := by decide +kernel
theorem dX8_find_61 : decode cX8_find 61 = .ok (.iastore, 1) := by decide +kernel
theorem dX8_find_62 : decode cX8_find 62 = .ok (.iinc 4 1, 3) := by decide +kernel
theorem dX8_find_65 : decode cX8_find 65 = .ok (.goto (-62), 3) := by decide +kernel
theorem dX8_find_68 : decode cX8_find 68 = .ok (.aload_n 0, 1) := by decide +kernel
theorem dX8_find_69 : decode cX8_find 69 = .ok (.iconst 0, 1) := by decide +kernel
theorem dX8_find_70 : decode cX8_find 70 = .ok (.putfield 21, 3) := by decide +kernel
theorem dX8_find_73 : decode cX8_find 73 = .ok (.bipush (-20), 2) := by decide +kernel
theorem dX8_find_75 : decode cX8_find 75 = .ok (.istore 4, 2) := by decide +kernel
theorem dX8_find_77 : decode cX8_find 77 = .ok (.iload 4, 2) := by decide +kernel
theorem dX8_find_79 : decode cX8_find 79 = .ok (.bipush 20, 2) := by decide +kernel
theorem dX8_find_81 : decode cX8_find 81 = .ok (.if_icmp .gt 42, 3) := by decide +kernel
theorem dX8_find_84 : decode cX8_find 84 = .ok (.aload_n 0, 1) := by decide +kernel
theorem dX8_find_85 : decode cX8_find 85 = .ok (.aload_n 1, 1) := by decide +kernel
theorem dX8_find_86 : decode cX8_find 86 = .ok (.iload_n 2, 1) := by decide +kernel
theorem dX8_find_87 : decode cX8_find 87 = .ok (.iload_n 3, 1) := by decide +kernel
theorem dX8_find_88 : decode cX8_find 88 = .ok (.iload 4, 2) := by decide +kernel
theorem dX8_find_90 : decode cX8_find 90 = .ok (.invokevirtual 47, 3) := by decide +kernel
theorem dX8_find_93 : decode cX8_find 93 = .ok (.ifCond .eq 24, 3) := by decide +kernel
theorem dX8_find_96 : decode cX8_find 96 = .ok (.aload_n 0, 1) := by decide +kernel
theorem dX8_find_97 : decode cX8_find 97 = .ok (.getfield 18, 3) := by decide +kernel
theorem dX8_find_100 : decode cX8_find 100 = .ok (.aload_n 0, 1) := by decide +kernel
theorem dX8_find_101 : decode cX8_find 101 = .ok (.getfield 21, 3) := by decide +kernel
theorem dX8_find_104 : decode cX8_find 104 = .ok (.iload 4, 2) := by decide +kernel
theorem dX8_find_106 : decode cX8_find 106 = .ok (.iastore, 1) := by decide +kernel
theorem dX8_find_107 : decode cX8_find 107 = .ok (.aload_n 0, 1) := by decide +kernel
theorem dX8_find_108 : decode cX8_find 108 = .ok (.dup, 1) := by decide +kernel
theorem dX8_find_109 : decode cX8_find 109 = .ok (.getfield 21, 3) := by decide +kernel
theorem dX8_find_112 : decode cX8_find 112 = .ok (.iconst 1, 1) := by decide +kernel
theorem dX8_find_113 : decode cX8_find 113 = .ok (.iadd, 1) := by decide +kernel
theorem dX8_find_114 : decode cX8_find 114 = .ok (.putfield 21, 3) := by decide +kernel
theorem dX8_find_117 : decode cX8_find 117 = .ok (.iinc 4 1, 3) := by decide +kernel
theorem dX8_find_120 : decode cX8_find 120 = .ok (.goto (-43), 3) := by decide +kernel
theorem dX8_find_123 : decode cX8_find 123 = .ok (.return_, 1) := by decide +kernel
theorem dX8_fits_0 : decode cX8_fits 0 = .ok (.aload_n 0, 1) := by decide +kernel
theorem dX8_fits_1 : decode cX8_fits 1 = .ok (.getfield 25, 3) := by decide +kernel
theorem dX8_fits_4 : decode cX8_fits 4 = .ok (.iload_n 2, 1) := by decide +kernel
theorem dX8_fits_5 : decode cX8_fits 5 = .ok (.invokevirtual 51, 3) := by decide +kernel
theorem dX8_fits_8 : decode cX8_fits 8 = .ok (.istore 5, 2) := by decide +kernel
theorem dX8_fits_10 : decode cX8_fits 10 = .ok (.iconst 0, 1) := by decide +kernel
theorem dX8_fits_11 : decode cX8_fits 11 = .ok (.istore 6, 2) := by decide +kernel
theorem dX8_fits_13 : decode cX8_fits 13 = .ok (.iload 6, 2) := by decide +kernel
theorem dX8_fits_15 : decode cX8_fits 15 = .ok (.aload_n 1, 1) := by decide +kernel
theorem dX8_fits_16 : decode cX8_fits 16 = .ok (.getfield 29, 3) := by decide +kernel
theorem dX8_fits_19 : decode cX8_fits 19 = .ok (.if_icmp .ge 74, 3) := by decide +kernel
theorem dX8_fits_22 : decode cX8_fits 22 = .ok (.iload 6, 2) := by decide +kernel
theorem dX8_fits_24 : decode cX8_fits 24 = .ok (.bipush 24, 2) := by decide +kernel
theorem dX8_fits_26 : decode cX8_fits 26 = .ok (.if_icmp .ge 67, 3) := by decide +kernel
theorem dX8_fits_29 : decode cX8_fits 29 = .ok (.aload_n 1, 1) := by decide +kernel
theorem dX8_fits_30 : decode cX8_fits 30 = .ok (.getfield 32, 3) := by decide +kernel
theorem dX8_fits_33 : decode cX8_fits 33 = .ok (.iload 6, 2) := by decide +kernel
theorem dX8_fits_35 : decode cX8_fits 35 = .ok (.laload, 1) := by decide +kernel
theorem dX8_fits_36 : decode cX8_fits 36 = .ok (.lstore 7, 2) := by decide +kernel
theorem dX8_fits_38 : decode cX8_fits 38 = .ok (.lload 7, 2) := by decide +kernel
theorem dX8_fits_40 : decode cX8_fits 40 = .ok (.ldc2_w 36, 3) := by decide +kernel
theorem dX8_fits_43 : decode cX8_fits 43 = .ok (.lcmp, 1) := by decide +kernel
theorem dX8_fits_44 : decode cX8_fits 44 = .ok (.ifCond .eq 43, 3) := by decide +kernel
theorem dX8_fits_47 : decode cX8_fits 47 = .ok (.lload 7, 2) := by decide +kernel
theorem dX8_fits_49 : decode cX8_fits 49 = .ok (.aload_n 0, 1) := by decide +kernel
theorem dX8_fits_50 : decode cX8_fits 50 = .ok (.iload 5, 2) := by decide +kernel
theorem dX8_fits_52 : decode cX8_fits 52 = .ok (.iload_n 3, 1) := by decide +kernel
theorem dX8_fits_53 : decode cX8_fits 53 = .ok (.aload_n 0, 1) := by decide +kernel
theorem dX8_fits_54 : decode cX8_fits 54 = .ok (.getfield 25, 3) := by decide +kernel
theorem dX8_fits_57 : decode cX8_fits 57 = .ok (.getfield 38, 3) := by decide +kernel
theorem dX8_fits_60 : decode cX8_fits 60 = .ok (.iconst 0, 1) := by decide +kernel
theorem dX8_fits_61 : decode cX8_fits 61 = .ok (.iaload, 1) := by decide +kernel
theorem dX8_fits_62 : decode cX8_fits 62 = .ok (.iconst 1, 1) := by decide +kernel
theorem dX8_fits_63 : decode cX8_fits 63 = .ok (.isub, 1) := by decide +kernel
theorem dX8_fits_64 : decode cX8_fits 64 = .ok (.iload 6, 2) := by decide +kernel
theorem dX8_fits_66 : decode cX8_fits 66 = .ok (.isub, 1) := by decide +kernel
theorem dX8_fits_67 : decode cX8_fits 67 = .ok (.aload_n 0, 1) := by decide +kernel
theorem dX8_fits_68 : decode cX8_fits 68 = .ok (.getfield 9, 3) := by decide +kernel
theorem dX8_fits_71 : decode cX8_fits 71 = .ok (.iload 6, 2) := by decide +kernel
theorem dX8_fits_73 : decode cX8_fits 73 = .ok (.iaload, 1) := by decide +kernel
theorem dX8_fits_74 : decode cX8_fits 74 = .ok (.iload 4, 2) := by decide +kernel
theorem dX8_fits_76 : decode cX8_fits 76 = .ok (.iadd, 1) := by decide +kernel
theorem dX8_fits_77 : decode cX8_fits 77 = .ok (.invokevirtual 55, 3) := by decide +kernel
theorem dX8_fits_80 : decode cX8_fits 80 = .ok (.i2l, 1) := by decide +kernel
theorem dX8_fits_81 : decode cX8_fits 81 = .ok (.lcmp, 1) := by decide +kernel
theorem dX8_fits_82 : decode cX8_fits 82 = .ok (.ifCond .eq 5, 3) := by decide +kernel
theorem dX8_fits_85 : decode cX8_fits 85 = .ok (.iconst 0, 1) := by decide +kernel
theorem dX8_fits_86 : decode cX8_fits 86 = .ok (.ireturn, 1) := by decide +kernel
theorem dX8_fits_87 : decode cX8_fits 87 = .ok (.iinc 6 1, 3) := by decide +kernel
theorem dX8_fits_90 : decode cX8_fits 90 = .ok (.goto (-77), 3) := by decide +kernel
theorem dX8_fits_93 : decode cX8_fits 93 = .ok (.iconst 1, 1) := by decide +kernel
theorem dX8_fits_94 : decode cX8_fits 94 = .ok (.ireturn, 1) := by decide +kernel
theorem dX8_finedBy_0 : decode cX8_finedBy 0 = .ok (.aload_n 0, 1) := by decide +kernel
theorem dX8_finedBy_1 : decode cX8_finedBy 1 = .ok (.getfield 25, 3) := by decide +kernel
theorem dX8_finedBy_4 : decode cX8_finedBy 4 = .ok (.getfield 59, 3) := by decide +kernel
theorem dX8_finedBy_7 : decode cX8_finedBy 7 = .ok (.aload_n 0, 1) := by decide +kernel
theorem dX8_finedBy_8 : decode cX8_finedBy 8 = .ok (.getfield 25, 3) := by decide +kernel
theorem dX8_finedBy_11 : decode cX8_finedBy 11 = .ok (.iload_n 2, 1) := by decide +kernel
theorem dX8_finedBy_12 : decode cX8_finedBy 12 = .ok (.iload_n 3, 1) := by decide +kernel
theorem dX8_finedBy_13 : decode cX8_finedBy 13 = .ok (.iload 4, 2) := by decide +kernel
theorem dX8_finedBy_15 : decode cX8_finedBy 15 = .ok (.invokestatic 63, 3) := by decide +kernel
theorem dX8_finedBy_18 : decode cX8_finedBy 18 = .ok (.iload_n 1, 1) := by decide +kernel
theorem dX8_finedBy_19 : decode cX8_finedBy 19 = .ok (.invokevirtual 66, 3) := by decide +kernel
theorem dX8_finedBy_22 : decode cX8_finedBy 22 = .ok (.invokevirtual 69, 3) := by decide +kernel
theorem dX8_finedBy_25 : decode cX8_finedBy 25 = .ok (.ireturn, 1) := by decide +kernel
theorem dX8_tellingHour_0 : decode cX8_tellingHour 0 = .ok (.aload_n 0, 1) := by decide +kernel
theorem dX8_tellingHour_1 : decode cX8_tellingHour 1 = .ok (.getfield 25, 3) := by decide +kernel
theorem dX8_tellingHour_4 : decode cX8_tellingHour 4 = .ok (.iload_n 1, 1) := by decide +kernel
theorem dX8_tellingHour_5 : decode cX8_tellingHour 5 = .ok (.invokevirtual 51, 3) := by decide +kernel
theorem dX8_tellingHour_8 : decode cX8_tellingHour 8 = .ok (.istore_n 3, 1) := by decide +kernel
theorem dX8_tellingHour_9 : decode cX8_tellingHour 9 = .ok (.iconst (-1), 1) := by decide +kernel
theorem dX8_tellingHour_10 : decode cX8_tellingHour 10 = .ok (.istore 4, 2) := by decide +kernel
theorem dX8_tellingHour_12 : decode cX8_tellingHour 12 = .ok (.aload_n 0, 1) := by decide +kernel
theorem dX8_tellingHour_13 : decode cX8_tellingHour 13 = .ok (.getfield 15, 3) := by decide +kernel
theorem dX8_tellingHour_16 : decode cX8_tellingHour 16 = .ok (.arraylength, 1) := by decide +kernel
theorem dX8_tellingHour_17 : decode cX8_tellingHour 17 = .ok (.iconst 1, 1) := by decide +kernel
theorem dX8_tellingHour_18 : decode cX8_tellingHour 18 = .ok (.iadd, 1) := by decide +kernel
theorem dX8_tellingHour_19 : decode cX8_tellingHour 19 = .ok (.istore 5, 2) := by decide +kernel
theorem dX8_tellingHour_21 : decode cX8_tellingHour 21 = .ok (.iconst 0, 1) := by decide +kernel
theorem dX8_tellingHour_22 : decode cX8_tellingHour 22 = .ok (.istore 6, 2) := by decide +kernel
theorem dX8_tellingHour_24 : decode cX8_tellingHour 24 = .ok (.iload 6, 2) := by decide +kernel
theorem dX8_tellingHour_26 : decode cX8_tellingHour 26 = .ok (.bipush 24, 2) := by decide +kernel
theorem dX8_tellingHour_28 : decode cX8_tellingHour 28 = .ok (.if_icmp .gt 106, 3) := by decide +kernel
theorem dX8_tellingHour_31 : decode cX8_tellingHour 31 = .ok (.aload_n 0, 1) := by decide +kernel
theorem dX8_tellingHour_32 : decode cX8_tellingHour 32 = .ok (.getfield 21, 3) := by decide +kernel
theorem dX8_tellingHour_35 : decode cX8_tellingHour 35 = .ok (.ifCond .le 99, 3) := by decide +kernel
theorem dX8_tellingHour_38 : decode cX8_tellingHour 38 = .ok (.aload_n 0, 1) := by decide +kernel
theorem dX8_tellingHour_39 : decode cX8_tellingHour 39 = .ok (.getfield 25, 3) := by decide +kernel
theorem dX8_tellingHour_42 : decode cX8_tellingHour 42 = .ok (.getfield 38, 3) := by decide +kernel
theorem dX8_tellingHour_45 : decode cX8_tellingHour 45 = .ok (.iconst 0, 1) := by decide +kernel
theorem dX8_tellingHour_46 : decode cX8_tellingHour 46 = .ok (.iaload, 1) := by decide +kernel
theorem dX8_tellingHour_47 : decode cX8_tellingHour 47 = .ok (.iload 6, 2) := by decide +kernel
theorem dX8_tellingHour_49 : decode cX8_tellingHour 49 = .ok (.iadd, 1) := by decide +kernel
theorem dX8_tellingHour_50 : decode cX8_tellingHour 50 = .ok (.istore 7, 2) := by decide +kernel
theorem dX8_tellingHour_52 : decode cX8_tellingHour 52 = .ok (.aload_n 0, 1) := by decide +kernel
theorem dX8_tellingHour_53 : decode cX8_tellingHour 53 = .ok (.getfield 25, 3) := by decide +kernel
theorem dX8_tellingHour_56 : decode cX8_tellingHour 56 = .ok (.iload_n 2, 1) := by decide +kernel
theorem dX8_tellingHour_57 : decode cX8_tellingHour 57 = .ok (.iload 7, 2) := by decide +kernel
theorem dX8_tellingHour_59 : decode cX8_tellingHour 59 = .ok (.invokevirtual 43, 3) := by decide +kernel
theorem dX8_tellingHour_62 : decode cX8_tellingHour 62 = .ok (.istore 8, 2) := by decide +kernel
theorem dX8_tellingHour_64 : decode cX8_tellingHour 64 = .ok (.iconst 0, 1) := by decide +kernel
theorem dX8_tellingHour_65 : decode cX8_tellingHour 65 = .ok (.istore 9, 2) := by decide +kernel
theorem dX8_tellingHour_67 : decode cX8_tellingHour 67 = .ok (.iload 9, 2) := by decide +kernel
theorem dX8_tellingHour_69 : decode cX8_tellingHour 69 = .ok (.aload_n 0, 1) := by decide +kernel
theorem dX8_tellingHour_70 : decode cX8_tellingHour 70 = .ok (.getfield 21, 3) := by decide +kernel
theorem dX8_tellingHour_73 : decode cX8_tellingHour 73 = .ok (.if_icmp .ge 34, 3) := by decide +kernel
theorem dX8_tellingHour_76 : decode cX8_tellingHour 76 = .ok (.aload_n 0, 1) := by decide +kernel
theorem dX8_tellingHour_77 : decode cX8_tellingHour 77 = .ok (.getfield 15, 3) := by decide +kernel
theorem dX8_tellingHour_80 : decode cX8_tellingHour 80 = .ok (.iload 9, 2) := by decide +kernel
theorem dX8_tellingHour_82 : decode cX8_tellingHour 82 = .ok (.aload_n 0, 1) := by decide +kernel
theorem dX8_tellingHour_83 : decode cX8_tellingHour 83 = .ok (.iload_n 3, 1) := by decide +kernel
theorem dX8_tellingHour_84 : decode cX8_tellingHour 84 = .ok (.iload_n 2, 1) := by decide +kernel
theorem dX8_tellingHour_85 : decode cX8_tellingHour 85 = .ok (.iload 7, 2) := by decide +kernel
theorem dX8_tellingHour_87 : decode cX8_tellingHour 87 = .ok (.iload 8, 2) := by decide +kernel
theorem dX8_tellingHour_89 : decode cX8_tellingHour 89 = .ok (.aload_n 0, 1) := by decide +kernel
theorem dX8_tellingHour_90 : decode cX8_tellingHour 90 = .ok (.getfield 18, 3) := by decide +kernel
theorem dX8_tellingHour_93 : decode cX8_tellingHour 93 = .ok (.iload 9, 2) := by decide +kernel
theorem dX8_tellingHour_95 : decode cX8_tellingHour 95 = .ok (.iaload, 1) := by decide +kernel
theorem dX8_tellingHour_96 : decode cX8_tellingHour 96 = .ok (.iadd, 1) := by decide +kernel
theorem dX8_tellingHour_97 : decode cX8_tellingHour 97 = .ok (.invokevirtual 55, 3) := by decide +kernel
theorem dX8_tellingHour_100 : decode cX8_tellingHour 100 = .ok (.iastore, 1) := by decide +kernel
theorem dX8_tellingHour_101 : decode cX8_tellingHour 101 = .ok (.iinc 9 1, 3) := by decide +kernel
theorem dX8_tellingHour_104 : decode cX8_tellingHour 104 = .ok (.goto (-37), 3) := by decide +kernel
theorem dX8_tellingHour_107 : decode cX8_tellingHour 107 = .ok (.aload_n 0, 1) := by decide +kernel
theorem dX8_tellingHour_108 : decode cX8_tellingHour 108 = .ok (.invokevirtual 74, 3) := by decide +kernel
theorem dX8_tellingHour_111 : decode cX8_tellingHour 111 = .ok (.istore 9, 2) := by decide +kernel
theorem dX8_tellingHour_113 : decode cX8_tellingHour 113 = .ok (.iload 9, 2) := by decide +kernel
theorem dX8_tellingHour_115 : decode cX8_tellingHour 115 = .ok (.iload 5, 2) := by decide +kernel
theorem dX8_tellingHour_117 : decode cX8_tellingHour 117 = .ok (.if_icmp .ge 11, 3) := by decide +kernel
theorem dX8_tellingHour_120 : decode cX8_tellingHour 120 = .ok (.iload 9, 2) := by decide +kernel
theorem dX8_tellingHour_122 : decode cX8_tellingHour 122 = .ok (.istore 5, 2) := by decide +kernel
theorem dX8_tellingHour_124 : decode cX8_tellingHour 124 = .ok (.iload 6, 2) := by decide +kernel
theorem dX8_tellingHour_126 : decode cX8_tellingHour 126 = .ok (.istore 4, 2) := by decide +kernel
theorem dX8_tellingHour_128 : decode cX8_tellingHour 128 = .ok (.iinc 6 1, 3) := by decide +kernel
theorem dX8_tellingHour_131 : decode cX8_tellingHour 131 = .ok (.goto (-107), 3) := by decide +kernel
theorem dX8_tellingHour_134 : decode cX8_tellingHour 134 = .ok (.iload 4, 2) := by decide +kernel
theorem dX8_tellingHour_136 : decode cX8_tellingHour 136 = .ok (.ireturn, 1) := by decide +kernel
theorem dX8_mostAlike_0 : decode cX8_mostAlike 0 = .ok (.iconst 0, 1) := by decide +kernel
theorem dX8_mostAlike_1 : decode cX8_mostAlike 1 = .ok (.istore_n 1, 1) := by decide +kernel
theorem dX8_mostAlike_2 : decode cX8_mostAlike 2 = .ok (.iconst 0, 1) := by decide +kernel
theorem dX8_mostAlike_3 : decode cX8_mostAlike 3 = .ok (.istore_n 2, 1) := by decide +kernel
theorem dX8_mostAlike_4 : decode cX8_mostAlike 4 = .ok (.iload_n 2, 1) := by decide +kernel
theorem dX8_mostAlike_5 : decode cX8_mostAlike 5 = .ok (.aload_n 0, 1) := by decide +kernel
theorem dX8_mostAlike_6 : decode cX8_mostAlike 6 = .ok (.getfield 21, 3) := by decide +kernel
theorem dX8_mostAlike_9 : decode cX8_mostAlike 9 = .ok (.if_icmp .ge 54, 3) := by decide +kernel
theorem dX8_mostAlike_12 : decode cX8_mostAlike 12 = .ok (.iconst 0, 1) := by decide +kernel
theorem dX8_mostAlike_13 : decode cX8_mostAlike 13 = .ok (.istore_n 3, 1) := by decide +kernel
theorem dX8_mostAlike_14 : decode cX8_mostAlike 14 = .ok (.iconst 0, 1) := by decide +kernel
theorem dX8_mostAlike_15 : decode cX8_mostAlike 15 = .ok (.istore 4, 2) := by decide +kernel
theorem dX8_mostAlike_17 : decode cX8_mostAlike 17 = .ok (.iload 4, 2) := by decide +kernel
theorem dX8_mostAlike_19 : decode cX8_mostAlike 19 = .ok (.aload_n 0, 1) := by decide +kernel
theorem dX8_mostAlike_20 : decode cX8_mostAlike 20 = .ok (.getfield 21, 3) := by decide +kernel
theorem dX8_mostAlike_23 : decode cX8_mostAlike 23 = .ok (.if_icmp .ge 28, 3) := by decide +kernel
theorem dX8_mostAlike_26 : decode cX8_mostAlike 26 = .ok (.aload_n 0, 1) := by decide +kernel
theorem dX8_mostAlike_27 : decode cX8_mostAlike 27 = .ok (.getfield 15, 3) := by decide +kernel
theorem dX8_mostAlike_30 : decode cX8_mostAlike 30 = .ok (.iload 4, 2) := by decide +kernel
theorem dX8_mostAlike_32 : decode cX8_mostAlike 32 = .ok (.iaload, 1) := by decide +kernel
theorem dX8_mostAlike_33 : decode cX8_mostAlike 33 = .ok (.aload_n 0, 1) := by decide +kernel
theorem dX8_mostAlike_34 : decode cX8_mostAlike 34 = .ok (.getfield 15, 3) := by decide +kernel
theorem dX8_mostAlike_37 : decode cX8_mostAlike 37 = .ok (.iload_n 2, 1) := by decide +kernel
theorem dX8_mostAlike_38 : decode cX8_mostAlike 38 = .ok (.iaload, 1) := by decide +kernel
theorem dX8_mostAlike_39 : decode cX8_mostAlike 39 = .ok (.if_icmp .ne 6, 3) := by decide +kernel
theorem dX8_mostAlike_42 : decode cX8_mostAlike 42 = .ok (.iinc 3 1, 3) := by decide +kernel
theorem dX8_mostAlike_45 : decode cX8_mostAlike 45 = .ok (.iinc 4 1, 3) := by decide +kernel
theorem dX8_mostAlike_48 : decode cX8_mostAlike 48 = .ok (.goto (-31), 3) := by decide +kernel
theorem dX8_mostAlike_51 : decode cX8_mostAlike 51 = .ok (.iload_n 1, 1) := by decide +kernel
theorem dX8_mostAlike_52 : decode cX8_mostAlike 52 = .ok (.iload_n 3, 1) := by decide +kernel
theorem dX8_mostAlike_53 : decode cX8_mostAlike 53 = .ok (.invokestatic 78, 3) := by decide +kernel
theorem dX8_mostAlike_56 : decode cX8_mostAlike 56 = .ok (.istore_n 1, 1) := by decide +kernel
theorem dX8_mostAlike_57 : decode cX8_mostAlike 57 = .ok (.iinc 2 1, 3) := by decide +kernel
theorem dX8_mostAlike_60 : decode cX8_mostAlike 60 = .ok (.goto (-56), 3) := by decide +kernel
theorem dX8_mostAlike_63 : decode cX8_mostAlike 63 = .ok (.iload_n 1, 1) := by decide +kernel
theorem dX8_mostAlike_64 : decode cX8_mostAlike 64 = .ok (.ireturn, 1) := by decide +kernel
theorem dX9_init_0 : decode cX9_init 0 = .ok (.aload_n 0, 1) := by decide +kernel
theorem dX9_init_1 : decode cX9_init 1 = .ok (.invokespecial 3, 3) := by decide +kernel
theorem dX9_init_4 : decode cX9_init 4 = .ok (.aload_n 0, 1) := by decide +kernel
theorem dX9_init_5 : decode cX9_init 5 = .ok (.iconst 0, 1) := by decide +kernel
theorem dX9_init_6 : decode cX9_init 6 = .ok (.putfield 9, 3) := by decide +kernel
theorem dX9_init_9 : decode cX9_init 9 = .ok (.aload_n 0, 1) := by decide +kernel
theorem dX9_init_10 : decode cX9_init 10 = .ok (.iconst (-1), 1) := by decide +kernel
theorem dX9_init_11 : decode cX9_init 11 = .ok (.putfield 15, 3) := by decide +kernel
theorem dX9_init_14 : decode cX9_init 14 = .ok (.aload_n 0, 1) := by decide +kernel
theorem dX9_init_15 : decode cX9_init 15 = .ok (.bipush 30, 2) := by decide +kernel
theorem dX9_init_17 : decode cX9_init 17 = .ok (.newarray .long, 2) := by decide +kernel
theorem dX9_init_19 : decode cX9_init 19 = .ok (.putfield 18, 3) := by decide +kernel
theorem dX9_init_22 : decode cX9_init 22 = .ok (.return_, 1) := by decide +kernel
theorem dX9_cut_0 : decode cX9_cut 0 = .ok (.aload_n 0, 1) := by decide +kernel
theorem dX9_cut_1 : decode cX9_cut 1 = .ok (.getfield 9, 3) := by decide +kernel
theorem dX9_cut_4 : decode cX9_cut 4 = .ok (.tableswitch 42 0 2 #[28, 33, 38], 28) := by decide +kernel
theorem dX9_cut_32 : decode cX9_cut 32 = .ok (.lload_n 1, 1) := by decide +kernel
theorem dX9_cut_33 : decode cX9_cut 33 = .ok (.l2i, 1) := by decide +kernel
theorem dX9_cut_34 : decode cX9_cut 34 = .ok (.i2b, 1) := by decide +kernel
theorem dX9_cut_35 : decode cX9_cut 35 = .ok (.i2l, 1) := by decide +kernel
theorem dX9_cut_36 : decode cX9_cut 36 = .ok (.lreturn, 1) := by decide +kernel
theorem dX9_cut_37 : decode cX9_cut 37 = .ok (.lload_n 1, 1) := by decide +kernel
theorem dX9_cut_38 : decode cX9_cut 38 = .ok (.l2i, 1) := by decide +kernel
theorem dX9_cut_39 : decode cX9_cut 39 = .ok (.i2s, 1) := by decide +kernel
theorem dX9_cut_40 : decode cX9_cut 40 = .ok (.i2l, 1) := by decide +kernel
theorem dX9_cut_41 : decode cX9_cut 41 = .ok (.lreturn, 1) := by decide +kernel
theorem dX9_cut_42 : decode cX9_cut 42 = .ok (.lload_n 1, 1) := by decide +kernel
theorem dX9_cut_43 : decode cX9_cut 43 = .ok (.l2i, 1) := by decide +kernel
theorem dX9_cut_44 : decode cX9_cut 44 = .ok (.i2l, 1) := by decide +kernel
theorem dX9_cut_45 : decode cX9_cut 45 = .ok (.lreturn, 1) := by decide +kernel
theorem dX9_cut_46 : decode cX9_cut 46 = .ok (.lload_n 1, 1) := by decide +kernel
theorem dX9_cut_47 : decode cX9_cut 47 = .ok (.lreturn, 1) := by decide +kernel
theorem dX10_init_0 : decode cX10_init 0 = .ok (.aload_n 0, 1) := by decide +kernel
theorem dX10_init_1 : decode cX10_init 1 = .ok (.invokespecial 3, 3) := by decide +kernel
theorem dX10_init_4 : decode cX10_init 4 = .ok (.aload_n 0, 1) := by decide +kernel
theorem dX10_init_5 : decode cX10_init 5 = .ok (.sipush 305, 3) := by decide +kernel
theorem dX10_init_8 : decode cX10_init 8 = .ok (.newarray .int, 2) := by decide +kernel
theorem dX10_init_10 : decode cX10_init 10 = .ok (.putfield 9, 3) := by decide +kernel
theorem dX10_init_13 : decode cX10_init 13 = .ok (.aload_n 0, 1) := by decide +kernel
theorem dX10_init_14 : decode cX10_init 14 = .ok (.bipush 61, 2) := by decide +kernel
theorem dX10_init_16 : decode cX10_init 16 = .ok (.newarray .int, 2) := by decide +kernel
theorem dX10_init_18 : decode cX10_init 18 = .ok (.putfield 15, 3) := by decide +kernel
theorem dX10_init_21 : decode cX10_init 21 = .ok (.aload_n 0, 1) := by decide +kernel
theorem dX10_init_22 : decode cX10_init 22 = .ok (.bipush 61, 2) := by decide +kernel
theorem dX10_init_24 : decode cX10_init 24 = .ok (.newarray .int, 2) := by decide +kernel
theorem dX10_init_26 : decode cX10_init 26 = .ok (.putfield 18, 3) := by decide +kernel
theorem dX10_init_29 : decode cX10_init 29 = .ok (.aload_n 0, 1) := by decide +kernel
theorem dX10_init_30 : decode cX10_init 30 = .ok (.iconst 5, 1) := by decide +kernel
theorem dX10_init_31 : decode cX10_init 31 = .ok (.newarray .int, 2) := by decide +kernel
theorem dX10_init_33 : decode cX10_init 33 = .ok (.putfield 21, 3) := by decide +kernel
theorem dX10_init_36 : decode cX10_init 36 = .ok (.aload_n 0, 1) := by decide +kernel
theorem dX10_init_37 : decode cX10_init 37 = .ok (.iconst 5, 1) := by decide +kernel
theorem dX10_init_38 : decode cX10_init 38 = .ok (.newarray .int, 2) := by decide +kernel
theorem dX10_init_40 : decode cX10_init 40 = .ok (.putfield 24, 3) := by decide +kernel
theorem dX10_init_43 : decode cX10_init 43 = .ok (.aload_n 0, 1) := by decide +kernel
theorem dX10_init_44 : decode cX10_init 44 = .ok (.iconst 5, 1) := by decide +kernel
theorem dX10_init_45 : decode cX10_init 45 = .ok (.newarray .long, 2) := by decide +kernel
theorem dX10_init_47 : decode cX10_init 47 = .ok (.putfield 27, 3) := by decide +kernel
theorem dX10_init_50 : decode cX10_init 50 = .ok (.aload_n 0, 1) := by decide +kernel
theorem dX10_init_51 : decode cX10_init 51 = .ok (.iconst 5, 1) := by decide +kernel
theorem dX10_init_52 : decode cX10_init 52 = .ok (.newarray .long, 2) := by decide +kernel
theorem dX10_init_54 : decode cX10_init 54 = .ok (.putfield 31, 3) := by decide +kernel
theorem dX10_init_57 : decode cX10_init 57 = .ok (.aload_n 0, 1) := by decide +kernel
theorem dX10_init_58 : decode cX10_init 58 = .ok (.aload_n 1, 1) := by decide +kernel
theorem dX10_init_59 : decode cX10_init 59 = .ok (.putfield 34, 3) := by decide +kernel
theorem dX10_init_62 : decode cX10_init 62 = .ok (.return_, 1) := by decide +kernel
theorem dX10_layOut_0 : decode cX10_layOut 0 = .ok (.aload_n 0, 1) := by decide +kernel
theorem dX10_layOut_1 : decode cX10_layOut 1 = .ok (.getfield 34, 3) := by decide +kernel
theorem dX10_layOut_4 : decode cX10_layOut 4 = .ok (.iload_n 1, 1) := by decide +kernel
theorem dX10_layOut_5 : decode cX10_layOut 5 = .ok (.invokevirtual 38, 3) := by decide +kernel
theorem dX10_layOut_8 : decode cX10_layOut 8 = .ok (.istore_n 3, 1) := by decide +kernel
theorem dX10_layOut_9 : decode cX10_layOut 9 = .ok (.iconst 0, 1) := by decide +kernel
theorem dX10_layOut_10 : decode cX10_layOut 10 = .ok (.istore 4, 2) := by decide +kernel
theorem dX10_layOut_12 : decode cX10_layOut 12 = .ok (.iload 4, 2) := by decide +kernel
theorem dX10_layOut_14 : decode cX10_layOut 14 = .ok (.iload_n 2, 1) := by decide +kernel
theorem dX10_layOut_15 : decode cX10_layOut 15 = .ok (.if_icmp .gt 133, 3) := by decide +kernel
theorem dX10_layOut_18 : decode cX10_layOut 18 = .ok (.iload 4, 2) := by decide +kernel
theorem dX10_layOut_20 : decode cX10_layOut 20 = .ok (.aload_n 0, 1) := by decide +kernel
theorem dX10_layOut_21 : decode cX10_layOut 21 = .ok (.getfield 15, 3) := by decide +kernel
theorem dX10_layOut_24 : decode cX10_layOut 24 = .ok (.arraylength, 1) := by decide +kernel
theorem dX10_layOut_25 : decode cX10_layOut 25 = .ok (.if_icmp .ge 123, 3) := by decide +kernel
theorem dX10_layOut_28 : decode cX10_layOut 28 = .ok (.aload_n 0, 1) := by decide +kernel
theorem dX10_layOut_29 : decode cX10_layOut 29 = .ok (.getfield 34, 3) := by decide +kernel
theorem dX10_layOut_32 : decode cX10_layOut 32 = .ok (.getfield 44, 3) := by decide +kernel
theorem dX10_layOut_35 : decode cX10_layOut 35 = .ok (.iconst 0, 1) := by decide +kernel
theorem dX10_layOut_36 : decode cX10_layOut 36 = .ok (.iaload, 1) := by decide +kernel
theorem dX10_layOut_37 : decode cX10_layOut 37 = .ok (.iload 4, 2) := by decide +kernel
theorem dX10_layOut_39 : decode cX10_layOut 39 = .ok (.iadd, 1) := by decide +kernel
theorem dX10_layOut_40 : decode cX10_layOut 40 = .ok (.istore 5, 2) := by decide +kernel
theorem dX10_layOut_42 : decode cX10_layOut 42 = .ok (.aload_n 0, 1) := by decide +kernel
theorem dX10_layOut_43 : decode cX10_layOut 43 = .ok (.getfield 15, 3) := by decide +kernel
theorem dX10_layOut_46 : decode cX10_layOut 46 = .ok (.iload 4, 2) := by decide +kernel
theorem dX10_layOut_48 : decode cX10_layOut 48 = .ok (.iconst 0, 1) := by decide +kernel
theorem dX10_layOut_49 : decode cX10_layOut 49 = .ok (.iastore, 1) := by decide +kernel
theorem dX10_layOut_50 : decode cX10_layOut 50 = .ok (.iconst 0, 1) := by decide +kernel
theorem dX10_layOut_51 : decode cX10_layOut 51 = .ok (.istore 6, 2) := by decide +kernel
theorem dX10_layOut_53 : decode cX10_layOut 53 = .ok (.iload 6, 2) := by decide +kernel
theorem dX10_layOut_55 : decode cX10_layOut 55 = .ok (.aload_n 0, 1) := by decide +kernel
theorem dX10_layOut_56 : decode cX10_layOut 56 = .ok (.getfield 34, 3) := by decide +kernel
theorem dX10_layOut_59 : decode cX10_layOut 59 = .ok (.getfield 47, 3) := by decide +kernel
theorem dX10_layOut_62 : decode cX10_layOut 62 = .ok (.getfield 51, 3) := by decide +kernel
theorem dX10_layOut_65 : decode cX10_layOut 65 = .ok (.if_icmp .ge 77, 3) := by decide +kernel
theorem dX10_layOut_68 : decode cX10_layOut 68 = .ok (.aload_n 0, 1) := by decide +kernel
theorem dX10_layOut_69 : decode cX10_layOut 69 = .ok (.getfield 34, 3) := by decide +kernel
theorem dX10_layOut_72 : decode cX10_layOut 72 = .ok (.getfield 47, 3) := by decide +kernel
theorem dX10_layOut_75 : decode cX10_layOut 75 = .ok (.aload_n 0, 1) := by decide +kernel
theorem dX10_layOut_76 : decode cX10_layOut 76 = .ok (.getfield 34, 3) := by decide +kernel
theorem dX10_layOut_79 : decode cX10_layOut 79 = .ok (.iload 6, 2) := by decide +kernel
theorem dX10_layOut_81 : decode cX10_layOut 81 = .ok (.iload 5, 2) := by decide +kernel
theorem dX10_layOut_83 : decode cX10_layOut 83 = .ok (.aload_n 0, 1) := by decide +kernel
theorem dX10_layOut_84 : decode cX10_layOut 84 = .ok (.getfield 34, 3) := by decide +kernel
theorem dX10_layOut_87 : decode cX10_layOut 87 = .ok (.iload 6, 2) := by decide +kernel
theorem dX10_layOut_89 : decode cX10_layOut 89 = .ok (.iload 5, 2) := by decide +kernel
theorem dX10_layOut_91 : decode cX10_layOut 91 = .ok (.invokevirtual 57, 3) := by decide +kernel
theorem dX10_layOut_94 : decode cX10_layOut 94 = .ok (.iload_n 3, 1) := by decide +kernel
theorem dX10_layOut_95 : decode cX10_layOut 95 = .ok (.invokevirtual 61, 3) := by decide +kernel
theorem dX10_layOut_98 : decode cX10_layOut 98 = .ok (.invokevirtual 65, 3) := by decide +kernel
theorem dX10_layOut_101 : decode cX10_layOut 101 = .ok (.istore 7, 2) := by decide +kernel
theorem dX10_layOut_103 : decode cX10_layOut 103 = .ok (.aload_n 0, 1) := by decide +kernel
theorem dX10_layOut_104 : decode cX10_layOut 104 = .ok (.getfield 9, 3) := by decide +kernel
theorem dX10_layOut_107 : decode cX10_layOut 107 = .ok (.iload 4, 2) := by decide +kernel
theorem dX10_layOut_109 : decode cX10_layOut 109 = .ok (.iconst 5, 1) := by decide +kernel
theorem dX10_layOut_110 : decode cX10_layOut 110 = .ok (.imul, 1) := by decide +kernel
theorem dX10_layOut_111 : decode cX10_layOut 111 = .ok (.iload 6, 2) := by decide +kernel
theorem dX10_layOut_113 : decode cX10_layOut 113 = .ok (.iadd, 1) := by decide +kernel
theorem dX10_layOut_114 : decode cX10_layOut 114 = .ok (.iload 7, 2) := by decide +kernel
theorem dX10_layOut_116 : decode cX10_layOut 116 = .ok (.iastore, 1) := by decide +kernel
theorem dX10_layOut_117 : decode cX10_layOut 117 = .ok (.iload 7, 2) := by decide +kernel
theorem dX10_layOut_119 : decode cX10_layOut 119 = .ok (.ifCond .ne 17, 3) := by decide +kernel
theorem dX10_layOut_122 : decode cX10_layOut 122 = .ok (.aload_n 0, 1) := by decide +kernel
theorem dX10_layOut_123 : decode cX10_layOut 123 = .ok (.getfield 15, 3) := by decide +kernel
theorem dX10_layOut_126 : decode cX10_layOut 126 = .ok (.iload 4, 2) := by decide +kernel
theorem dX10_layOut_128 : decode cX10_layOut 128 = .ok (.dup2, 1) := by decide +kernel
theorem dX10_layOut_129 : decode cX10_layOut 129 = .ok (.iaload, 1) := by decide +kernel
theorem dX10_layOut_130 : decode cX10_layOut 130 = .ok (.iconst 1, 1) := by decide +kernel
theorem dX10_layOut_131 : decode cX10_layOut 131 = .ok (.iload 6, 2) := by decide +kernel
theorem dX10_layOut_133 : decode cX10_layOut 133 = .ok (.ishl, 1) := by decide +kernel
theorem dX10_layOut_134 : decode cX10_layOut 134 = .ok (.ior, 1) := by decide +kernel
theorem dX10_layOut_135 : decode cX10_layOut 135 = .ok (.iastore, 1) := by decide +kernel
theorem dX10_layOut_136 : decode cX10_layOut 136 = .ok (.iinc 6 1, 3) := by decide +kernel
theorem dX10_layOut_139 : decode cX10_layOut 139 = .ok (.goto (-86), 3) := by decide +kernel
theorem dX10_layOut_142 : decode cX10_layOut 142 = .ok (.iinc 4 1, 3) := by decide +kernel
theorem dX10_layOut_145 : decode cX10_layOut 145 = .ok (.goto (-133), 3) := by decide +kernel
theorem dX10_layOut_148 : decode cX10_layOut 148 = .ok (.return_, 1) := by decide +kernel
theorem dX10_stepFrom_0 : decode cX10_stepFrom 0 = .ok (.aload_n 0, 1) := by decide +kernel
theorem dX10_stepFrom_1 : decode cX10_stepFrom 1 = .ok (.getfield 34, 3) := by decide +kernel
theorem dX10_stepFrom_4 : decode cX10_stepFrom 4 = .ok (.getfield 47, 3) := by decide +kernel
theorem dX10_stepFrom_7 : decode cX10_stepFrom 7 = .ok (.getfield 68, 3) := by decide +kernel
theorem dX10_stepFrom_10 : decode cX10_stepFrom 10 = .ok (.iload_n 1, 1) := by decide +kernel
theorem dX10_stepFrom_11 : decode cX10_stepFrom 11 = .ok (.iaload, 1) := by decide +kernel
theorem dX10_stepFrom_12 : decode cX10_stepFrom 12 = .ok (.iconst 1, 1) := by decide +kernel
theorem dX10_stepFrom_13 : decode cX10_stepFrom 13 = .ok (.iload_n 1, 1) := by decide +kernel
theorem dX10_stepFrom_14 : decode cX10_stepFrom 14 = .ok (.ishl, 1) := by decide +kernel
theorem dX10_stepFrom_15 : decode cX10_stepFrom 15 = .ok (.ior, 1) := by decide +kernel
theorem dX10_stepFrom_16 : decode cX10_stepFrom 16 = .ok (.ireturn, 1) := by decide +kernel
theorem dX10_stepFromAll_0 : decode cX10_stepFromAll 0 = .ok (.iconst 0, 1) := by decide +kernel
theorem dX10_stepFromAll_1 : decode cX10_stepFromAll 1 = .ok (.istore_n 2, 1) := by decide +kernel
theorem dX10_stepFromAll_2 : decode cX10_stepFromAll 2 = .ok (.iconst 0, 1) := by decide +kernel
theorem dX10_stepFromAll_3 : decode cX10_stepFromAll 3 = .ok (.istore_n 3, 1) := by decide +kernel
theorem dX10_stepFromAll_4 : decode cX10_stepFromAll 4 = .ok (.iload_n 3, 1) := by decide +kernel
theorem dX10_stepFromAll_5 : decode cX10_stepFromAll 5 = .ok (.aload_n 0, 1) := by decide +kernel
theorem dX10_stepFromAll_6 : decode cX10_stepFromAll 6 = .ok (.getfield 34, 3) := by decide +kernel
theorem dX10_stepFromAll_9 : decode cX10_stepFromAll 9 = .ok (.getfield 47, 3) := by decide +kernel
theorem dX10_stepFromAll_12 : decode cX10_stepFromAll 12 = .ok (.getfield 51, 3) := by decide +kernel
theorem dX10_stepFromAll_15 : decode cX10_stepFromAll 15 = .ok (.if_icmp .ge 25, 3) := by decide +kernel
theorem dX10_stepFromAll_18 : decode cX10_stepFromAll 18 = .ok (.iload_n 1, 1) := by decide +kernel
theorem dX10_stepFromAll_19 : decode cX10_stepFromAll 19 = .ok (.iload_n 3, 1) := by decide +kernel
theorem dX10_stepFromAll_20 : decode cX10_stepFromAll 20 = .ok (.ishr, 1) := by decide +kernel
theorem dX10_stepFromAll_21 : decode cX10_stepFromAll 21 = .ok (.iconst 1, 1) := by decide +kernel
theorem dX10_stepFromAll_22 : decode cX10_stepFromAll 22 = .ok (.iand, 1) := by decide +kernel
theorem dX10_stepFromAll_23 : decode cX10_stepFromAll 23 = .ok (.ifCond .eq 11, 3) := by decide +kernel
theorem dX10_stepFromAll_26 : decode cX10_stepFromAll 26 = .ok (.iload_n 2, 1) := by decide +kernel
theorem dX10_stepFromAll_27 : decode cX10_stepFromAll 27 = .ok (.aload_n 0, 1) := by decide +kernel
theorem dX10_stepFromAll_28 : decode cX10_stepFromAll 28 = .ok (.iload_n 3, 1) := by decide +kernel
theorem dX10_stepFromAll_29 : decode cX10_stepFromAll 29 = .ok (.invokevirtual 71, 3) := by decide +kernel
theorem dX10_stepFromAll_32 : decode cX10_stepFromAll 32 = .ok (.ior, 1) := by decide +kernel
theorem dX10_stepFromAll_33 : decode cX10_stepFromAll 33 = .ok (.istore_n 2, 1) := by decide +kernel
theorem dX10_stepFromAll_34 : decode cX10_stepFromAll 34 = .ok (.iinc 3 1, 3) := by decide +kernel
theorem dX10_stepFromAll_37 : decode cX10_stepFromAll 37 = .ok (.goto (-33), 3) := by decide +kernel
theorem dX10_stepFromAll_40 : decode cX10_stepFromAll 40 = .ok (.iload_n 2, 1) := by decide +kernel
theorem dX10_stepFromAll_41 : decode cX10_stepFromAll 41 = .ok (.ireturn, 1) := by decide +kernel
theorem dX10_soonestFree_0 : decode cX10_soonestFree 0 = .ok (.iconst 1, 1) := by decide +kernel
theorem dX10_soonestFree_1 : decode cX10_soonestFree 1 = .ok (.iload_n 1, 1) := by decide +kernel
theorem dX10_soonestFree_2 : decode cX10_soonestFree 2 = .ok (.ishl, 1) := by decide +kernel
theorem dX10_soonestFree_3 : decode cX10_soonestFree 3 = .ok (.aload_n 0, 1) := by decide +kernel
theorem dX10_soonestFree_4 : decode cX10_soonestFree 4 = .ok (.getfield 15, 3) := by decide +kernel
theorem dX10_soonestFree_7 : decode cX10_soonestFree 7 = .ok (.iconst 0, 1) := by decide +kernel
theorem dX10_soonestFree_8 : decode cX10_soonestFree 8 = .ok (.iaload, 1) := by decide +kernel
theorem dX10_soonestFree_9 : decode cX10_soonestFree 9 = .ok (.iand, 1) := by decide +kernel
theorem dX10_soonestFree_10 : decode cX10_soonestFree 10 = .ok (.iload_n 3, 1) := by decide +kernel
theorem dX10_soonestFree_11 : decode cX10_soonestFree 11 = .ok (.iconst (-1), 1) := by decide +kernel
theorem dX10_soonestFree_12 : decode cX10_soonestFree 12 = .ok (.ixor, 1) := by decide +kernel
theorem dX10_soonestFree_13 : decode cX10_soonestFree 13 = .ok (.iand, 1) := by decide +kernel
theorem dX10_soonestFree_14 : decode cX10_soonestFree 14 = .ok (.istore 4, 2) := by decide +kernel
theorem dX10_soonestFree_16 : decode cX10_soonestFree 16 = .ok (.iconst 0, 1) := by decide +kernel
theorem dX10_soonestFree_17 : decode cX10_soonestFree 17 = .ok (.istore 5, 2) := by decide +kernel
theorem dX10_soonestFree_19 : decode cX10_soonestFree 19 = .ok (.iload 5, 2) := by decide +kernel
theorem dX10_soonestFree_21 : decode cX10_soonestFree 21 = .ok (.bipush 60, 2) := by decide +kernel
theorem dX10_soonestFree_23 : decode cX10_soonestFree 23 = .ok (.if_icmp .gt 50, 3) := by decide +kernel
theorem dX10_soonestFree_26 : decode cX10_soonestFree 26 = .ok (.iload 4, 2) := by decide +kernel
theorem dX10_soonestFree_28 : decode cX10_soonestFree 28 = .ok (.iload_n 2, 1) := by decide +kernel
theorem dX10_soonestFree_29 : decode cX10_soonestFree 29 = .ok (.ishr, 1) := by decide +kernel
theorem dX10_soonestFree_30 : decode cX10_soonestFree 30 = .ok (.iconst 1, 1) := by decide +kernel
theorem dX10_soonestFree_31 : decode cX10_soonestFree 31 = .ok (.iand, 1) := by decide +kernel
theorem dX10_soonestFree_32 : decode cX10_soonestFree 32 = .ok (.ifCond .eq 6, 3) := by decide +kernel
theorem dX10_soonestFree_35 : decode cX10_soonestFree 35 = .ok (.iload 5, 2) := by decide +kernel
theorem dX10_soonestFree_37 : decode cX10_soonestFree 37 = .ok (.ireturn, 1) := by decide +kernel
theorem dX10_soonestFree_38 : decode cX10_soonestFree 38 = .ok (.iload 5, 2) := by decide +kernel
theorem dX10_soonestFree_40 : decode cX10_soonestFree 40 = .ok (.bipush 60, 2) := by decide +kernel
theorem dX10_soonestFree_42 : decode cX10_soonestFree 42 = .ok (.if_icmp .ge 25, 3) := by decide +kernel
theorem dX10_soonestFree_45 : decode cX10_soonestFree 45 = .ok (.aload_n 0, 1) := by decide +kernel
theorem dX10_soonestFree_46 : decode cX10_soonestFree 46 = .ok (.iload 4, 2) := by decide +kernel
theorem dX10_soonestFree_48 : decode cX10_soonestFree 48 = .ok (.invokevirtual 74, 3) := by decide +kernel
theorem dX10_soonestFree_51 : decode cX10_soonestFree 51 = .ok (.aload_n 0, 1) := by decide +kernel
theorem dX10_soonestFree_52 : decode cX10_soonestFree 52 = .ok (.getfield 15, 3) := by decide +kernel
theorem dX10_soonestFree_55 : decode cX10_soonestFree 55 = .ok (.iload 5, 2) := by decide +kernel
theorem dX10_soonestFree_57 : decode cX10_soonestFree 57 = .ok (.iconst 1, 1) := by decide +kernel
theorem dX10_soonestFree_58 : decode cX10_soonestFree 58 = .ok (.iadd, 1) := by decide +kernel
theorem dX10_soonestFree_59 : decode cX10_soonestFree 59 = .ok (.iaload, 1) := by decide +kernel
theorem dX10_soonestFree_60 : decode cX10_soonestFree 60 = .ok (.iand, 1) := by decide +kernel
theorem dX10_soonestFree_61 : decode cX10_soonestFree 61 = .ok (.iload_n 3, 1) := by decide +kernel
theorem dX10_soonestFree_62 : decode cX10_soonestFree 62 = .ok (.iconst (-1), 1) := by decide +kernel
theorem dX10_soonestFree_63 : decode cX10_soonestFree 63 = .ok (.ixor, 1) := by decide +kernel
theorem dX10_soonestFree_64 : decode cX10_soonestFree 64 = .ok (.iand, 1) := by decide +kernel
theorem dX10_soonestFree_65 : decode cX10_soonestFree 65 = .ok (.istore 4, 2) := by decide +kernel
theorem dX10_soonestFree_67 : decode cX10_soonestFree 67 = .ok (.iinc 5 1, 3) := by decide +kernel
theorem dX10_soonestFree_70 : decode cX10_soonestFree 70 = .ok (.goto (-51), 3) := by decide +kernel
theorem dX10_soonestFree_73 : decode cX10_soonestFree 73 = .ok (.iconst (-1), 1) := by decide +kernel
theorem dX10_soonestFree_74 : decode cX10_soonestFree 74 = .ok (.ireturn, 1) := by decide +kernel
theorem dX10_wardOnFirst_0 : decode cX10_wardOnFirst 0 = .ok (.aload_n 0, 1) := by decide +kernel
theorem dX10_wardOnFirst_1 : decode cX10_wardOnFirst 1 = .ok (.iload_n 1, 1) := by decide +kernel
theorem dX10_wardOnFirst_2 : decode cX10_wardOnFirst 2 = .ok (.iload_n 2, 1) := by decide +kernel
theorem dX10_wardOnFirst_3 : decode cX10_wardOnFirst 3 = .ok (.iconst 0, 1) := by decide +kernel
theorem dX10_wardOnFirst_4 : decode cX10_wardOnFirst 4 = .ok (.invokevirtual 77, 3) := by decide +kernel
theorem dX10_wardOnFirst_7 : decode cX10_wardOnFirst 7 = .ok (.istore 4, 2) := by decide +kernel
theorem dX10_wardOnFirst_9 : decode cX10_wardOnFirst 9 = .ok (.iload 4, 2) := by decide +kernel
theorem dX10_wardOnFirst_11 : decode cX10_wardOnFirst 11 = .ok (.iconst (-1), 1) := by decide +kernel
theorem dX10_wardOnFirst_12 : decode cX10_wardOnFirst 12 = .ok (.if_icmp .eq 9, 3) := by decide +kernel
theorem dX10_wardOnFirst_15 : decode cX10_wardOnFirst 15 = .ok (.iload_n 3, 1) := by decide +kernel
theorem dX10_wardOnFirst_16 : decode cX10_wardOnFirst 16 = .ok (.iload 4, 2) := by decide +kernel
theorem dX10_wardOnFirst_18 : decode cX10_wardOnFirst 18 = .ok (.if_icmp .le 5, 3) := by decide +kernel
theorem dX10_wardOnFirst_21 : decode cX10_wardOnFirst 21 = .ok (.iconst (-1), 1) := by decide +kernel
theorem dX10_wardOnFirst_22 : decode cX10_wardOnFirst 22 = .ok (.ireturn, 1) := by decide +kernel
theorem dX10_wardOnFirst_23 : decode cX10_wardOnFirst 23 = .ok (.aload_n 0, 1) := by decide +kernel
theorem dX10_wardOnFirst_24 : decode cX10_wardOnFirst 24 = .ok (.getfield 18, 3) := by decide +kernel
theorem dX10_wardOnFirst_27 : decode cX10_wardOnFirst 27 = .ok (.iload 4, 2) := by decide +kernel
theorem dX10_wardOnFirst_29 : decode cX10_wardOnFirst 29 = .ok (.iconst 1, 1) := by decide +kernel
theorem dX10_wardOnFirst_30 : decode cX10_wardOnFirst 30 = .ok (.iload_n 2, 1) := by decide +kernel
theorem dX10_wardOnFirst_31 : decode cX10_wardOnFirst 31 = .ok (.ishl, 1) := by decide +kernel
theorem dX10_wardOnFirst_32 : decode cX10_wardOnFirst 32 = .ok (.iastore, 1) := by decide +kernel
theorem dX10_wardOnFirst_33 : decode cX10_wardOnFirst 33 = .ok (.iload 4, 2) := by decide +kernel
theorem dX10_wardOnFirst_35 : decode cX10_wardOnFirst 35 = .ok (.iconst 1, 1) := by decide +kernel
theorem dX10_wardOnFirst_36 : decode cX10_wardOnFirst 36 = .ok (.isub, 1) := by decide +kernel
theorem dX10_wardOnFirst_37 : decode cX10_wardOnFirst 37 = .ok (.istore 5, 2) := by decide +kernel
theorem dX10_wardOnFirst_39 : decode cX10_wardOnFirst 39 = .ok (.iload 5, 2) := by decide +kernel
theorem dX10_wardOnFirst_41 : decode cX10_wardOnFirst 41 = .ok (.ifCond .lt 37, 3) := by decide +kernel
theorem dX10_wardOnFirst_44 : decode cX10_wardOnFirst 44 = .ok (.aload_n 0, 1) := by decide +kernel
theorem dX10_wardOnFirst_45 : decode cX10_wardOnFirst 45 = .ok (.getfield 18, 3) := by decide +kernel
theorem dX10_wardOnFirst_48 : decode cX10_wardOnFirst 48 = .ok (.iload 5, 2) := by decide +kernel
theorem dX10_wardOnFirst_50 : decode cX10_wardOnFirst 50 = .ok (.aload_n 0, 1) := by decide +kernel
theorem dX10_wardOnFirst_51 : decode cX10_wardOnFirst 51 = .ok (.aload_n 0, 1) := by decide +kernel
theorem dX10_wardOnFirst_52 : decode cX10_wardOnFirst 52 = .ok (.getfield 18, 3) := by decide +kernel
theorem dX10_wardOnFirst_55 : decode cX10_wardOnFirst 55 = .ok (.iload 5, 2) := by decide +kernel
theorem dX10_wardOnFirst_57 : decode cX10_wardOnFirst 57 = .ok (.iconst 1, 1) := by decide +kernel
theorem dX10_wardOnFirst_58 : decode cX10_wardOnFirst 58 = .ok (.iadd, 1) := by decide +kernel
theorem dX10_wardOnFirst_59 : decode cX10_wardOnFirst 59 = .ok (.iaload, 1) := by decide +kernel
theorem dX10_wardOnFirst_60 : decode cX10_wardOnFirst 60 = .ok (.invokevirtual 74, 3) := by decide +kernel
theorem dX10_wardOnFirst_63 : decode cX10_wardOnFirst 63 = .ok (.aload_n 0, 1) := by decide +kernel
theorem dX10_wardOnFirst_64 : decode cX10_wardOnFirst 64 = .ok (.getfield 15, 3) := by decide +kernel
theorem dX10_wardOnFirst_67 : decode cX10_wardOnFirst 67 = .ok (.iload 5, 2) := by decide +kernel
theorem dX10_wardOnFirst_69 : decode cX10_wardOnFirst 69 = .ok (.iaload, 1) := by decide +kernel
theorem dX10_wardOnFirst_70 : decode cX10_wardOnFirst 70 = .ok (.iand, 1) := by decide +kernel
theorem dX10_wardOnFirst_71 : decode cX10_wardOnFirst 71 = .ok (.iastore, 1) := by decide +kernel
theorem dX10_wardOnFirst_72 : decode cX10_wardOnFirst 72 = .ok (.iinc 5 (-1), 3) := by decide +kernel
theorem dX10_wardOnFirst_75 : decode cX10_wardOnFirst 75 = .ok (.goto (-36), 3) := by decide +kernel
theorem dX10_wardOnFirst_78 : decode cX10_wardOnFirst 78 = .ok (.iload_n 1, 1) := by decide +kernel
theorem dX10_wardOnFirst_79 : decode cX10_wardOnFirst 79 = .ok (.istore 5, 2) := by decide +kernel
theorem dX10_wardOnFirst_81 : decode cX10_wardOnFirst 81 = .ok (.iconst 1, 1) := by decide +kernel
theorem dX10_wardOnFirst_82 : decode cX10_wardOnFirst 82 = .ok (.istore 6, 2) := by decide +kernel
theorem dX10_wardOnFirst_84 : decode cX10_wardOnFirst 84 = .ok (.iload 6, 2) := by decide +kernel
theorem dX10_wardOnFirst_86 : decode cX10_wardOnFirst 86 = .ok (.iload_n 3, 1) := by decide +kernel
theorem dX10_wardOnFirst_87 : decode cX10_wardOnFirst 87 = .ok (.if_icmp .gt 38, 3) := by decide +kernel
theorem dX10_wardOnFirst_90 : decode cX10_wardOnFirst 90 = .ok (.iload 6, 2) := by decide +kernel
theorem dX10_wardOnFirst_92 : decode cX10_wardOnFirst 92 = .ok (.aload_n 0, 1) := by decide +kernel
theorem dX10_wardOnFirst_93 : decode cX10_wardOnFirst 93 = .ok (.getfield 18, 3) := by decide +kernel
theorem dX10_wardOnFirst_96 : decode cX10_wardOnFirst 96 = .ok (.arraylength, 1) := by decide +kernel
theorem dX10_wardOnFirst_97 : decode cX10_wardOnFirst 97 = .ok (.if_icmp .ge 28, 3) := by decide +kernel
theorem dX10_wardOnFirst_100 : decode cX10_wardOnFirst 100 = .ok (.aload_n 0, 1) := by decide +kernel
theorem dX10_wardOnFirst_101 : decode cX10_wardOnFirst 101 = .ok (.iload 5, 2) := by decide +kernel
theorem dX10_wardOnFirst_103 : decode cX10_wardOnFirst 103 = .ok (.invokevirtual 71, 3) := by decide +kernel
theorem dX10_wardOnFirst_106 : decode cX10_wardOnFirst 106 = .ok (.aload_n 0, 1) := by decide +kernel
theorem dX10_wardOnFirst_107 : decode cX10_wardOnFirst 107 = .ok (.getfield 18, 3) := by decide +kernel
theorem dX10_wardOnFirst_110 : decode cX10_wardOnFirst 110 = .ok (.iload 6, 2) := by decide +kernel
theorem dX10_wardOnFirst_112 : decode cX10_wardOnFirst 112 = .ok (.iaload, 1) := by decide +kernel
theorem dX10_wardOnFirst_113 : decode cX10_wardOnFirst 113 = .ok (.iand, 1) := by decide +kernel
theorem dX10_wardOnFirst_114 : decode cX10_wardOnFirst 114 = .ok (.invokestatic 81, 3) := by decide +kernel
theorem dX10_wardOnFirst_117 : decode cX10_wardOnFirst 117 = .ok (.istore 5, 2) := by decide +kernel
theorem dX10_wardOnFirst_119 : decode cX10_wardOnFirst 119 = .ok (.iinc 6 1, 3) := by decide +kernel
theorem dX10_wardOnFirst_122 : decode cX10_wardOnFirst 122 = .ok (.goto (-38), 3) := by decide +kernel
theorem dX10_wardOnFirst_125 : decode cX10_wardOnFirst 125 = .ok (.iload 5, 2) := by decide +kernel
theorem dX10_wardOnFirst_127 : decode cX10_wardOnFirst 127 = .ok (.ireturn, 1) := by decide +kernel
theorem dX10_firstOf_0 : decode cX10_firstOf 0 = .ok (.iconst 0, 1) := by decide +kernel
theorem dX10_firstOf_1 : decode cX10_firstOf 1 = .ok (.istore_n 1, 1) := by decide +kernel
theorem dX10_firstOf_2 : decode cX10_firstOf 2 = .ok (.iload_n 1, 1) := by decide +kernel
theorem dX10_firstOf_3 : decode cX10_firstOf 3 = .ok (.iconst 4, 1) := by decide +kernel
theorem dX10_firstOf_4 : decode cX10_firstOf 4 = .ok (.if_icmp .ge 17, 3) := by decide +kernel
theorem dX10_firstOf_7 : decode cX10_firstOf 7 = .ok (.iload_n 0, 1) := by decide +kernel
theorem dX10_firstOf_8 : decode cX10_firstOf 8 = .ok (.iload_n 1, 1) := by decide +kernel
theorem dX10_firstOf_9 : decode cX10_firstOf 9 = .ok (.ishr, 1) := by decide +kernel
theorem dX10_firstOf_10 : decode cX10_firstOf 10 = .ok (.iconst 1, 1) := by decide +kernel
theorem dX10_firstOf_11 : decode cX10_firstOf 11 = .ok (.iand, 1) := by decide +kernel
theorem dX10_firstOf_12 : decode cX10_firstOf 12 = .ok (.ifCond .ne 9, 3) := by decide +kernel
theorem dX10_firstOf_15 : decode cX10_firstOf 15 = .ok (.iinc 1 1, 3) := by decide +kernel
theorem dX10_firstOf_18 : decode cX10_firstOf 18 = .ok (.goto (-16), 3) := by decide +kernel
theorem dX10_firstOf_21 : decode cX10_firstOf 21 = .ok (.iload_n 1, 1) := by decide +kernel
theorem dX10_firstOf_22 : decode cX10_firstOf 22 = .ok (.ireturn, 1) := by decide +kernel
theorem dX10_leastFined_0 : decode cX10_leastFined 0 = .ok (.aload_n 0, 1) := by decide +kernel
theorem dX10_leastFined_1 : decode cX10_leastFined 1 = .ok (.getfield 21, 3) := by decide +kernel
theorem dX10_leastFined_4 : decode cX10_leastFined 4 = .ok (.iconst (-1), 1) := by decide +kernel
theorem dX10_leastFined_5 : decode cX10_leastFined 5 = .ok (.invokestatic 84, 3) := by decide +kernel
theorem dX10_leastFined_8 : decode cX10_leastFined 8 = .ok (.aload_n 0, 1) := by decide +kernel
theorem dX10_leastFined_9 : decode cX10_leastFined 9 = .ok (.getfield 21, 3) := by decide +kernel
theorem dX10_leastFined_12 : decode cX10_leastFined 12 = .ok (.iload_n 1, 1) := by decide +kernel
theorem dX10_leastFined_13 : decode cX10_leastFined 13 = .ok (.aload_n 0, 1) := by decide +kernel
theorem dX10_leastFined_14 : decode cX10_leastFined 14 = .ok (.getfield 9, 3) := by decide +kernel
theorem dX10_leastFined_17 : decode cX10_leastFined 17 = .ok (.iload_n 1, 1) := by decide +kernel
theorem dX10_leastFined_18 : decode cX10_leastFined 18 = .ok (.iaload, 1) := by decide +kernel
theorem dX10_leastFined_19 : decode cX10_leastFined 19 = .ok (.iastore, 1) := by decide +kernel
theorem dX10_leastFined_20 : decode cX10_leastFined 20 = .ok (.iconst 1, 1) := by decide +kernel
theorem dX10_leastFined_21 : decode cX10_leastFined 21 = .ok (.istore 4, 2) := by decide +kernel
theorem dX10_leastFined_23 : decode cX10_leastFined 23 = .ok (.iload 4, 2) := by decide +kernel
theorem dX10_leastFined_25 : decode cX10_leastFined 25 = .ok (.iload_n 3, 1) := by decide +kernel
theorem dX10_leastFined_26 : decode cX10_leastFined 26 = .ok (.if_icmp .gt 98, 3) := by decide +kernel
theorem dX10_leastFined_29 : decode cX10_leastFined 29 = .ok (.iload 4, 2) := by decide +kernel
theorem dX10_leastFined_31 : decode cX10_leastFined 31 = .ok (.bipush 60, 2) := by decide +kernel
theorem dX10_leastFined_33 : decode cX10_leastFined 33 = .ok (.if_icmp .gt 91, 3) := by decide +kernel
theorem dX10_leastFined_36 : decode cX10_leastFined 36 = .ok (.iconst 0, 1) := by decide +kernel
theorem dX10_leastFined_37 : decode cX10_leastFined 37 = .ok (.istore 5, 2) := by decide +kernel
theorem dX10_leastFined_39 : decode cX10_leastFined 39 = .ok (.iload 5, 2) := by decide +kernel
theorem dX10_leastFined_41 : decode cX10_leastFined 41 = .ok (.aload_n 0, 1) := by decide +kernel
theorem dX10_leastFined_42 : decode cX10_leastFined 42 = .ok (.getfield 34, 3) := by decide +kernel
theorem dX10_leastFined_45 : decode cX10_leastFined 45 = .ok (.getfield 47, 3) := by decide +kernel
theorem dX10_leastFined_48 : decode cX10_leastFined 48 = .ok (.getfield 51, 3) := by decide +kernel
theorem dX10_leastFined_51 : decode cX10_leastFined 51 = .ok (.if_icmp .ge 53, 3) := by decide +kernel
theorem dX10_leastFined_54 : decode cX10_leastFined 54 = .ok (.aload_n 0, 1) := by decide +kernel
theorem dX10_leastFined_55 : decode cX10_leastFined 55 = .ok (.aload_n 0, 1) := by decide +kernel
theorem dX10_leastFined_56 : decode cX10_leastFined 56 = .ok (.iload 5, 2) := by decide +kernel
theorem dX10_leastFined_58 : decode cX10_leastFined 58 = .ok (.invokevirtual 71, 3) := by decide +kernel
theorem dX10_leastFined_61 : decode cX10_leastFined 61 = .ok (.invokevirtual 90, 3) := by decide +kernel
theorem dX10_leastFined_64 : decode cX10_leastFined 64 = .ok (.istore 6, 2) := by decide +kernel
theorem dX10_leastFined_66 : decode cX10_leastFined 66 = .ok (.aload_n 0, 1) := by decide +kernel
theorem dX10_leastFined_67 : decode cX10_leastFined 67 = .ok (.getfield 24, 3) := by decide +kernel
theorem dX10_leastFined_70 : decode cX10_leastFined 70 = .ok (.iload 5, 2) := by decide +kernel
theorem dX10_leastFined_72 : decode cX10_leastFined 72 = .ok (.iload 6, 2) := by decide +kernel
theorem dX10_leastFined_74 : decode cX10_leastFined 74 = .ok (.iconst (-1), 1) := by decide +kernel
theorem dX10_leastFined_75 : decode cX10_leastFined 75 = .ok (.if_icmp .ne 7, 3) := by decide +kernel
theorem dX10_leastFined_78 : decode cX10_leastFined 78 = .ok (.iconst (-1), 1) := by decide +kernel
theorem dX10_leastFined_79 : decode cX10_leastFined 79 = .ok (.goto 18, 3) := by decide +kernel
theorem dX10_leastFined_82 : decode cX10_leastFined 82 = .ok (.iload 6, 2) := by decide +kernel
theorem dX10_leastFined_84 : decode cX10_leastFined 84 = .ok (.aload_n 0, 1) := by decide +kernel
theorem dX10_leastFined_85 : decode cX10_leastFined 85 = .ok (.getfield 9, 3) := by decide +kernel
theorem dX10_leastFined_88 : decode cX10_leastFined 88 = .ok (.iload 4, 2) := by decide +kernel
theorem dX10_leastFined_90 : decode cX10_leastFined 90 = .ok (.iconst 5, 1) := by decide +kernel
theorem dX10_leastFined_91 : decode cX10_leastFined 91 = .ok (.imul, 1) := by decide +kernel
theorem dX10_leastFined_92 : decode cX10_leastFined 92 = .ok (.iload 5, 2) := by decide +kernel
theorem dX10_leastFined_94 : decode cX10_leastFined 94 = .ok (.iadd, 1) := by decide +kernel
theorem dX10_leastFined_95 : decode cX10_leastFined 95 = .ok (.iaload, 1) := by decide +kernel
theorem dX10_leastFined_96 : decode cX10_leastFined 96 = .ok (.iadd, 1) := by decide +kernel
theorem dX10_leastFined_97 : decode cX10_leastFined 97 = .ok (.iastore, 1) := by decide +kernel
theorem dX10_leastFined_98 : decode cX10_leastFined 98 = .ok (.iinc 5 1, 3) := by decide +kernel
theorem dX10_leastFined_101 : decode cX10_leastFined 101 = .ok (.goto (-62), 3) := by decide +kernel
theorem dX10_leastFined_104 : decode cX10_leastFined 104 = .ok (.aload_n 0, 1) := by decide +kernel
theorem dX10_leastFined_105 : decode cX10_leastFined 105 = .ok (.getfield 24, 3) := by decide +kernel
theorem dX10_leastFined_108 : decode cX10_leastFined 108 = .ok (.iconst 0, 1) := by decide +kernel
theorem dX10_leastFined_109 : decode cX10_leastFined 109 = .ok (.aload_n 0, 1) := by decide +kernel
theorem dX10_leastFined_110 : decode cX10_leastFined 110 = .ok (.getfield 21, 3) := by decide +kernel
theorem dX10_leastFined_113 : decode cX10_leastFined 113 = .ok (.iconst 0, 1) := by decide +kernel
theorem dX10_leastFined_114 : decode cX10_leastFined 114 = .ok (.iconst 5, 1) := by decide +kernel
theorem dX10_leastFined_115 : decode cX10_leastFined 115 = .ok (.invokestatic 93, 3) := by decide +kernel
theorem dX10_leastFined_118 : decode cX10_leastFined 118 = .ok (.iinc 4 1, 3) := by decide +kernel
theorem dX10_leastFined_121 : decode cX10_leastFined 121 = .ok (.goto (-98), 3) := by decide +kernel
theorem dX10_leastFined_124 : decode cX10_leastFined 124 = .ok (.aload_n 0, 1) := by decide +kernel
theorem dX10_leastFined_125 : decode cX10_leastFined 125 = .ok (.getfield 21, 3) := by decide +kernel
theorem dX10_leastFined_128 : decode cX10_leastFined 128 = .ok (.iload_n 2, 1) := by decide +kernel
theorem dX10_leastFined_129 : decode cX10_leastFined 129 = .ok (.iaload, 1) := by decide +kernel
theorem dX10_leastFined_130 : decode cX10_leastFined 130 = .ok (.ireturn, 1) := by decide +kernel
theorem dX10_leastAmong_0 : decode cX10_leastAmong 0 = .ok (.iconst (-1), 1) := by decide +kernel
theorem dX10_leastAmong_1 : decode cX10_leastAmong 1 = .ok (.istore_n 2, 1) := by decide +kernel
theorem dX10_leastAmong_2 : decode cX10_leastAmong 2 = .ok (.iconst 0, 1) := by decide +kernel
theorem dX10_leastAmong_3 : decode cX10_leastAmong 3 = .ok (.istore_n 3, 1) := by decide +kernel
theorem dX10_leastAmong_4 : decode cX10_leastAmong 4 = .ok (.iload_n 3, 1) := by decide +kernel
theorem dX10_leastAmong_5 : decode cX10_leastAmong 5 = .ok (.aload_n 0, 1) := by decide +kernel
theorem dX10_leastAmong_6 : decode cX10_leastAmong 6 = .ok (.getfield 34, 3) := by decide +kernel
theorem dX10_leastAmong_9 : decode cX10_leastAmong 9 = .ok (.getfield 47, 3) := by decide +kernel
theorem dX10_leastAmong_12 : decode cX10_leastAmong 12 = .ok (.getfield 51, 3) := by decide +kernel
theorem dX10_leastAmong_15 : decode cX10_leastAmong 15 = .ok (.if_icmp .ge 49, 3) := by decide +kernel
theorem dX10_leastAmong_18 : decode cX10_leastAmong 18 = .ok (.iload_n 1, 1) := by decide +kernel
theorem dX10_leastAmong_19 : decode cX10_leastAmong 19 = .ok (.iload_n 3, 1) := by decide +kernel
theorem dX10_leastAmong_20 : decode cX10_leastAmong 20 = .ok (.ishr, 1) := by decide +kernel
theorem dX10_leastAmong_21 : decode cX10_leastAmong 21 = .ok (.iconst 1, 1) := by decide +kernel
theorem dX10_leastAmong_22 : decode cX10_leastAmong 22 = .ok (.iand, 1) := by decide +kernel
theorem dX10_leastAmong_23 : decode cX10_leastAmong 23 = .ok (.ifCond .eq 35, 3) := by decide +kernel
theorem dX10_leastAmong_26 : decode cX10_leastAmong 26 = .ok (.aload_n 0, 1) := by decide +kernel
theorem dX10_leastAmong_27 : decode cX10_leastAmong 27 = .ok (.getfield 21, 3) := by decide +kernel
theorem dX10_leastAmong_30 : decode cX10_leastAmong 30 = .ok (.iload_n 3, 1) := by decide +kernel
theorem dX10_leastAmong_31 : decode cX10_leastAmong 31 = .ok (.iaload, 1) := by decide +kernel
theorem dX10_leastAmong_32 : decode cX10_leastAmong 32 = .ok (.iconst (-1), 1) := by decide +kernel
theorem dX10_leastAmong_33 : decode cX10_leastAmong 33 = .ok (.if_icmp .eq 25, 3) := by decide +kernel
theorem dX10_leastAmong_36 : decode cX10_leastAmong 36 = .ok (.iload_n 2, 1) := by decide +kernel
theorem dX10_leastAmong_37 : decode cX10_leastAmong 37 = .ok (.iconst (-1), 1) := by decide +kernel
theorem dX10_leastAmong_38 : decode cX10_leastAmong 38 = .ok (.if_icmp .eq 13, 3) := by decide +kernel
theorem dX10_leastAmong_41 : decode cX10_leastAmong 41 = .ok (.aload_n 0, 1) := by decide +kernel
theorem dX10_leastAmong_42 : decode cX10_leastAmong 42 = .ok (.getfield 21, 3) := by decide +kernel
theorem dX10_leastAmong_45 : decode cX10_leastAmong 45 = .ok (.iload_n 3, 1) := by decide +kernel
theorem dX10_leastAmong_46 : decode cX10_leastAmong 46 = .ok (.iaload, 1) := by decide +kernel
theorem dX10_leastAmong_47 : decode cX10_leastAmong 47 = .ok (.iload_n 2, 1) := by decide +kernel
theorem dX10_leastAmong_48 : decode cX10_leastAmong 48 = .ok (.if_icmp .ge 10, 3) := by decide +kernel
theorem dX10_leastAmong_51 : decode cX10_leastAmong 51 = .ok (.aload_n 0, 1) := by decide +kernel
theorem dX10_leastAmong_52 : decode cX10_leastAmong 52 = .ok (.getfield 21, 3) := by decide +kernel
theorem dX10_leastAmong_55 : decode cX10_leastAmong 55 = .ok (.iload_n 3, 1) := by decide +kernel
theorem dX10_leastAmong_56 : decode cX10_leastAmong 56 = .ok (.iaload, 1) := by decide +kernel
theorem dX10_leastAmong_57 : decode cX10_leastAmong 57 = .ok (.istore_n 2, 1) := by decide +kernel
theorem dX10_leastAmong_58 : decode cX10_leastAmong 58 = .ok (.iinc 3 1, 3) := by decide +kernel
theorem dX10_leastAmong_61 : decode cX10_leastAmong 61 = .ok (.goto (-57), 3) := by decide +kernel
theorem dX10_leastAmong_64 : decode cX10_leastAmong 64 = .ok (.iload_n 2, 1) := by decide +kernel
theorem dX10_leastAmong_65 : decode cX10_leastAmong 65 = .ok (.ireturn, 1) := by decide +kernel
theorem dX10_manyFree_0 : decode cX10_manyFree 0 = .ok (.aload_n 0, 1) := by decide +kernel
theorem dX10_manyFree_1 : decode cX10_manyFree 1 = .ok (.getfield 27, 3) := by decide +kernel
theorem dX10_manyFree_4 : decode cX10_manyFree 4 = .ok (.lconst 0, 1) := by decide +kernel
theorem dX10_manyFree_5 : decode cX10_manyFree 5 = .ok (.invokestatic 99, 3) := by decide +kernel
theorem dX10_manyFree_8 : decode cX10_manyFree 8 = .ok (.aload_n 0, 1) := by decide +kernel
theorem dX10_manyFree_9 : decode cX10_manyFree 9 = .ok (.getfield 27, 3) := by decide +kernel
theorem dX10_manyFree_12 : decode cX10_manyFree 12 = .ok (.iload_n 1, 1) := by decide +kernel
theorem dX10_manyFree_13 : decode cX10_manyFree 13 = .ok (.aload_n 0, 1) := by decide +kernel
theorem dX10_manyFree_14 : decode cX10_manyFree 14 = .ok (.getfield 15, 3) := by decide +kernel
theorem dX10_manyFree_17 : decode cX10_manyFree 17 = .ok (.iconst 0, 1) := by decide +kernel
theorem dX10_manyFree_18 : decode cX10_manyFree 18 = .ok (.iaload, 1) := by decide +kernel
theorem dX10_manyFree_19 : decode cX10_manyFree 19 = .ok (.iload_n 1, 1) := by decide +kernel
theorem dX10_manyFree_20 : decode cX10_manyFree 20 = .ok (.ishr, 1) := by decide +kernel
theorem dX10_manyFree_21 : decode cX10_manyFree 21 = .ok (.iconst 1, 1) := by decide +kernel
theorem dX10_manyFree_22 : decode cX10_manyFree 22 = .ok (.iand, 1) := by decide +kernel
theorem dX10_manyFree_23 : decode cX10_manyFree 23 = .ok (.i2l, 1) := by decide +kernel
theorem dX10_manyFree_24 : decode cX10_manyFree 24 = .ok (.lastore, 1) := by decide +kernel
theorem dX10_manyFree_25 : decode cX10_manyFree 25 = .ok (.iconst 1, 1) := by decide +kernel
theorem dX10_manyFree_26 : decode cX10_manyFree 26 = .ok (.istore 4, 2) := by decide +kernel
theorem dX10_manyFree_28 : decode cX10_manyFree 28 = .ok (.iload 4, 2) := by decide +kernel
theorem dX10_manyFree_30 : decode cX10_manyFree 30 = .ok (.iload_n 3, 1) := by decide +kernel
theorem dX10_manyFree_31 : decode cX10_manyFree 31 = .ok (.if_icmp .gt 90, 3) := by decide +kernel
theorem dX10_manyFree_34 : decode cX10_manyFree 34 = .ok (.iload 4, 2) := by decide +kernel
theorem dX10_manyFree_36 : decode cX10_manyFree 36 = .ok (.bipush 60, 2) := by decide +kernel
theorem dX10_manyFree_38 : decode cX10_manyFree 38 = .ok (.if_icmp .gt 83, 3) := by decide +kernel
theorem dX10_manyFree_41 : decode cX10_manyFree 41 = .ok (.iconst 0, 1) := by decide +kernel
theorem dX10_manyFree_42 : decode cX10_manyFree 42 = .ok (.istore 5, 2) := by decide +kernel
theorem dX10_manyFree_44 : decode cX10_manyFree 44 = .ok (.iload 5, 2) := by decide +kernel
theorem dX10_manyFree_46 : decode cX10_manyFree 46 = .ok (.aload_n 0, 1) := by decide +kernel
theorem dX10_manyFree_47 : decode cX10_manyFree 47 = .ok (.getfield 34, 3) := by decide +kernel
theorem dX10_manyFree_50 : decode cX10_manyFree 50 = .ok (.getfield 47, 3) := by decide +kernel
theorem dX10_manyFree_53 : decode cX10_manyFree 53 = .ok (.getfield 51, 3) := by decide +kernel
theorem dX10_manyFree_56 : decode cX10_manyFree 56 = .ok (.if_icmp .ge 45, 3) := by decide +kernel
theorem dX10_manyFree_59 : decode cX10_manyFree 59 = .ok (.aload_n 0, 1) := by decide +kernel
theorem dX10_manyFree_60 : decode cX10_manyFree 60 = .ok (.getfield 31, 3) := by decide +kernel
theorem dX10_manyFree_63 : decode cX10_manyFree 63 = .ok (.iload 5, 2) := by decide +kernel
theorem dX10_manyFree_65 : decode cX10_manyFree 65 = .ok (.aload_n 0, 1) := by decide +kernel
theorem dX10_manyFree_66 : decode cX10_manyFree 66 = .ok (.getfield 15, 3) := by decide +kernel
theorem dX10_manyFree_69 : decode cX10_manyFree 69 = .ok (.iload 4, 2) := by decide +kernel
theorem dX10_manyFree_71 : decode cX10_manyFree 71 = .ok (.iaload, 1) := by decide +kernel
theorem dX10_manyFree_72 : decode cX10_manyFree 72 = .ok (.iload 5, 2) := by decide +kernel
theorem dX10_manyFree_74 : decode cX10_manyFree 74 = .ok (.ishr, 1) := by decide +kernel
theorem dX10_manyFree_75 : decode cX10_manyFree 75 = .ok (.iconst 1, 1) := by decide +kernel
theorem dX10_manyFree_76 : decode cX10_manyFree 76 = .ok (.iand, 1) := by decide +kernel
theorem dX10_manyFree_77 : decode cX10_manyFree 77 = .ok (.ifCond .ne 7, 3) := by decide +kernel
theorem dX10_manyFree_80 : decode cX10_manyFree 80 = .ok (.lconst 0, 1) := by decide +kernel
theorem dX10_manyFree_81 : decode cX10_manyFree 81 = .ok (.goto 13, 3) := by decide +kernel
theorem dX10_manyFree_84 : decode cX10_manyFree 84 = .ok (.aload_n 0, 1) := by decide +kernel
theorem dX10_manyFree_85 : decode cX10_manyFree 85 = .ok (.aload_n 0, 1) := by decide +kernel
theorem dX10_manyFree_86 : decode cX10_manyFree 86 = .ok (.iload 5, 2) := by decide +kernel
theorem dX10_manyFree_88 : decode cX10_manyFree 88 = .ok (.invokevirtual 71, 3) := by decide +kernel
theorem dX10_manyFree_91 : decode cX10_manyFree 91 = .ok (.invokevirtual 102, 3) := by decide +kernel
theorem dX10_manyFree_94 : decode cX10_manyFree 94 = .ok (.lastore, 1) := by decide +kernel
theorem dX10_manyFree_95 : decode cX10_manyFree 95 = .ok (.iinc 5 1, 3) := by decide +kernel
theorem dX10_manyFree_98 : decode cX10_manyFree 98 = .ok (.goto (-54), 3) := by decide +kernel
theorem dX10_manyFree_101 : decode cX10_manyFree 101 = .ok (.aload_n 0, 1) := by decide +kernel
theorem dX10_manyFree_102 : decode cX10_manyFree 102 = .ok (.getfield 31, 3) := by decide +kernel
theorem dX10_manyFree_105 : decode cX10_manyFree 105 = .ok (.iconst 0, 1) := by decide +kernel
theorem dX10_manyFree_106 : decode cX10_manyFree 106 = .ok (.aload_n 0, 1) := by decide +kernel
theorem dX10_manyFree_107 : decode cX10_manyFree 107 = .ok (.getfield 27, 3) := by decide +kernel
theorem dX10_manyFree_110 : decode cX10_manyFree 110 = .ok (.iconst 0, 1) := by decide +kernel
theorem dX10_manyFree_111 : decode cX10_manyFree 111 = .ok (.iconst 5, 1) := by decide +kernel
theorem dX10_manyFree_112 : decode cX10_manyFree 112 = .ok (.invokestatic 93, 3) := by decide +kernel
theorem dX10_manyFree_115 : decode cX10_manyFree 115 = .ok (.iinc 4 1, 3) := by decide +kernel
theorem dX10_manyFree_118 : decode cX10_manyFree 118 = .ok (.goto (-90), 3) := by decide +kernel
theorem dX10_manyFree_121 : decode cX10_manyFree 121 = .ok (.aload_n 0, 1) := by decide +kernel
theorem dX10_manyFree_122 : decode cX10_manyFree 122 = .ok (.getfield 27, 3) := by decide +kernel
theorem dX10_manyFree_125 : decode cX10_manyFree 125 = .ok (.iload_n 2, 1) := by decide +kernel
theorem dX10_manyFree_126 : decode cX10_manyFree 126 = .ok (.laload, 1) := by decide +kernel
theorem dX10_manyFree_127 : decode cX10_manyFree 127 = .ok (.lreturn, 1) := by decide +kernel
theorem dX10_manyAmong_0 : decode cX10_manyAmong 0 = .ok (.lconst 0, 1) := by decide +kernel
theorem dX10_manyAmong_1 : decode cX10_manyAmong 1 = .ok (.lstore_n 2, 1) := by decide +kernel
theorem dX10_manyAmong_2 : decode cX10_manyAmong 2 = .ok (.iconst 0, 1) := by decide +kernel
theorem dX10_manyAmong_3 : decode cX10_manyAmong 3 = .ok (.istore 4, 2) := by decide +kernel
theorem dX10_manyAmong_5 : decode cX10_manyAmong 5 = .ok (.iload 4, 2) := by decide +kernel
theorem dX10_manyAmong_7 : decode cX10_manyAmong 7 = .ok (.aload_n 0, 1) := by decide +kernel
theorem dX10_manyAmong_8 : decode cX10_manyAmong 8 = .ok (.getfield 34, 3) := by decide +kernel
theorem dX10_manyAmong_11 : decode cX10_manyAmong 11 = .ok (.getfield 47, 3) := by decide +kernel
theorem dX10_manyAmong_14 : decode cX10_manyAmong 14 = .ok (.getfield 51, 3) := by decide +kernel
theorem dX10_manyAmong_17 : decode cX10_manyAmong 17 = .ok (.if_icmp .ge 28, 3) := by decide +kernel
theorem dX10_manyAmong_20 : decode cX10_manyAmong 20 = .ok (.iload_n 1, 1) := by decide +kernel
theorem dX10_manyAmong_21 : decode cX10_manyAmong 21 = .ok (.iload 4, 2) := by decide +kernel
theorem dX10_manyAmong_23 : decode cX10_manyAmong 23 = .ok (.ishr, 1) := by decide +kernel
theorem dX10_manyAmong_24 : decode cX10_manyAmong 24 = .ok (.iconst 1, 1) := by decide +kernel
theorem dX10_manyAmong_25 : decode cX10_manyAmong 25 = .ok (.iand, 1) := by decide +kernel
theorem dX10_manyAmong_26 : decode cX10_manyAmong 26 = .ok (.ifCond .eq 13, 3) := by decide +kernel
theorem dX10_manyAmong_29 : decode cX10_manyAmong 29 = .ok (.lload_n 2, 1) := by decide +kernel
theorem dX10_manyAmong_30 : decode cX10_manyAmong 30 = .ok (.aload_n 0, 1) := by decide +kernel
theorem dX10_manyAmong_31 : decode cX10_manyAmong 31 = .ok (.getfield 27, 3) := by decide +kernel
theorem dX10_manyAmong_34 : decode cX10_manyAmong 34 = .ok (.iload 4, 2) := by decide +kernel
theorem dX10_manyAmong_36 : decode cX10_manyAmong 36 = .ok (.laload, 1) := by decide +kernel
theorem dX10_manyAmong_37 : decode cX10_manyAmong 37 = .ok (.ladd, 1) := by decide +kernel
theorem dX10_manyAmong_38 : decode cX10_manyAmong 38 = .ok (.lstore_n 2, 1) := by decide +kernel
theorem dX10_manyAmong_39 : decode cX10_manyAmong 39 = .ok (.iinc 4 1, 3) := by decide +kernel
theorem dX10_manyAmong_42 : decode cX10_manyAmong 42 = .ok (.goto (-37), 3) := by decide +kernel
theorem dX10_manyAmong_45 : decode cX10_manyAmong 45 = .ok (.lload_n 2, 1) := by decide +kernel
theorem dX10_manyAmong_46 : decode cX10_manyAmong 46 = .ok (.lreturn, 1) := by decide +kernel
theorem dX10_bestGuard_0 : decode cX10_bestGuard 0 = .ok (.aload_n 0, 1) := by decide +kernel
theorem dX10_bestGuard_1 : decode cX10_bestGuard 1 = .ok (.iload_n 1, 1) := by decide +kernel
theorem dX10_bestGuard_2 : decode cX10_bestGuard 2 = .ok (.iload_n 2, 1) := by decide +kernel
theorem dX10_bestGuard_3 : decode cX10_bestGuard 3 = .ok (.iconst 0, 1) := by decide +kernel
theorem dX10_bestGuard_4 : decode cX10_bestGuard 4 = .ok (.invokevirtual 77, 3) := by decide +kernel
theorem dX10_bestGuard_7 : decode cX10_bestGuard 7 = .ok (.istore_n 3, 1) := by decide +kernel
theorem dX10_bestGuard_8 : decode cX10_bestGuard 8 = .ok (.iload_n 3, 1) := by decide +kernel
theorem dX10_bestGuard_9 : decode cX10_bestGuard 9 = .ok (.iconst (-1), 1) := by decide +kernel
theorem dX10_bestGuard_10 : decode cX10_bestGuard 10 = .ok (.if_icmp .ne 5, 3) := by decide +kernel
theorem dX10_bestGuard_13 : decode cX10_bestGuard 13 = .ok (.iconst (-1), 1) := by decide +kernel
theorem dX10_bestGuard_14 : decode cX10_bestGuard 14 = .ok (.ireturn, 1) := by decide +kernel
theorem dX10_bestGuard_15 : decode cX10_bestGuard 15 = .ok (.iconst (-1), 1) := by decide +kernel
theorem dX10_bestGuard_16 : decode cX10_bestGuard 16 = .ok (.istore 4, 2) := by decide +kernel
theorem dX10_bestGuard_18 : decode cX10_bestGuard 18 = .ok (.iconst 0, 1) := by decide +kernel
theorem dX10_bestGuard_19 : decode cX10_bestGuard 19 = .ok (.istore 5, 2) := by decide +kernel
theorem dX10_bestGuard_21 : decode cX10_bestGuard 21 = .ok (.iload 5, 2) := by decide +kernel
theorem dX10_bestGuard_23 : decode cX10_bestGuard 23 = .ok (.aload_n 0, 1) := by decide +kernel
theorem dX10_bestGuard_24 : decode cX10_bestGuard 24 = .ok (.getfield 34, 3) := by decide +kernel
theorem dX10_bestGuard_27 : decode cX10_bestGuard 27 = .ok (.getfield 47, 3) := by decide +kernel
theorem dX10_bestGuard_30 : decode cX10_bestGuard 30 = .ok (.getfield 51, 3) := by decide +kernel
theorem dX10_bestGuard_33 : decode cX10_bestGuard 33 = .ok (.if_icmp .ge 61, 3) := by decide +kernel
theorem dX10_bestGuard_36 : decode cX10_bestGuard 36 = .ok (.iload 5, 2) := by decide +kernel
theorem dX10_bestGuard_38 : decode cX10_bestGuard 38 = .ok (.iload_n 1, 1) := by decide +kernel
theorem dX10_bestGuard_39 : decode cX10_bestGuard 39 = .ok (.if_icmp .eq 49, 3) := by decide +kernel
theorem dX10_bestGuard_42 : decode cX10_bestGuard 42 = .ok (.iload 5, 2) := by decide +kernel
theorem dX10_bestGuard_44 : decode cX10_bestGuard 44 = .ok (.iload_n 2, 1) := by decide +kernel
theorem dX10_bestGuard_45 : decode cX10_bestGuard 45 = .ok (.if_icmp .eq 43, 3) := by decide +kernel
theorem dX10_bestGuard_48 : decode cX10_bestGuard 48 = .ok (.aload_n 0, 1) := by decide +kernel
theorem dX10_bestGuard_49 : decode cX10_bestGuard 49 = .ok (.iload_n 1, 1) := by decide +kernel
theorem dX10_bestGuard_50 : decode cX10_bestGuard 50 = .ok (.iload_n 2, 1) := by decide +kernel
theorem dX10_bestGuard_51 : decode cX10_bestGuard 51 = .ok (.iconst 1, 1) := by decide +kernel
theorem dX10_bestGuard_52 : decode cX10_bestGuard 52 = .ok (.iload 5, 2) := by decide +kernel
theorem dX10_bestGuard_54 : decode cX10_bestGuard 54 = .ok (.ishl, 1) := by decide +kernel
theorem dX10_bestGuard_55 : decode cX10_bestGuard 55 = .ok (.invokevirtual 77, 3) := by decide +kernel
theorem dX10_bestGuard_58 : decode cX10_bestGuard 58 = .ok (.istore 6, 2) := by decide +kernel
theorem dX10_bestGuard_60 : decode cX10_bestGuard 60 = .ok (.iload 6, 2) := by decide +kernel
theorem dX10_bestGuard_62 : decode cX10_bestGuard 62 = .ok (.iconst (-1), 1) := by decide +kernel
theorem dX10_bestGuard_63 : decode cX10_bestGuard 63 = .ok (.if_icmp .ne 8, 3) := by decide +kernel
theorem dX10_bestGuard_66 : decode cX10_bestGuard 66 = .ok (.bipush 61, 2) := by decide +kernel
theorem dX10_bestGuard_68 : decode cX10_bestGuard 68 = .ok (.goto 5, 3) := by decide +kernel
theorem dX10_bestGuard_71 : decode cX10_bestGuard 71 = .ok (.iload 6, 2) := by decide +kernel
theorem dX10_bestGuard_73 : decode cX10_bestGuard 73 = .ok (.istore 7, 2) := by decide +kernel
theorem dX10_bestGuard_75 : decode cX10_bestGuard 75 = .ok (.iload 7, 2) := by decide +kernel
theorem dX10_bestGuard_77 : decode cX10_bestGuard 77 = .ok (.iload_n 3, 1) := by decide +kernel
theorem dX10_bestGuard_78 : decode cX10_bestGuard 78 = .ok (.if_icmp .le 10, 3) := by decide +kernel
theorem dX10_bestGuard_81 : decode cX10_bestGuard 81 = .ok (.iload 7, 2) := by decide +kernel
theorem dX10_bestGuard_83 : decode cX10_bestGuard 83 = .ok (.istore_n 3, 1) := by decide +kernel
theorem dX10_bestGuard_84 : decode cX10_bestGuard 84 = .ok (.iload 5, 2) := by decide +kernel
theorem dX10_bestGuard_86 : decode cX10_bestGuard 86 = .ok (.istore 4, 2) := by decide +kernel
theorem dX10_bestGuard_88 : decode cX10_bestGuard 88 = .ok (.iinc 5 1, 3) := by decide +kernel
theorem dX10_bestGuard_91 : decode cX10_bestGuard 91 = .ok (.goto (-70), 3) := by decide +kernel
theorem dX10_bestGuard_94 : decode cX10_bestGuard 94 = .ok (.iload 4, 2) := by decide +kernel
theorem dX10_bestGuard_96 : decode cX10_bestGuard 96 = .ok (.ireturn, 1) := by decide +kernel
theorem dJ9_floorMod_7cf53_0 : decode cJ9_floorMod_7cf53 0 = .ok (.iload_n 0, 1) := by decide +kernel
theorem dJ9_floorMod_7cf53_1 : decode cJ9_floorMod_7cf53 1 = .ok (.iload_n 1, 1) := by decide +kernel
theorem dJ9_floorMod_7cf53_2 : decode cJ9_floorMod_7cf53 2 = .ok (.irem, 1) := by decide +kernel
theorem dJ9_floorMod_7cf53_3 : decode cJ9_floorMod_7cf53 3 = .ok (.istore_n 2, 1) := by decide +kernel
theorem dJ9_floorMod_7cf53_4 : decode cJ9_floorMod_7cf53 4 = .ok (.iload_n 0, 1) := by decide +kernel
theorem dJ9_floorMod_7cf53_5 : decode cJ9_floorMod_7cf53 5 = .ok (.iload_n 1, 1) := by decide +kernel
theorem dJ9_floorMod_7cf53_6 : decode cJ9_floorMod_7cf53 6 = .ok (.ixor, 1) := by decide +kernel
theorem dJ9_floorMod_7cf53_7 : decode cJ9_floorMod_7cf53 7 = .ok (.ifCond .ge 11, 3) := by decide +kernel
theorem dJ9_floorMod_7cf53_10 : decode cJ9_floorMod_7cf53 10 = .ok (.iload_n 2, 1) := by decide +kernel
theorem dJ9_floorMod_7cf53_11 : decode cJ9_floorMod_7cf53 11 = .ok (.ifCond .eq 7, 3) := by decide +kernel
theorem dJ9_floorMod_7cf53_14 : decode cJ9_floorMod_7cf53 14 = .ok (.iload_n 2, 1) := by decide +kernel
theorem dJ9_floorMod_7cf53_15 : decode cJ9_floorMod_7cf53 15 = .ok (.iload_n 1, 1) := by decide +kernel
theorem dJ9_floorMod_7cf53_16 : decode cJ9_floorMod_7cf53 16 = .ok (.iadd, 1) := by decide +kernel
theorem dJ9_floorMod_7cf53_17 : decode cJ9_floorMod_7cf53 17 = .ok (.ireturn, 1) := by decide +kernel
theorem dJ9_floorMod_7cf53_18 : decode cJ9_floorMod_7cf53 18 = .ok (.iload_n 2, 1) := by decide +kernel
theorem dJ9_floorMod_7cf53_19 : decode cJ9_floorMod_7cf53 19 = .ok (.ireturn, 1) := by decide +kernel
theorem dX7_hourOfDay_0 : decode cX7_hourOfDay 0 = .ok (.iload_n 0, 1) := by decide +kernel
theorem dX7_hourOfDay_1 : decode cX7_hourOfDay 1 = .ok (.bipush 24, 2) := by decide +kernel
theorem dX7_hourOfDay_3 : decode cX7_hourOfDay 3 = .ok (.invokestatic 80, 3) := by decide +kernel
theorem dX7_hourOfDay_6 : decode cX7_hourOfDay 6 = .ok (.ireturn, 1) := by decide +kernel
