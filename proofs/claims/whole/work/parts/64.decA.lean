/-! what stands at each place of the code -/
theorem dX0_init_0 : decode cX0_init 0 = .ok (.aload_n 0, 1) := by decide +kernel
theorem dX0_init_1 : decode cX0_init 1 = .ok (.invokespecial 3, 3) := by decide +kernel
theorem dX0_init_4 : decode cX0_init 4 = .ok (.aload_n 0, 1) := by decide +kernel
theorem dX0_init_5 : decode cX0_init 5 = .ok (.iconst 4, 1) := by decide +kernel
theorem dX0_init_6 : decode cX0_init 6 = .ok (.newarray .int, 2) := by decide +kernel
theorem dX0_init_8 : decode cX0_init 8 = .ok (.putfield 9, 3) := by decide +kernel
theorem dX0_init_11 : decode cX0_init 11 = .ok (.aload_n 0, 1) := by decide +kernel
theorem dX0_init_12 : decode cX0_init 12 = .ok (.iconst 0, 1) := by decide +kernel
theorem dX0_init_13 : decode cX0_init 13 = .ok (.putfield 15, 3) := by decide +kernel
theorem dX0_init_16 : decode cX0_init 16 = .ok (.aload_n 0, 1) := by decide +kernel
theorem dX0_init_17 : decode cX0_init 17 = .ok (.sipush 3584, 3) := by decide +kernel
theorem dX0_init_20 : decode cX0_init 20 = .ok (.newarray .byte, 2) := by decide +kernel
theorem dX0_init_22 : decode cX0_init 22 = .ok (.putfield 19, 3) := by decide +kernel
theorem dX0_init_25 : decode cX0_init 25 = .ok (.aload_n 0, 1) := by decide +kernel
theorem dX0_init_26 : decode cX0_init 26 = .ok (.iconst 4, 1) := by decide +kernel
theorem dX0_init_27 : decode cX0_init 27 = .ok (.newarray .int, 2) := by decide +kernel
theorem dX0_init_29 : decode cX0_init 29 = .ok (.putfield 23, 3) := by decide +kernel
theorem dX0_init_32 : decode cX0_init 32 = .ok (.aload_n 0, 1) := by decide +kernel
theorem dX0_init_33 : decode cX0_init 33 = .ok (.iconst 4, 1) := by decide +kernel
theorem dX0_init_34 : decode cX0_init 34 = .ok (.newarray .int, 2) := by decide +kernel
theorem dX0_init_36 : decode cX0_init 36 = .ok (.putfield 26, 3) := by decide +kernel
theorem dX0_init_39 : decode cX0_init 39 = .ok (.aload_n 0, 1) := by decide +kernel
theorem dX0_init_40 : decode cX0_init 40 = .ok (.iconst (-1), 1) := by decide +kernel
theorem dX0_init_41 : decode cX0_init 41 = .ok (.putfield 29, 3) := by decide +kernel
theorem dX0_init_44 : decode cX0_init 44 = .ok (.aload_n 0, 1) := by decide +kernel
theorem dX0_init_45 : decode cX0_init 45 = .ok (.aload_n 1, 1) := by decide +kernel
theorem dX0_init_46 : decode cX0_init 46 = .ok (.putfield 32, 3) := by decide +kernel
theorem dX0_init_49 : decode cX0_init 49 = .ok (.return_, 1) := by decide +kernel
theorem dX0_take_0 : decode cX0_take 0 = .ok (.aload_n 0, 1) := by decide +kernel
theorem dX0_take_1 : decode cX0_take 1 = .ok (.aload_n 1, 1) := by decide +kernel
theorem dX0_take_2 : decode cX0_take 2 = .ok (.getfield 36, 3) := by decide +kernel
theorem dX0_take_5 : decode cX0_take 5 = .ok (.iconst 4, 1) := by decide +kernel
theorem dX0_take_6 : decode cX0_take 6 = .ok (.invokestatic 39, 3) := by decide +kernel
theorem dX0_take_9 : decode cX0_take 9 = .ok (.putfield 15, 3) := by decide +kernel
theorem dX0_take_12 : decode cX0_take 12 = .ok (.iconst 0, 1) := by decide +kernel
theorem dX0_take_13 : decode cX0_take 13 = .ok (.istore_n 2, 1) := by decide +kernel
theorem dX0_take_14 : decode cX0_take 14 = .ok (.iload_n 2, 1) := by decide +kernel
theorem dX0_take_15 : decode cX0_take 15 = .ok (.aload_n 0, 1) := by decide +kernel
theorem dX0_take_16 : decode cX0_take 16 = .ok (.getfield 15, 3) := by decide +kernel
theorem dX0_take_19 : decode cX0_take 19 = .ok (.if_icmp .ge 22, 3) := by decide +kernel
theorem dX0_take_22 : decode cX0_take 22 = .ok (.aload_n 0, 1) := by decide +kernel
theorem dX0_take_23 : decode cX0_take 23 = .ok (.getfield 9, 3) := by decide +kernel
theorem dX0_take_26 : decode cX0_take 26 = .ok (.iload_n 2, 1) := by decide +kernel
theorem dX0_take_27 : decode cX0_take 27 = .ok (.aload_n 1, 1) := by decide +kernel
theorem dX0_take_28 : decode cX0_take 28 = .ok (.getfield 45, 3) := by decide +kernel
theorem dX0_take_31 : decode cX0_take 31 = .ok (.iload_n 2, 1) := by decide +kernel
theorem dX0_take_32 : decode cX0_take 32 = .ok (.laload, 1) := by decide +kernel
theorem dX0_take_33 : decode cX0_take 33 = .ok (.l2i, 1) := by decide +kernel
theorem dX0_take_34 : decode cX0_take 34 = .ok (.iastore, 1) := by decide +kernel
theorem dX0_take_35 : decode cX0_take 35 = .ok (.iinc 2 1, 3) := by decide +kernel
theorem dX0_take_38 : decode cX0_take 38 = .ok (.goto (-24), 3) := by decide +kernel
theorem dX0_take_41 : decode cX0_take 41 = .ok (.aload_n 0, 1) := by decide +kernel
theorem dX0_take_42 : decode cX0_take 42 = .ok (.getfield 19, 3) := by decide +kernel
theorem dX0_take_45 : decode cX0_take 45 = .ok (.iconst 0, 1) := by decide +kernel
theorem dX0_take_46 : decode cX0_take 46 = .ok (.invokestatic 48, 3) := by decide +kernel
theorem dX0_take_49 : decode cX0_take 49 = .ok (.aload_n 0, 1) := by decide +kernel
theorem dX0_take_50 : decode cX0_take 50 = .ok (.iconst (-1), 1) := by decide +kernel
theorem dX0_take_51 : decode cX0_take 51 = .ok (.putfield 29, 3) := by decide +kernel
theorem dX0_take_54 : decode cX0_take 54 = .ok (.return_, 1) := by decide +kernel
theorem dX0_isBarred_0 : decode cX0_isBarred 0 = .ok (.iload_n 2, 1) := by decide +kernel
theorem dX0_isBarred_1 : decode cX0_isBarred 1 = .ok (.sipush 896, 3) := by decide +kernel
theorem dX0_isBarred_4 : decode cX0_isBarred 4 = .ok (.if_icmp .lt 5, 3) := by decide +kernel
theorem dX0_isBarred_7 : decode cX0_isBarred 7 = .ok (.iconst 1, 1) := by decide +kernel
theorem dX0_isBarred_8 : decode cX0_isBarred 8 = .ok (.ireturn, 1) := by decide +kernel
theorem dX0_isBarred_9 : decode cX0_isBarred 9 = .ok (.iload_n 1, 1) := by decide +kernel
theorem dX0_isBarred_10 : decode cX0_isBarred 10 = .ok (.sipush 896, 3) := by decide +kernel
theorem dX0_isBarred_13 : decode cX0_isBarred 13 = .ok (.imul, 1) := by decide +kernel
theorem dX0_isBarred_14 : decode cX0_isBarred 14 = .ok (.iload_n 2, 1) := by decide +kernel
theorem dX0_isBarred_15 : decode cX0_isBarred 15 = .ok (.iadd, 1) := by decide +kernel
theorem dX0_isBarred_16 : decode cX0_isBarred 16 = .ok (.istore_n 3, 1) := by decide +kernel
theorem dX0_isBarred_17 : decode cX0_isBarred 17 = .ok (.aload_n 0, 1) := by decide +kernel
theorem dX0_isBarred_18 : decode cX0_isBarred 18 = .ok (.getfield 19, 3) := by decide +kernel
theorem dX0_isBarred_21 : decode cX0_isBarred 21 = .ok (.iload_n 3, 1) := by decide +kernel
theorem dX0_isBarred_22 : decode cX0_isBarred 22 = .ok (.baload, 1) := by decide +kernel
theorem dX0_isBarred_23 : decode cX0_isBarred 23 = .ok (.ifCond .ne 88, 3) := by decide +kernel
theorem dX0_isBarred_26 : decode cX0_isBarred 26 = .ok (.aload_n 0, 1) := by decide +kernel
theorem dX0_isBarred_27 : decode cX0_isBarred 27 = .ok (.getfield 9, 3) := by decide +kernel
theorem dX0_isBarred_30 : decode cX0_isBarred 30 = .ok (.iload_n 1, 1) := by decide +kernel
theorem dX0_isBarred_31 : decode cX0_isBarred 31 = .ok (.iaload, 1) := by decide +kernel
theorem dX0_isBarred_32 : decode cX0_isBarred 32 = .ok (.bipush 100, 2) := by decide +kernel
theorem dX0_isBarred_34 : decode cX0_isBarred 34 = .ok (.idiv, 1) := by decide +kernel
theorem dX0_isBarred_35 : decode cX0_isBarred 35 = .ok (.bipush 10, 2) := by decide +kernel
theorem dX0_isBarred_37 : decode cX0_isBarred 37 = .ok (.irem, 1) := by decide +kernel
theorem dX0_isBarred_38 : decode cX0_isBarred 38 = .ok (.istore 4, 2) := by decide +kernel
theorem dX0_isBarred_40 : decode cX0_isBarred 40 = .ok (.aload_n 0, 1) := by decide +kernel
theorem dX0_isBarred_41 : decode cX0_isBarred 41 = .ok (.getfield 32, 3) := by decide +kernel
theorem dX0_isBarred_44 : decode cX0_isBarred 44 = .ok (.getfield 54, 3) := by decide +kernel
theorem dX0_isBarred_47 : decode cX0_isBarred 47 = .ok (.iconst 0, 1) := by decide +kernel
theorem dX0_isBarred_48 : decode cX0_isBarred 48 = .ok (.iaload, 1) := by decide +kernel
theorem dX0_isBarred_49 : decode cX0_isBarred 49 = .ok (.iload_n 2, 1) := by decide +kernel
theorem dX0_isBarred_50 : decode cX0_isBarred 50 = .ok (.iadd, 1) := by decide +kernel
theorem dX0_isBarred_51 : decode cX0_isBarred 51 = .ok (.istore 5, 2) := by decide +kernel
theorem dX0_isBarred_53 : decode cX0_isBarred 53 = .ok (.aload_n 0, 1) := by decide +kernel
theorem dX0_isBarred_54 : decode cX0_isBarred 54 = .ok (.getfield 32, 3) := by decide +kernel
theorem dX0_isBarred_57 : decode cX0_isBarred 57 = .ok (.aload_n 0, 1) := by decide +kernel
theorem dX0_isBarred_58 : decode cX0_isBarred 58 = .ok (.getfield 9, 3) := by decide +kernel
theorem dX0_isBarred_61 : decode cX0_isBarred 61 = .ok (.iload_n 1, 1) := by decide +kernel
theorem dX0_isBarred_62 : decode cX0_isBarred 62 = .ok (.iaload, 1) := by decide +kernel
theorem dX0_isBarred_63 : decode cX0_isBarred 63 = .ok (.sipush 1000, 3) := by decide +kernel
theorem dX0_isBarred_66 : decode cX0_isBarred 66 = .ok (.idiv, 1) := by decide +kernel
theorem dX0_isBarred_67 : decode cX0_isBarred 67 = .ok (.invokevirtual 59, 3) := by decide +kernel
theorem dX0_isBarred_70 : decode cX0_isBarred 70 = .ok (.istore 6, 2) := by decide +kernel
theorem dX0_isBarred_72 : decode cX0_isBarred 72 = .ok (.aload_n 0, 1) := by decide +kernel
theorem dX0_isBarred_73 : decode cX0_isBarred 73 = .ok (.getfield 19, 3) := by decide +kernel
theorem dX0_isBarred_76 : decode cX0_isBarred 76 = .ok (.iload_n 3, 1) := by decide +kernel
theorem dX0_isBarred_77 : decode cX0_isBarred 77 = .ok (.aload_n 0, 1) := by decide +kernel
theorem dX0_isBarred_78 : decode cX0_isBarred 78 = .ok (.getfield 32, 3) := by decide +kernel
theorem dX0_isBarred_81 : decode cX0_isBarred 81 = .ok (.iload 4, 2) := by decide +kernel
theorem dX0_isBarred_83 : decode cX0_isBarred 83 = .ok (.iload 5, 2) := by decide +kernel
theorem dX0_isBarred_85 : decode cX0_isBarred 85 = .ok (.aload_n 0, 1) := by decide +kernel
theorem dX0_isBarred_86 : decode cX0_isBarred 86 = .ok (.getfield 32, 3) := by decide +kernel
theorem dX0_isBarred_89 : decode cX0_isBarred 89 = .ok (.iload 4, 2) := by decide +kernel
theorem dX0_isBarred_91 : decode cX0_isBarred 91 = .ok (.iload 5, 2) := by decide +kernel
theorem dX0_isBarred_93 : decode cX0_isBarred 93 = .ok (.invokevirtual 63, 3) := by decide +kernel
theorem dX0_isBarred_96 : decode cX0_isBarred 96 = .ok (.iload 6, 2) := by decide +kernel
theorem dX0_isBarred_98 : decode cX0_isBarred 98 = .ok (.invokevirtual 66, 3) := by decide +kernel
theorem dX0_isBarred_101 : decode cX0_isBarred 101 = .ok (.ifCond .ne 7, 3) := by decide +kernel
theorem dX0_isBarred_104 : decode cX0_isBarred 104 = .ok (.iconst 1, 1) := by decide +kernel
theorem dX0_isBarred_105 : decode cX0_isBarred 105 = .ok (.goto 4, 3) := by decide +kernel
theorem dX0_isBarred_108 : decode cX0_isBarred 108 = .ok (.iconst 2, 1) := by decide +kernel
theorem dX0_isBarred_109 : decode cX0_isBarred 109 = .ok (.i2b, 1) := by decide +kernel
theorem dX0_isBarred_110 : decode cX0_isBarred 110 = .ok (.bastore, 1) := by decide +kernel
theorem dX0_isBarred_111 : decode cX0_isBarred 111 = .ok (.aload_n 0, 1) := by decide +kernel
theorem dX0_isBarred_112 : decode cX0_isBarred 112 = .ok (.getfield 19, 3) := by decide +kernel
theorem dX0_isBarred_115 : decode cX0_isBarred 115 = .ok (.iload_n 3, 1) := by decide +kernel
theorem dX0_isBarred_116 : decode cX0_isBarred 116 = .ok (.baload, 1) := by decide +kernel
theorem dX0_isBarred_117 : decode cX0_isBarred 117 = .ok (.iconst 2, 1) := by decide +kernel
theorem dX0_isBarred_118 : decode cX0_isBarred 118 = .ok (.if_icmp .ne 7, 3) := by decide +kernel
theorem dX0_isBarred_121 : decode cX0_isBarred 121 = .ok (.iconst 1, 1) := by decide +kernel
theorem dX0_isBarred_122 : decode cX0_isBarred 122 = .ok (.goto 4, 3) := by decide +kernel
theorem dX0_isBarred_125 : decode cX0_isBarred 125 = .ok (.iconst 0, 1) := by decide +kernel
theorem dX0_isBarred_126 : decode cX0_isBarred 126 = .ok (.ireturn, 1) := by decide +kernel
theorem dX0_endOf_0 : decode cX0_endOf 0 = .ok (.aload_n 0, 1) := by decide +kernel
theorem dX0_endOf_1 : decode cX0_endOf 1 = .ok (.getfield 9, 3) := by decide +kernel
theorem dX0_endOf_4 : decode cX0_endOf 4 = .ok (.iload_n 1, 1) := by decide +kernel
theorem dX0_endOf_5 : decode cX0_endOf 5 = .ok (.iaload, 1) := by decide +kernel
theorem dX0_endOf_6 : decode cX0_endOf 6 = .ok (.bipush 100, 2) := by decide +kernel
theorem dX0_endOf_8 : decode cX0_endOf 8 = .ok (.irem, 1) := by decide +kernel
theorem dX0_endOf_9 : decode cX0_endOf 9 = .ok (.istore_n 3, 1) := by decide +kernel
theorem dX0_endOf_10 : decode cX0_endOf 10 = .ok (.aload_n 0, 1) := by decide +kernel
theorem dX0_endOf_11 : decode cX0_endOf 11 = .ok (.getfield 32, 3) := by decide +kernel
theorem dX0_endOf_14 : decode cX0_endOf 14 = .ok (.iload_n 3, 1) := by decide +kernel
theorem dX0_endOf_15 : decode cX0_endOf 15 = .ok (.invokevirtual 70, 3) := by decide +kernel
theorem dX0_endOf_18 : decode cX0_endOf 18 = .ok (.istore 4, 2) := by decide +kernel
theorem dX0_endOf_20 : decode cX0_endOf 20 = .ok (.iconst 0, 1) := by decide +kernel
theorem dX0_endOf_21 : decode cX0_endOf 21 = .ok (.istore 5, 2) := by decide +kernel
theorem dX0_endOf_23 : decode cX0_endOf 23 = .ok (.iload_n 2, 1) := by decide +kernel
theorem dX0_endOf_24 : decode cX0_endOf 24 = .ok (.istore 6, 2) := by decide +kernel
theorem dX0_endOf_26 : decode cX0_endOf 26 = .ok (.iload 6, 2) := by decide +kernel
theorem dX0_endOf_28 : decode cX0_endOf 28 = .ok (.iload_n 2, 1) := by decide +kernel
theorem dX0_endOf_29 : decode cX0_endOf 29 = .ok (.sipush 200, 3) := by decide +kernel
theorem dX0_endOf_32 : decode cX0_endOf 32 = .ok (.iadd, 1) := by decide +kernel
theorem dX0_endOf_33 : decode cX0_endOf 33 = .ok (.iload 4, 2) := by decide +kernel
theorem dX0_endOf_35 : decode cX0_endOf 35 = .ok (.iadd, 1) := by decide +kernel
theorem dX0_endOf_36 : decode cX0_endOf 36 = .ok (.if_icmp .ge 46, 3) := by decide +kernel
theorem dX0_endOf_39 : decode cX0_endOf 39 = .ok (.aload_n 0, 1) := by decide +kernel
theorem dX0_endOf_40 : decode cX0_endOf 40 = .ok (.iload_n 1, 1) := by decide +kernel
theorem dX0_endOf_41 : decode cX0_endOf 41 = .ok (.iload 6, 2) := by decide +kernel
theorem dX0_endOf_43 : decode cX0_endOf 43 = .ok (.invokevirtual 73, 3) := by decide +kernel
theorem dX0_endOf_46 : decode cX0_endOf 46 = .ok (.ifCond .eq 7, 3) := by decide +kernel
theorem dX0_endOf_49 : decode cX0_endOf 49 = .ok (.iconst 0, 1) := by decide +kernel
theorem dX0_endOf_50 : decode cX0_endOf 50 = .ok (.goto 7, 3) := by decide +kernel
theorem dX0_endOf_53 : decode cX0_endOf 53 = .ok (.iload 5, 2) := by decide +kernel
theorem dX0_endOf_55 : decode cX0_endOf 55 = .ok (.iconst 1, 1) := by decide +kernel
theorem dX0_endOf_56 : decode cX0_endOf 56 = .ok (.iadd, 1) := by decide +kernel
theorem dX0_endOf_57 : decode cX0_endOf 57 = .ok (.istore 5, 2) := by decide +kernel
theorem dX0_endOf_59 : decode cX0_endOf 59 = .ok (.iload 5, 2) := by decide +kernel
theorem dX0_endOf_61 : decode cX0_endOf 61 = .ok (.iload 4, 2) := by decide +kernel
theorem dX0_endOf_63 : decode cX0_endOf 63 = .ok (.if_icmp .ne 13, 3) := by decide +kernel
theorem dX0_endOf_66 : decode cX0_endOf 66 = .ok (.iload 6, 2) := by decide +kernel
theorem dX0_endOf_68 : decode cX0_endOf 68 = .ok (.iconst 1, 1) := by decide +kernel
theorem dX0_endOf_69 : decode cX0_endOf 69 = .ok (.iadd, 1) := by decide +kernel
theorem dX0_endOf_70 : decode cX0_endOf 70 = .ok (.iload 4, 2) := by decide +kernel
theorem dX0_endOf_72 : decode cX0_endOf 72 = .ok (.isub, 1) := by decide +kernel
theorem dX0_endOf_73 : decode cX0_endOf 73 = .ok (.iload_n 3, 1) := by decide +kernel
theorem dX0_endOf_74 : decode cX0_endOf 74 = .ok (.iadd, 1) := by decide +kernel
theorem dX0_endOf_75 : decode cX0_endOf 75 = .ok (.ireturn, 1) := by decide +kernel
theorem dX0_endOf_76 : decode cX0_endOf 76 = .ok (.iinc 6 1, 3) := by decide +kernel
theorem dX0_endOf_79 : decode cX0_endOf 79 = .ok (.goto (-53), 3) := by decide +kernel
theorem dX0_endOf_82 : decode cX0_endOf 82 = .ok (.iconst (-1), 1) := by decide +kernel
theorem dX0_endOf_83 : decode cX0_endOf 83 = .ok (.ireturn, 1) := by decide +kernel
theorem dX0_endInOrder_0 : decode cX0_endInOrder 0 = .ok (.iconst 0, 1) := by decide +kernel
theorem dX0_endInOrder_1 : decode cX0_endInOrder 1 = .ok (.istore_n 1, 1) := by decide +kernel
theorem dX0_endInOrder_2 : decode cX0_endInOrder 2 = .ok (.iconst 0, 1) := by decide +kernel
theorem dX0_endInOrder_3 : decode cX0_endInOrder 3 = .ok (.istore_n 2, 1) := by decide +kernel
theorem dX0_endInOrder_4 : decode cX0_endInOrder 4 = .ok (.iload_n 2, 1) := by decide +kernel
theorem dX0_endInOrder_5 : decode cX0_endInOrder 5 = .ok (.aload_n 0, 1) := by decide +kernel
theorem dX0_endInOrder_6 : decode cX0_endInOrder 6 = .ok (.getfield 15, 3) := by decide +kernel
theorem dX0_endInOrder_9 : decode cX0_endInOrder 9 = .ok (.if_icmp .ge 21, 3) := by decide +kernel
theorem dX0_endInOrder_12 : decode cX0_endInOrder 12 = .ok (.iload_n 1, 1) := by decide +kernel
theorem dX0_endInOrder_13 : decode cX0_endInOrder 13 = .ok (.iconst (-1), 1) := by decide +kernel
theorem dX0_endInOrder_14 : decode cX0_endInOrder 14 = .ok (.if_icmp .eq 16, 3) := by decide +kernel
theorem dX0_endInOrder_17 : decode cX0_endInOrder 17 = .ok (.aload_n 0, 1) := by decide +kernel
theorem dX0_endInOrder_18 : decode cX0_endInOrder 18 = .ok (.iload_n 2, 1) := by decide +kernel
theorem dX0_endInOrder_19 : decode cX0_endInOrder 19 = .ok (.iload_n 1, 1) := by decide +kernel
theorem dX0_endInOrder_20 : decode cX0_endInOrder 20 = .ok (.invokevirtual 77, 3) := by decide +kernel
theorem dX0_endInOrder_23 : decode cX0_endInOrder 23 = .ok (.istore_n 1, 1) := by decide +kernel
theorem dX0_endInOrder_24 : decode cX0_endInOrder 24 = .ok (.iinc 2 1, 3) := by decide +kernel
theorem dX0_endInOrder_27 : decode cX0_endInOrder 27 = .ok (.goto (-23), 3) := by decide +kernel
theorem dX0_endInOrder_30 : decode cX0_endInOrder 30 = .ok (.iload_n 1, 1) := by decide +kernel
theorem dX0_endInOrder_31 : decode cX0_endInOrder 31 = .ok (.ireturn, 1) := by decide +kernel
theorem dX0_tryOrders_0 : decode cX0_tryOrders 0 = .ok (.iload_n 1, 1) := by decide +kernel
theorem dX0_tryOrders_1 : decode cX0_tryOrders 1 = .ok (.aload_n 0, 1) := by decide +kernel
theorem dX0_tryOrders_2 : decode cX0_tryOrders 2 = .ok (.getfield 15, 3) := by decide +kernel
theorem dX0_tryOrders_5 : decode cX0_tryOrders 5 = .ok (.if_icmp .lt 39, 3) := by decide +kernel
theorem dX0_tryOrders_8 : decode cX0_tryOrders 8 = .ok (.aload_n 0, 1) := by decide +kernel
theorem dX0_tryOrders_9 : decode cX0_tryOrders 9 = .ok (.getfield 29, 3) := by decide +kernel
theorem dX0_tryOrders_12 : decode cX0_tryOrders 12 = .ok (.iconst (-1), 1) := by decide +kernel
theorem dX0_tryOrders_13 : decode cX0_tryOrders 13 = .ok (.if_icmp .eq 11, 3) := by decide +kernel
theorem dX0_tryOrders_16 : decode cX0_tryOrders 16 = .ok (.iload_n 2, 1) := by decide +kernel
theorem dX0_tryOrders_17 : decode cX0_tryOrders 17 = .ok (.aload_n 0, 1) := by decide +kernel
theorem dX0_tryOrders_18 : decode cX0_tryOrders 18 = .ok (.getfield 29, 3) := by decide +kernel
theorem dX0_tryOrders_21 : decode cX0_tryOrders 21 = .ok (.if_icmp .ge 22, 3) := by decide +kernel
theorem dX0_tryOrders_24 : decode cX0_tryOrders 24 = .ok (.aload_n 0, 1) := by decide +kernel
theorem dX0_tryOrders_25 : decode cX0_tryOrders 25 = .ok (.iload_n 2, 1) := by decide +kernel
theorem dX0_tryOrders_26 : decode cX0_tryOrders 26 = .ok (.putfield 29, 3) := by decide +kernel
theorem dX0_tryOrders_29 : decode cX0_tryOrders 29 = .ok (.aload_n 0, 1) := by decide +kernel
theorem dX0_tryOrders_30 : decode cX0_tryOrders 30 = .ok (.getfield 23, 3) := by decide +kernel
theorem dX0_tryOrders_33 : decode cX0_tryOrders 33 = .ok (.iconst 0, 1) := by decide +kernel
theorem dX0_tryOrders_34 : decode cX0_tryOrders 34 = .ok (.aload_n 0, 1) := by decide +kernel
theorem dX0_tryOrders_35 : decode cX0_tryOrders 35 = .ok (.getfield 26, 3) := by decide +kernel
theorem dX0_tryOrders_38 : decode cX0_tryOrders 38 = .ok (.iconst 0, 1) := by decide +kernel
theorem dX0_tryOrders_39 : decode cX0_tryOrders 39 = .ok (.iconst 4, 1) := by decide +kernel
theorem dX0_tryOrders_40 : decode cX0_tryOrders 40 = .ok (.invokestatic 80, 3) := by decide +kernel
theorem dX0_tryOrders_43 : decode cX0_tryOrders 43 = .ok (.return_, 1) := by decide +kernel
theorem dX0_tryOrders_44 : decode cX0_tryOrders 44 = .ok (.iconst 0, 1) := by decide +kernel
theorem dX0_tryOrders_45 : decode cX0_tryOrders 45 = .ok (.istore 4, 2) := by decide +kernel
theorem dX0_tryOrders_47 : decode cX0_tryOrders 47 = .ok (.iload 4, 2) := by decide +kernel
theorem dX0_tryOrders_49 : decode cX0_tryOrders 49 = .ok (.aload_n 0, 1) := by decide +kernel
theorem dX0_tryOrders_50 : decode cX0_tryOrders 50 = .ok (.getfield 15, 3) := by decide +kernel
theorem dX0_tryOrders_53 : decode cX0_tryOrders 53 = .ok (.if_icmp .ge 60, 3) := by decide +kernel
theorem dX0_tryOrders_56 : decode cX0_tryOrders 56 = .ok (.iload_n 3, 1) := by decide +kernel
theorem dX0_tryOrders_57 : decode cX0_tryOrders 57 = .ok (.iload 4, 2) := by decide +kernel
theorem dX0_tryOrders_59 : decode cX0_tryOrders 59 = .ok (.ishr, 1) := by decide +kernel
theorem dX0_tryOrders_60 : decode cX0_tryOrders 60 = .ok (.iconst 1, 1) := by decide +kernel
theorem dX0_tryOrders_61 : decode cX0_tryOrders 61 = .ok (.iand, 1) := by decide +kernel
theorem dX0_tryOrders_62 : decode cX0_tryOrders 62 = .ok (.ifCond .eq 7, 3) := by decide +kernel
theorem dX0_tryOrders_65 : decode cX0_tryOrders 65 = .ok (.iconst (-1), 1) := by decide +kernel
theorem dX0_tryOrders_66 : decode cX0_tryOrders 66 = .ok (.goto 10, 3) := by decide +kernel
theorem dX0_tryOrders_69 : decode cX0_tryOrders 69 = .ok (.aload_n 0, 1) := by decide +kernel
theorem dX0_tryOrders_70 : decode cX0_tryOrders 70 = .ok (.iload 4, 2) := by decide +kernel
theorem dX0_tryOrders_72 : decode cX0_tryOrders 72 = .ok (.iload_n 2, 1) := by decide +kernel
theorem dX0_tryOrders_73 : decode cX0_tryOrders 73 = .ok (.invokevirtual 77, 3) := by decide +kernel
theorem dX0_tryOrders_76 : decode cX0_tryOrders 76 = .ok (.istore 5, 2) := by decide +kernel
theorem dX0_tryOrders_78 : decode cX0_tryOrders 78 = .ok (.iload 5, 2) := by decide +kernel
theorem dX0_tryOrders_80 : decode cX0_tryOrders 80 = .ok (.iconst (-1), 1) := by decide +kernel
theorem dX0_tryOrders_81 : decode cX0_tryOrders 81 = .ok (.if_icmp .eq 26, 3) := by decide +kernel
theorem dX0_tryOrders_84 : decode cX0_tryOrders 84 = .ok (.aload_n 0, 1) := by decide +kernel
theorem dX0_tryOrders_85 : decode cX0_tryOrders 85 = .ok (.getfield 23, 3) := by decide +kernel
theorem dX0_tryOrders_88 : decode cX0_tryOrders 88 = .ok (.iload_n 1, 1) := by decide +kernel
theorem dX0_tryOrders_89 : decode cX0_tryOrders 89 = .ok (.iload 4, 2) := by decide +kernel
theorem dX0_tryOrders_91 : decode cX0_tryOrders 91 = .ok (.iastore, 1) := by decide +kernel
theorem dX0_tryOrders_92 : decode cX0_tryOrders 92 = .ok (.aload_n 0, 1) := by decide +kernel
theorem dX0_tryOrders_93 : decode cX0_tryOrders 93 = .ok (.iload_n 1, 1) := by decide +kernel
theorem dX0_tryOrders_94 : decode cX0_tryOrders 94 = .ok (.iconst 1, 1) := by decide +kernel
theorem dX0_tryOrders_95 : decode cX0_tryOrders 95 = .ok (.iadd, 1) := by decide +kernel
theorem dX0_tryOrders_96 : decode cX0_tryOrders 96 = .ok (.iload 5, 2) := by decide +kernel
theorem dX0_tryOrders_98 : decode cX0_tryOrders 98 = .ok (.iload_n 3, 1) := by decide +kernel
theorem dX0_tryOrders_99 : decode cX0_tryOrders 99 = .ok (.iconst 1, 1) := by decide +kernel
theorem dX0_tryOrders_100 : decode cX0_tryOrders 100 = .ok (.iload 4, 2) := by decide +kernel
theorem dX0_tryOrders_102 : decode cX0_tryOrders 102 = .ok (.ishl, 1) := by decide +kernel
theorem dX0_tryOrders_103 : decode cX0_tryOrders 103 = .ok (.ior, 1) := by decide +kernel
theorem dX0_tryOrders_104 : decode cX0_tryOrders 104 = .ok (.invokevirtual 86, 3) := by decide +kernel
theorem dX0_tryOrders_107 : decode cX0_tryOrders 107 = .ok (.iinc 4 1, 3) := by decide +kernel
theorem dX0_tryOrders_110 : decode cX0_tryOrders 110 = .ok (.goto (-63), 3) := by decide +kernel
theorem dX0_tryOrders_113 : decode cX0_tryOrders 113 = .ok (.return_, 1) := by decide +kernel
theorem dX0_placeInBest_0 : decode cX0_placeInBest 0 = .ok (.aload_n 0, 1) := by decide +kernel
theorem dX0_placeInBest_1 : decode cX0_placeInBest 1 = .ok (.getfield 29, 3) := by decide +kernel
theorem dX0_placeInBest_4 : decode cX0_placeInBest 4 = .ok (.iconst (-1), 1) := by decide +kernel
theorem dX0_placeInBest_5 : decode cX0_placeInBest 5 = .ok (.if_icmp .eq 15, 3) := by decide +kernel
theorem dX0_placeInBest_8 : decode cX0_placeInBest 8 = .ok (.iload_n 1, 1) := by decide +kernel
theorem dX0_placeInBest_9 : decode cX0_placeInBest 9 = .ok (.ifCond .lt 11, 3) := by decide +kernel
theorem dX0_placeInBest_12 : decode cX0_placeInBest 12 = .ok (.iload_n 1, 1) := by decide +kernel
theorem dX0_placeInBest_13 : decode cX0_placeInBest 13 = .ok (.aload_n 0, 1) := by decide +kernel
theorem dX0_placeInBest_14 : decode cX0_placeInBest 14 = .ok (.getfield 15, 3) := by decide +kernel
theorem dX0_placeInBest_17 : decode cX0_placeInBest 17 = .ok (.if_icmp .lt 7, 3) := by decide +kernel
theorem dX0_placeInBest_20 : decode cX0_placeInBest 20 = .ok (.iconst (-1), 1) := by decide +kernel
theorem dX0_placeInBest_21 : decode cX0_placeInBest 21 = .ok (.goto 9, 3) := by decide +kernel
theorem dX0_placeInBest_24 : decode cX0_placeInBest 24 = .ok (.aload_n 0, 1) := by decide +kernel
theorem dX0_placeInBest_25 : decode cX0_placeInBest 25 = .ok (.getfield 26, 3) := by decide +kernel
theorem dX0_placeInBest_28 : decode cX0_placeInBest 28 = .ok (.iload_n 1, 1) := by decide +kernel
theorem dX0_placeInBest_29 : decode cX0_placeInBest 29 = .ok (.iaload, 1) := by decide +kernel
theorem dX0_placeInBest_30 : decode cX0_placeInBest 30 = .ok (.ireturn, 1) := by decide +kernel
theorem dX1_init_0 : decode cX1_init 0 = .ok (.aload_n 0, 1) := by decide +kernel
theorem dX1_init_1 : decode cX1_init 1 = .ok (.invokespecial 3, 3) := by decide +kernel
theorem dX1_init_4 : decode cX1_init 4 = .ok (.aload_n 0, 1) := by decide +kernel
theorem dX1_init_5 : decode cX1_init 5 = .ok (.bipush 49, 2) := by decide +kernel
theorem dX1_init_7 : decode cX1_init 7 = .ok (.newarray .int, 2) := by decide +kernel
theorem dX1_init_9 : decode cX1_init 9 = .ok (.putfield 9, 3) := by decide +kernel
theorem dX1_init_12 : decode cX1_init 12 = .ok (.aload_n 0, 1) := by decide +kernel
theorem dX1_init_13 : decode cX1_init 13 = .ok (.new 15, 3) := by decide +kernel
theorem dX1_init_16 : decode cX1_init 16 = .ok (.dup, 1) := by decide +kernel
theorem dX1_init_17 : decode cX1_init 17 = .ok (.invokespecial 17, 3) := by decide +kernel
theorem dX1_init_20 : decode cX1_init 20 = .ok (.putfield 18, 3) := by decide +kernel
theorem dX1_init_23 : decode cX1_init 23 = .ok (.aload_n 0, 1) := by decide +kernel
theorem dX1_init_24 : decode cX1_init 24 = .ok (.aload_n 1, 1) := by decide +kernel
theorem dX1_init_25 : decode cX1_init 25 = .ok (.putfield 22, 3) := by decide +kernel
theorem dX1_init_28 : decode cX1_init 28 = .ok (.return_, 1) := by decide +kernel
theorem dX2_init_0 : decode cX2_init 0 = .ok (.aload_n 0, 1) := by decide +kernel
theorem dX2_init_1 : decode cX2_init 1 = .ok (.invokespecial 3, 3) := by decide +kernel
theorem dX2_init_4 : decode cX2_init 4 = .ok (.aload_n 0, 1) := by decide +kernel
theorem dX2_init_5 : decode cX2_init 5 = .ok (.iconst 0, 1) := by decide +kernel
theorem dX2_init_6 : decode cX2_init 6 = .ok (.putfield 9, 3) := by decide +kernel
theorem dX2_init_9 : decode cX2_init 9 = .ok (.aload_n 0, 1) := by decide +kernel
theorem dX2_init_10 : decode cX2_init 10 = .ok (.iconst 0, 1) := by decide +kernel
theorem dX2_init_11 : decode cX2_init 11 = .ok (.putfield 15, 3) := by decide +kernel
theorem dX2_init_14 : decode cX2_init 14 = .ok (.aload_n 0, 1) := by decide +kernel
theorem dX2_init_15 : decode cX2_init 15 = .ok (.iconst 0, 1) := by decide +kernel
theorem dX2_init_16 : decode cX2_init 16 = .ok (.putfield 18, 3) := by decide +kernel
theorem dX2_init_19 : decode cX2_init 19 = .ok (.aload_n 0, 1) := by decide +kernel
theorem dX2_init_20 : decode cX2_init 20 = .ok (.iconst 0, 1) := by decide +kernel
theorem dX2_init_21 : decode cX2_init 21 = .ok (.putfield 21, 3) := by decide +kernel
theorem dX2_init_24 : decode cX2_init 24 = .ok (.aload_n 0, 1) := by decide +kernel
theorem dX2_init_25 : decode cX2_init 25 = .ok (.iconst 0, 1) := by decide +kernel
theorem dX2_init_26 : decode cX2_init 26 = .ok (.putfield 24, 3) := by decide +kernel
theorem dX2_init_29 : decode cX2_init 29 = .ok (.aload_n 0, 1) := by decide +kernel
theorem dX2_init_30 : decode cX2_init 30 = .ok (.iconst 5, 1) := by decide +kernel
theorem dX2_init_31 : decode cX2_init 31 = .ok (.newarray .int, 2) := by decide +kernel
theorem dX2_init_33 : decode cX2_init 33 = .ok (.putfield 28, 3) := by decide +kernel
theorem dX2_init_36 : decode cX2_init 36 = .ok (.aload_n 0, 1) := by decide +kernel
theorem dX2_init_37 : decode cX2_init 37 = .ok (.iconst 5, 1) := by decide +kernel
theorem dX2_init_38 : decode cX2_init 38 = .ok (.newarray .int, 2) := by decide +kernel
theorem dX2_init_40 : decode cX2_init 40 = .ok (.putfield 32, 3) := by decide +kernel
theorem dX2_init_43 : decode cX2_init 43 = .ok (.aload_n 0, 1) := by decide +kernel
theorem dX2_init_44 : decode cX2_init 44 = .ok (.bipush 8, 2) := by decide +kernel
theorem dX2_init_46 : decode cX2_init 46 = .ok (.newarray .int, 2) := by decide +kernel
theorem dX2_init_48 : decode cX2_init 48 = .ok (.putfield 35, 3) := by decide +kernel
theorem dX2_init_51 : decode cX2_init 51 = .ok (.aload_n 0, 1) := by decide +kernel
theorem dX2_init_52 : decode cX2_init 52 = .ok (.bipush 8, 2) := by decide +kernel
theorem dX2_init_54 : decode cX2_init 54 = .ok (.newarray .int, 2) := by decide +kernel
theorem dX2_init_56 : decode cX2_init 56 = .ok (.putfield 38, 3) := by decide +kernel
theorem dX2_init_59 : decode cX2_init 59 = .ok (.aload_n 0, 1) := by decide +kernel
theorem dX2_init_60 : decode cX2_init 60 = .ok (.bipush 8, 2) := by decide +kernel
theorem dX2_init_62 : decode cX2_init 62 = .ok (.newarray .int, 2) := by decide +kernel
theorem dX2_init_64 : decode cX2_init 64 = .ok (.putfield 41, 3) := by decide +kernel
theorem dX2_init_67 : decode cX2_init 67 = .ok (.aload_n 0, 1) := by decide +kernel
theorem dX2_init_68 : decode cX2_init 68 = .ok (.bipush 8, 2) := by decide +kernel
theorem dX2_init_70 : decode cX2_init 70 = .ok (.newarray .int, 2) := by decide +kernel
theorem dX2_init_72 : decode cX2_init 72 = .ok (.putfield 44, 3) := by decide +kernel
theorem dX2_init_75 : decode cX2_init 75 = .ok (.aload_n 0, 1) := by decide +kernel
theorem dX2_init_76 : decode cX2_init 76 = .ok (.bipush 10, 2) := by decide +kernel
theorem dX2_init_78 : decode cX2_init 78 = .ok (.newarray .int, 2) := by decide +kernel
theorem dX2_init_80 : decode cX2_init 80 = .ok (.putfield 47, 3) := by decide +kernel
theorem dX2_init_83 : decode cX2_init 83 = .ok (.aload_n 0, 1) := by decide +kernel
theorem dX2_init_84 : decode cX2_init 84 = .ok (.iconst 0, 1) := by decide +kernel
theorem dX2_init_85 : decode cX2_init 85 = .ok (.newarray .int, 2) := by decide +kernel
theorem dX2_init_87 : decode cX2_init 87 = .ok (.putfield 50, 3) := by decide +kernel
theorem dX2_init_90 : decode cX2_init 90 = .ok (.aload_n 0, 1) := by decide +kernel
theorem dX2_init_91 : decode cX2_init 91 = .ok (.iconst 0, 1) := by decide +kernel
theorem dX2_init_92 : decode cX2_init 92 = .ok (.newarray .int, 2) := by decide +kernel
theorem dX2_init_94 : decode cX2_init 94 = .ok (.putfield 53, 3) := by decide +kernel
theorem dX2_init_97 : decode cX2_init 97 = .ok (.return_, 1) := by decide +kernel
theorem dX2_kindsOf_0 : decode cX2_kindsOf 0 = .ok (.iconst 0, 1) := by decide +kernel
theorem dX2_kindsOf_1 : decode cX2_kindsOf 1 = .ok (.istore_n 2, 1) := by decide +kernel
theorem dX2_kindsOf_2 : decode cX2_kindsOf 2 = .ok (.iconst 0, 1) := by decide +kernel
theorem dX2_kindsOf_3 : decode cX2_kindsOf 3 = .ok (.istore_n 3, 1) := by decide +kernel
theorem dX2_kindsOf_4 : decode cX2_kindsOf 4 = .ok (.iload_n 3, 1) := by decide +kernel
theorem dX2_kindsOf_5 : decode cX2_kindsOf 5 = .ok (.aload_n 0, 1) := by decide +kernel
theorem dX2_kindsOf_6 : decode cX2_kindsOf 6 = .ok (.getfield 18, 3) := by decide +kernel
theorem dX2_kindsOf_9 : decode cX2_kindsOf 9 = .ok (.if_icmp .ge 28, 3) := by decide +kernel
theorem dX2_kindsOf_12 : decode cX2_kindsOf 12 = .ok (.iload_n 1, 1) := by decide +kernel
theorem dX2_kindsOf_13 : decode cX2_kindsOf 13 = .ok (.iload_n 3, 1) := by decide +kernel
theorem dX2_kindsOf_14 : decode cX2_kindsOf 14 = .ok (.ishr, 1) := by decide +kernel
theorem dX2_kindsOf_15 : decode cX2_kindsOf 15 = .ok (.iconst 1, 1) := by decide +kernel
theorem dX2_kindsOf_16 : decode cX2_kindsOf 16 = .ok (.iand, 1) := by decide +kernel
theorem dX2_kindsOf_17 : decode cX2_kindsOf 17 = .ok (.ifCond .eq 14, 3) := by decide +kernel
theorem dX2_kindsOf_20 : decode cX2_kindsOf 20 = .ok (.iload_n 2, 1) := by decide +kernel
theorem dX2_kindsOf_21 : decode cX2_kindsOf 21 = .ok (.iconst 1, 1) := by decide +kernel
theorem dX2_kindsOf_22 : decode cX2_kindsOf 22 = .ok (.aload_n 0, 1) := by decide +kernel
theorem dX2_kindsOf_23 : decode cX2_kindsOf 23 = .ok (.getfield 35, 3) := by decide +kernel
theorem dX2_kindsOf_26 : decode cX2_kindsOf 26 = .ok (.iload_n 3, 1) := by decide +kernel
theorem dX2_kindsOf_27 : decode cX2_kindsOf 27 = .ok (.iaload, 1) := by decide +kernel
theorem dX2_kindsOf_28 : decode cX2_kindsOf 28 = .ok (.ishl, 1) := by decide +kernel
theorem dX2_kindsOf_29 : decode cX2_kindsOf 29 = .ok (.ior, 1) := by decide +kernel
theorem dX2_kindsOf_30 : decode cX2_kindsOf 30 = .ok (.istore_n 2, 1) := by decide +kernel
theorem dX2_kindsOf_31 : decode cX2_kindsOf 31 = .ok (.iinc 3 1, 3) := by decide +kernel
theorem dX2_kindsOf_34 : decode cX2_kindsOf 34 = .ok (.goto (-30), 3) := by decide +kernel
theorem dX2_kindsOf_37 : decode cX2_kindsOf 37 = .ok (.iload_n 2, 1) := by decide +kernel
theorem dX2_kindsOf_38 : decode cX2_kindsOf 38 = .ok (.ireturn, 1) := by decide +kernel
theorem dX2_finesOf_0 : decode cX2_finesOf 0 = .ok (.iconst 0, 1) := by decide +kernel
theorem dX2_finesOf_1 : decode cX2_finesOf 1 = .ok (.istore_n 2, 1) := by decide +kernel
theorem dX2_finesOf_2 : decode cX2_finesOf 2 = .ok (.iconst 0, 1) := by decide +kernel
theorem dX2_finesOf_3 : decode cX2_finesOf 3 = .ok (.istore_n 3, 1) := by decide +kernel
theorem dX2_finesOf_4 : decode cX2_finesOf 4 = .ok (.iload_n 3, 1) := by decide +kernel
theorem dX2_finesOf_5 : decode cX2_finesOf 5 = .ok (.aload_n 0, 1) := by decide +kernel
theorem dX2_finesOf_6 : decode cX2_finesOf 6 = .ok (.getfield 18, 3) := by decide +kernel
theorem dX2_finesOf_9 : decode cX2_finesOf 9 = .ok (.if_icmp .ge 26, 3) := by decide +kernel
theorem dX2_finesOf_12 : decode cX2_finesOf 12 = .ok (.iload_n 1, 1) := by decide +kernel
theorem dX2_finesOf_13 : decode cX2_finesOf 13 = .ok (.iload_n 3, 1) := by decide +kernel
theorem dX2_finesOf_14 : decode cX2_finesOf 14 = .ok (.ishr, 1) := by decide +kernel
theorem dX2_finesOf_15 : decode cX2_finesOf 15 = .ok (.iconst 1, 1) := by decide +kernel
theorem dX2_finesOf_16 : decode cX2_finesOf 16 = .ok (.iand, 1) := by decide +kernel
theorem dX2_finesOf_17 : decode cX2_finesOf 17 = .ok (.ifCond .eq 12, 3) := by decide +kernel
theorem dX2_finesOf_20 : decode cX2_finesOf 20 = .ok (.iload_n 2, 1) := by decide +kernel
theorem dX2_finesOf_21 : decode cX2_finesOf 21 = .ok (.aload_n 0, 1) := by decide +kernel
theorem dX2_finesOf_22 : decode cX2_finesOf 22 = .ok (.getfield 38, 3) := by decide +kernel
theorem dX2_finesOf_25 : decode cX2_finesOf 25 = .ok (.iload_n 3, 1) := by decide +kernel
theorem dX2_finesOf_26 : decode cX2_finesOf 26 = .ok (.iaload, 1) := by decide +kernel
theorem dX2_finesOf_27 : decode cX2_finesOf 27 = .ok (.iadd, 1) := by decide +kernel
theorem dX2_finesOf_28 : decode cX2_finesOf 28 = .ok (.istore_n 2, 1) := by decide +kernel
theorem dX2_finesOf_29 : decode cX2_finesOf 29 = .ok (.iinc 3 1, 3) := by decide +kernel
theorem dX2_finesOf_32 : decode cX2_finesOf 32 = .ok (.goto (-28), 3) := by decide +kernel
theorem dX2_finesOf_35 : decode cX2_finesOf 35 = .ok (.iload_n 2, 1) := by decide +kernel
theorem dX2_finesOf_36 : decode cX2_finesOf 36 = .ok (.ireturn, 1) := by decide +kernel
theorem dX3_init_0 : decode cX3_init 0 = .ok (.aload_n 0, 1) := by decide +kernel
theorem dX3_init_1 : decode cX3_init 1 = .ok (.invokespecial 1, 3) := by decide +kernel
theorem dX3_init_4 : decode cX3_init 4 = .ok (.aload_n 0, 1) := by decide +kernel
theorem dX3_init_5 : decode cX3_init 5 = .ok (.bipush 21, 2) := by decide +kernel
theorem dX3_init_7 : decode cX3_init 7 = .ok (.newarray .int, 2) := by decide +kernel
theorem dX3_init_9 : decode cX3_init 9 = .ok (.putfield 7, 3) := by decide +kernel
theorem dX3_init_12 : decode cX3_init 12 = .ok (.aload_n 0, 1) := by decide +kernel
theorem dX3_init_13 : decode cX3_init 13 = .ok (.bipush 64, 2) := by decide +kernel
theorem dX3_init_15 : decode cX3_init 15 = .ok (.newarray .int, 2) := by decide +kernel
theorem dX3_init_17 : decode cX3_init 17 = .ok (.putfield 13, 3) := by decide +kernel
theorem dX3_init_20 : decode cX3_init 20 = .ok (.return_, 1) := by decide +kernel
theorem dX3_valueOf_0 : decode cX3_valueOf 0 = .ok (.iconst 0, 1) := by decide +kernel
theorem dX3_valueOf_1 : decode cX3_valueOf 1 = .ok (.istore_n 2, 1) := by decide +kernel
theorem dX3_valueOf_2 : decode cX3_valueOf 2 = .ok (.iconst 0, 1) := by decide +kernel
theorem dX3_valueOf_3 : decode cX3_valueOf 3 = .ok (.istore_n 3, 1) := by decide +kernel
theorem dX3_valueOf_4 : decode cX3_valueOf 4 = .ok (.iload_n 3, 1) := by decide +kernel
theorem dX3_valueOf_5 : decode cX3_valueOf 5 = .ok (.aload_n 1, 1) := by decide +kernel
theorem dX3_valueOf_6 : decode cX3_valueOf 6 = .ok (.arraylength, 1) := by decide +kernel
theorem dX3_valueOf_7 : decode cX3_valueOf 7 = .ok (.if_icmp .ge 334, 3) := by decide +kernel
theorem dX3_valueOf_10 : decode cX3_valueOf 10 = .ok (.aload_n 1, 1) := by decide +kernel
theorem dX3_valueOf_11 : decode cX3_valueOf 11 = .ok (.iload_n 3, 1) := by decide +kernel
theorem dX3_valueOf_12 : decode cX3_valueOf 12 = .ok (.iaload, 1) := by decide +kernel
theorem dX3_valueOf_13 : decode cX3_valueOf 13 = .ok (.istore 4, 2) := by decide +kernel
theorem dX3_valueOf_15 : decode cX3_valueOf 15 = .ok (.iload 4, 2) := by decide +kernel
theorem dX3_valueOf_17 : decode cX3_valueOf 17 = .ok (.ifCond .lt 64, 3) := by decide +kernel
theorem dX3_valueOf_20 : decode cX3_valueOf 20 = .ok (.iload_n 2, 1) := by decide +kernel
theorem dX3_valueOf_21 : decode cX3_valueOf 21 = .ok (.aload_n 0, 1) := by decide +kernel
theorem dX3_valueOf_22 : decode cX3_valueOf 22 = .ok (.getfield 13, 3) := by decide +kernel
theorem dX3_valueOf_25 : decode cX3_valueOf 25 = .ok (.arraylength, 1) := by decide +kernel
theorem dX3_valueOf_26 : decode cX3_valueOf 26 = .ok (.if_icmp .ge 17, 3) := by decide +kernel
theorem dX3_valueOf_29 : decode cX3_valueOf 29 = .ok (.iload 4, 2) := by decide +kernel
theorem dX3_valueOf_31 : decode cX3_valueOf 31 = .ok (.sipush 1000, 3) := by decide +kernel
theorem dX3_valueOf_34 : decode cX3_valueOf 34 = .ok (.isub, 1) := by decide +kernel
theorem dX3_valueOf_35 : decode cX3_valueOf 35 = .ok (.aload_n 0, 1) := by decide +kernel
theorem dX3_valueOf_36 : decode cX3_valueOf 36 = .ok (.getfield 7, 3) := by decide +kernel
theorem dX3_valueOf_39 : decode cX3_valueOf 39 = .ok (.arraylength, 1) := by decide +kernel
theorem dX3_valueOf_40 : decode cX3_valueOf 40 = .ok (.if_icmp .lt 5, 3) := by decide +kernel
theorem dX3_valueOf_43 : decode cX3_valueOf 43 = .ok (.iconst 0, 1) := by decide +kernel
theorem dX3_valueOf_44 : decode cX3_valueOf 44 = .ok (.ireturn, 1) := by decide +kernel
theorem dX3_valueOf_45 : decode cX3_valueOf 45 = .ok (.aload_n 0, 1) := by decide +kernel
theorem dX3_valueOf_46 : decode cX3_valueOf 46 = .ok (.getfield 13, 3) := by decide +kernel
theorem dX3_valueOf_49 : decode cX3_valueOf 49 = .ok (.iload_n 2, 1) := by decide +kernel
theorem dX3_valueOf_50 : decode cX3_valueOf 50 = .ok (.iload 4, 2) := by decide +kernel
theorem dX3_valueOf_52 : decode cX3_valueOf 52 = .ok (.sipush 1000, 3) := by decide +kernel
theorem dX3_valueOf_55 : decode cX3_valueOf 55 = .ok (.if_icmp .ge 8, 3) := by decide +kernel
theorem dX3_valueOf_58 : decode cX3_valueOf 58 = .ok (.iload 4, 2) := by decide +kernel
theorem dX3_valueOf_60 : decode cX3_valueOf 60 = .ok (.goto 14, 3) := by decide +kernel
theorem dX3_valueOf_63 : decode cX3_valueOf 63 = .ok (.aload_n 0, 1) := by decide +kernel
theorem dX3_valueOf_64 : decode cX3_valueOf 64 = .ok (.getfield 7, 3) := by decide +kernel
theorem dX3_valueOf_67 : decode cX3_valueOf 67 = .ok (.iload 4, 2) := by decide +kernel
theorem dX3_valueOf_69 : decode cX3_valueOf 69 = .ok (.sipush 1000, 3) := by decide +kernel
theorem dX3_valueOf_72 : decode cX3_valueOf 72 = .ok (.isub, 1) := by decide +kernel
theorem dX3_valueOf_73 : decode cX3_valueOf 73 = .ok (.iaload, 1) := by decide +kernel
theorem dX3_valueOf_74 : decode cX3_valueOf 74 = .ok (.iastore, 1) := by decide +kernel
theorem dX3_valueOf_75 : decode cX3_valueOf 75 = .ok (.iinc 2 1, 3) := by decide +kernel
theorem dX3_valueOf_78 : decode cX3_valueOf 78 = .ok (.goto 257, 3) := by decide +kernel
theorem dX3_valueOf_81 : decode cX3_valueOf 81 = .ok (.iload_n 2, 1) := by decide +kernel
theorem dX3_valueOf_82 : decode cX3_valueOf 82 = .ok (.iload 4, 2) := by decide +kernel
theorem dX3_valueOf_84 : decode cX3_valueOf 84 = .ok (.bipush (-9), 2) := by decide +kernel
theorem dX3_valueOf_86 : decode cX3_valueOf 86 = .ok (.if_icmp .ne 7, 3) := by decide +kernel
theorem dX3_valueOf_89 : decode cX3_valueOf 89 = .ok (.iconst 0, 1) := by decide +kernel
theorem dX3_valueOf_90 : decode cX3_valueOf 90 = .ok (.goto 4, 3) := by decide +kernel
theorem dX3_valueOf_93 : decode cX3_valueOf 93 = .ok (.iconst 1, 1) := by decide +kernel
theorem dX3_valueOf_94 : decode cX3_valueOf 94 = .ok (.isub, 1) := by decide +kernel
theorem dX3_valueOf_95 : decode cX3_valueOf 95 = .ok (.istore_n 2, 1) := by decide +kernel
theorem dX3_valueOf_96 : decode cX3_valueOf 96 = .ok (.iload_n 2, 1) := by decide +kernel
theorem dX3_valueOf_97 : decode cX3_valueOf 97 = .ok (.iconst 1, 1) := by decide +kernel
theorem dX3_valueOf_98 : decode cX3_valueOf 98 = .ok (.if_icmp .ge 5, 3) := by decide +kernel
theorem dX3_valueOf_101 : decode cX3_valueOf 101 = .ok (.iconst 0, 1) := by decide +kernel
theorem dX3_valueOf_102 : decode cX3_valueOf 102 = .ok (.ireturn, 1) := by decide +kernel
theorem dX3_valueOf_103 : decode cX3_valueOf 103 = .ok (.aload_n 0, 1) := by decide +kernel
theorem dX3_valueOf_104 : decode cX3_valueOf 104 = .ok (.getfield 13, 3) := by decide +kernel
theorem dX3_valueOf_107 : decode cX3_valueOf 107 = .ok (.iload_n 2, 1) := by decide +kernel
theorem dX3_valueOf_108 : decode cX3_valueOf 108 = .ok (.iconst 1, 1) := by decide +kernel
theorem dX3_valueOf_109 : decode cX3_valueOf 109 = .ok (.isub, 1) := by decide +kernel
theorem dX3_valueOf_110 : decode cX3_valueOf 110 = .ok (.iaload, 1) := by decide +kernel
theorem dX3_valueOf_111 : decode cX3_valueOf 111 = .ok (.i2l, 1) := by decide +kernel
theorem dX3_valueOf_112 : decode cX3_valueOf 112 = .ok (.lstore 5, 2) := by decide +kernel
theorem dX3_valueOf_114 : decode cX3_valueOf 114 = .ok (.iload 4, 2) := by decide +kernel
theorem dX3_valueOf_116 : decode cX3_valueOf 116 = .ok (.bipush (-9), 2) := by decide +kernel
theorem dX3_valueOf_118 : decode cX3_valueOf 118 = .ok (.if_icmp .ne 7, 3) := by decide +kernel
theorem dX3_valueOf_121 : decode cX3_valueOf 121 = .ok (.lconst 0, 1) := by decide +kernel
theorem dX3_valueOf_122 : decode cX3_valueOf 122 = .ok (.goto 10, 3) := by decide +kernel
theorem dX3_valueOf_125 : decode cX3_valueOf 125 = .ok (.aload_n 0, 1) := by decide +kernel
theorem dX3_valueOf_126 : decode cX3_valueOf 126 = .ok (.getfield 13, 3) := by decide +kernel
theorem dX3_valueOf_129 : decode cX3_valueOf 129 = .ok (.iload_n 2, 1) := by decide +kernel
theorem dX3_valueOf_130 : decode cX3_valueOf 130 = .ok (.iaload, 1) := by decide +kernel
theorem dX3_valueOf_131 : decode cX3_valueOf 131 = .ok (.i2l, 1) := by decide +kernel
theorem dX3_valueOf_132 : decode cX3_valueOf 132 = .ok (.lstore 7, 2) := by decide +kernel
theorem dX3_valueOf_134 : decode cX3_valueOf 134 = .ok (.iload 4, 2) := by decide +kernel
theorem dX3_valueOf_136 : decode cX3_valueOf 136 = .ok (.tableswitch 152 (-8) (-1) #[142, 132, 114, 96, 78, 68, 58, 48], 48) := by decide +kernel
theorem dX3_valueOf_184 : decode cX3_valueOf 184 = .ok (.lload 5, 2) := by decide +kernel
theorem dX3_valueOf_186 : decode cX3_valueOf 186 = .ok (.lload 7, 2) := by decide +kernel
theorem dX3_valueOf_188 : decode cX3_valueOf 188 = .ok (.ladd, 1) := by decide +kernel
theorem dX3_valueOf_189 : decode cX3_valueOf 189 = .ok (.lstore 9, 2) := by decide +kernel
theorem dX3_valueOf_191 : decode cX3_valueOf 191 = .ok (.goto 103, 3) := by decide +kernel
theorem dX3_valueOf_194 : decode cX3_valueOf 194 = .ok (.lload 5, 2) := by decide +kernel
theorem dX3_valueOf_196 : decode cX3_valueOf 196 = .ok (.lload 7, 2) := by decide +kernel
theorem dX3_valueOf_198 : decode cX3_valueOf 198 = .ok (.lsub, 1) := by decide +kernel
theorem dX3_valueOf_199 : decode cX3_valueOf 199 = .ok (.lstore 9, 2) := by decide +kernel
theorem dX3_valueOf_201 : decode cX3_valueOf 201 = .ok (.goto 93, 3) := by decide +kernel
theorem dX3_valueOf_204 : decode cX3_valueOf 204 = .ok (.lload 5, 2) := by decide +kernel
theorem dX3_valueOf_206 : decode cX3_valueOf 206 = .ok (.lload 7, 2) := by decide +kernel
theorem dX3_valueOf_208 : decode cX3_valueOf 208 = .ok (.lmul, 1) := by decide +kernel
theorem dX3_valueOf_209 : decode cX3_valueOf 209 = .ok (.lstore 9, 2) := by decide +kernel
theorem dX3_valueOf_211 : decode cX3_valueOf 211 = .ok (.goto 83, 3) := by decide +kernel
theorem dX3_valueOf_214 : decode cX3_valueOf 214 = .ok (.lload 5, 2) := by decide +kernel
theorem dX3_valueOf_216 : decode cX3_valueOf 216 = .ok (.lload 7, 2) := by decide +kernel
theorem dX3_valueOf_218 : decode cX3_valueOf 218 = .ok (.lcmp, 1) := by decide +kernel
theorem dX3_valueOf_219 : decode cX3_valueOf 219 = .ok (.ifCond .ne 7, 3) := by decide +kernel
theorem dX3_valueOf_222 : decode cX3_valueOf 222 = .ok (.lconst 1, 1) := by decide +kernel
theorem dX3_valueOf_223 : decode cX3_valueOf 223 = .ok (.goto 4, 3) := by decide +kernel
theorem dX3_valueOf_226 : decode cX3_valueOf 226 = .ok (.lconst 0, 1) := by decide +kernel
theorem dX3_valueOf_227 : decode cX3_valueOf 227 = .ok (.lstore 9, 2) := by decide +kernel
theorem dX3_valueOf_229 : decode cX3_valueOf 229 = .ok (.goto 65, 3) := by decide +kernel
theorem dX3_valueOf_232 : decode cX3_valueOf 232 = .ok (.lload 5, 2) := by decide +kernel
theorem dX3_valueOf_234 : decode cX3_valueOf 234 = .ok (.lload 7, 2) := by decide +kernel
theorem dX3_valueOf_236 : decode cX3_valueOf 236 = .ok (.lcmp, 1) := by decide +kernel
theorem dX3_valueOf_237 : decode cX3_valueOf 237 = .ok (.ifCond .ge 7, 3) := by decide +kernel
theorem dX3_valueOf_240 : decode cX3_valueOf 240 = .ok (.lconst 1, 1) := by decide +kernel
theorem dX3_valueOf_241 : decode cX3_valueOf 241 = .ok (.goto 4, 3) := by decide +kernel
theorem dX3_valueOf_244 : decode cX3_valueOf 244 = .ok (.lconst 0, 1) := by decide +kernel
theorem dX3_valueOf_245 : decode cX3_valueOf 245 = .ok (.lstore 9, 2) := by decide +kernel
theorem dX3_valueOf_247 : decode cX3_valueOf 247 = .ok (.goto 47, 3) := by decide +kernel
theorem dX3_valueOf_250 : decode cX3_valueOf 250 = .ok (.lload 5, 2) := by decide +kernel
theorem dX3_valueOf_252 : decode cX3_valueOf 252 = .ok (.lload 7, 2) := by decide +kernel
theorem dX3_valueOf_254 : decode cX3_valueOf 254 = .ok (.lcmp, 1) := by decide +kernel
theorem dX3_valueOf_255 : decode cX3_valueOf 255 = .ok (.ifCond .le 7, 3) := by decide +kernel
theorem dX3_valueOf_258 : decode cX3_valueOf 258 = .ok (.lconst 1, 1) := by decide +kernel
theorem dX3_valueOf_259 : decode cX3_valueOf 259 = .ok (.goto 4, 3) := by decide +kernel
theorem dX3_valueOf_262 : decode cX3_valueOf 262 = .ok (.lconst 0, 1) := by decide +kernel
theorem dX3_valueOf_263 : decode cX3_valueOf 263 = .ok (.lstore 9, 2) := by decide +kernel
theorem dX3_valueOf_265 : decode cX3_valueOf 265 = .ok (.goto 29, 3) := by decide +kernel
theorem dX3_valueOf_268 : decode cX3_valueOf 268 = .ok (.lload 5, 2) := by decide +kernel
theorem dX3_valueOf_270 : decode cX3_valueOf 270 = .ok (.lload 7, 2) := by decide +kernel
theorem dX3_valueOf_272 : decode cX3_valueOf 272 = .ok (.land, 1) := by decide +kernel
theorem dX3_valueOf_273 : decode cX3_valueOf 273 = .ok (.lstore 9, 2) := by decide +kernel
theorem dX3_valueOf_275 : decode cX3_valueOf 275 = .ok (.goto 19, 3) := by decide +kernel
theorem dX3_valueOf_278 : decode cX3_valueOf 278 = .ok (.lload 5, 2) := by decide +kernel
theorem dX3_valueOf_280 : decode cX3_valueOf 280 = .ok (.lload 7, 2) := by decide +kernel
theorem dX3_valueOf_282 : decode cX3_valueOf 282 = .ok (.lor, 1) := by decide +kernel
theorem dX3_valueOf_283 : decode cX3_valueOf 283 = .ok (.lstore 9, 2) := by decide +kernel
theorem dX3_valueOf_285 : decode cX3_valueOf 285 = .ok (.goto 9, 3) := by decide +kernel
theorem dX3_valueOf_288 : decode cX3_valueOf 288 = .ok (.lconst 1, 1) := by decide +kernel
theorem dX3_valueOf_289 : decode cX3_valueOf 289 = .ok (.lload 5, 2) := by decide +kernel
theorem dX3_valueOf_291 : decode cX3_valueOf 291 = .ok (.lsub, 1) := by decide +kernel
theorem dX3_valueOf_292 : decode cX3_valueOf 292 = .ok (.lstore 9, 2) := by decide +kernel
theorem dX3_valueOf_294 : decode cX3_valueOf 294 = .ok (.aload_n 0, 1) := by decide +kernel
theorem dX3_valueOf_295 : decode cX3_valueOf 295 = .ok (.getfield 13, 3) := by decide +kernel
theorem dX3_valueOf_298 : decode cX3_valueOf 298 = .ok (.iload_n 2, 1) := by decide +kernel
theorem dX3_valueOf_299 : decode cX3_valueOf 299 = .ok (.iconst 1, 1) := by decide +kernel
theorem dX3_valueOf_300 : decode cX3_valueOf 300 = .ok (.isub, 1) := by decide +kernel
theorem dX3_valueOf_301 : decode cX3_valueOf 301 = .ok (.lload 9, 2) := by decide +kernel
theorem dX3_valueOf_303 : decode cX3_valueOf 303 = .ok (.ldc2_w 16, 3) := by decide +kernel
theorem dX3_valueOf_306 : decode cX3_valueOf 306 = .ok (.lcmp, 1) := by decide +kernel
theorem dX3_valueOf_307 : decode cX3_valueOf 307 = .ok (.ifCond .le 9, 3) := by decide +kernel
theorem dX3_valueOf_310 : decode cX3_valueOf 310 = .ok (.ldc2_w 16, 3) := by decide +kernel
theorem dX3_valueOf_313 : decode cX3_valueOf 313 = .ok (.goto 20, 3) := by decide +kernel
theorem dX3_valueOf_316 : decode cX3_valueOf 316 = .ok (.lload 9, 2) := by decide +kernel
theorem dX3_valueOf_318 : decode cX3_valueOf 318 = .ok (.ldc2_w 18, 3) := by decide +kernel
theorem dX3_valueOf_321 : decode cX3_valueOf 321 = .ok (.lcmp, 1) := by decide +kernel
theorem dX3_valueOf_322 : decode cX3_valueOf 322 = .ok (.ifCond .ge 9, 3) := by decide +kernel
theorem dX3_valueOf_325 : decode cX3_valueOf 325 = .ok (.ldc2_w 18, 3) := by decide +kernel
theorem dX3_valueOf_328 : decode cX3_valueOf 328 = .ok (.goto 5, 3) := by decide +kernel
theorem dX3_valueOf_331 : decode cX3_valueOf 331 = .ok (.lload 9, 2) := by decide +kernel
theorem dX3_valueOf_333 : decode cX3_valueOf 333 = .ok (.l2i, 1) := by decide +kernel
theorem dX3_valueOf_334 : decode cX3_valueOf 334 = .ok (.iastore, 1) := by decide +kernel
theorem dX3_valueOf_335 : decode cX3_valueOf 335 = .ok (.iinc 3 1, 3) := by decide +kernel
theorem dX3_valueOf_338 : decode cX3_valueOf 338 = .ok (.goto (-334), 3) := by decide +kernel
theorem dX3_valueOf_341 : decode cX3_valueOf 341 = .ok (.iload_n 2, 1) := by decide +kernel
theorem dX3_valueOf_342 : decode cX3_valueOf 342 = .ok (.ifCond .le 12, 3) := by decide +kernel
theorem dX3_valueOf_345 : decode cX3_valueOf 345 = .ok (.aload_n 0, 1) := by decide +kernel
theorem dX3_valueOf_346 : decode cX3_valueOf 346 = .ok (.getfield 13, 3) := by decide +kernel
theorem dX3_valueOf_349 : decode cX3_valueOf 349 = .ok (.iconst 0, 1) := by decide +kernel
theorem dX3_valueOf_350 : decode cX3_valueOf 350 = .ok (.iaload, 1) := by decide +kernel
theorem dX3_valueOf_351 : decode cX3_valueOf 351 = .ok (.goto 4, 3) := by decide +kernel
theorem dX3_valueOf_354 : decode cX3_valueOf 354 = .ok (.iconst 0, 1) := by decide +kernel
theorem dX3_valueOf_355 : decode cX3_valueOf 355 = .ok (.ireturn, 1) := by decide +kernel
theorem dX4_init_0 : decode cX4_init 0 = .ok (.aload_n 0, 1) := by decide +kernel
theorem dX4_init_1 : decode cX4_init 1 = .ok (.invokespecial 3, 3) := by decide +kernel
theorem dX4_init_4 : decode cX4_init 4 = .ok (.aload_n 0, 1) := by decide +kernel
theorem dX4_init_5 : decode cX4_init 5 = .ok (.sipush 224, 3) := by decide +kernel
theorem dX4_init_8 : decode cX4_init 8 = .ok (.newarray .int, 2) := by decide +kernel
theorem dX4_init_10 : decode cX4_init 10 = .ok (.putfield 9, 3) := by decide +kernel
theorem dX4_init_13 : decode cX4_init 13 = .ok (.aload_n 0, 1) := by decide +kernel
theorem dX4_init_14 : decode cX4_init 14 = .ok (.sipush 224, 3) := by decide +kernel
theorem dX4_init_17 : decode cX4_init 17 = .ok (.newarray .int, 2) := by decide +kernel
theorem dX4_init_19 : decode cX4_init 19 = .ok (.putfield 15, 3) := by decide +kernel
theorem dX4_init_22 : decode cX4_init 22 = .ok (.aload_n 0, 1) := by decide +kernel
theorem dX4_init_23 : decode cX4_init 23 = .ok (.sipush 224, 3) := by decide +kernel
theorem dX4_init_26 : decode cX4_init 26 = .ok (.newarray .int, 2) := by decide +kernel
theorem dX4_init_28 : decode cX4_init 28 = .ok (.putfield 18, 3) := by decide +kernel
theorem dX4_init_31 : decode cX4_init 31 = .ok (.aload_n 0, 1) := by decide +kernel
theorem dX4_init_32 : decode cX4_init 32 = .ok (.sipush 2400, 3) := by decide +kernel
theorem dX4_init_35 : decode cX4_init 35 = .ok (.newarray .int, 2) := by decide +kernel
theorem dX4_init_37 : decode cX4_init 37 = .ok (.putfield 21, 3) := by decide +kernel
theorem dX4_init_40 : decode cX4_init 40 = .ok (.aload_n 0, 1) := by decide +kernel
theorem dX4_init_41 : decode cX4_init 41 = .ok (.aload_n 1, 1) := by decide +kernel
theorem dX4_init_42 : decode cX4_init 42 = .ok (.putfield 24, 3) := by decide +kernel
theorem dX4_init_45 : decode cX4_init 45 = .ok (.return_, 1) := by decide +kernel
theorem dX4_layDegrees_0 : decode cX4_layDegrees 0 = .ok (.iconst 0, 1) := by decide +kernel
theorem dX4_layDegrees_1 : decode cX4_layDegrees 1 = .ok (.istore 4, 2) := by decide +kernel
theorem dX4_layDegrees_3 : decode cX4_layDegrees 3 = .ok (.iload 4, 2) := by decide +kernel
theorem dX4_layDegrees_5 : decode cX4_layDegrees 5 = .ok (.iload_n 3, 1) := by decide +kernel
theorem dX4_layDegrees_6 : decode cX4_layDegrees 6 = .ok (.if_icmp .ge 48, 3) := by decide +kernel
theorem dX4_layDegrees_9 : decode cX4_layDegrees 9 = .ok (.iload 4, 2) := by decide +kernel
theorem dX4_layDegrees_11 : decode cX4_layDegrees 11 = .ok (.aload_n 0, 1) := by decide +kernel
theorem dX4_layDegrees_12 : decode cX4_layDegrees 12 = .ok (.getfield 9, 3) := by decide +kernel
theorem dX4_layDegrees_15 : decode cX4_layDegrees 15 = .ok (.arraylength, 1) := by decide +kernel
theorem dX4_layDegrees_16 : decode cX4_layDegrees 16 = .ok (.if_icmp .ge 38, 3) := by decide +kernel
theorem dX4_layDegrees_19 : decode cX4_layDegrees 19 = .ok (.aload_n 0, 1) := by decide +kernel
theorem dX4_layDegrees_20 : decode cX4_layDegrees 20 = .ok (.getfield 9, 3) := by decide +kernel
theorem dX4_layDegrees_23 : decode cX4_layDegrees 23 = .ok (.iload 4, 2) := by decide +kernel
theorem dX4_layDegrees_25 : decode cX4_layDegrees 25 = .ok (.aload_n 0, 1) := by decide +kernel
theorem dX4_layDegrees_26 : decode cX4_layDegrees 26 = .ok (.getfield 24, 3) := by decide +kernel
theorem dX4_layDegrees_29 : decode cX4_layDegrees 29 = .ok (.iload_n 1, 1) := by decide +kernel
theorem dX4_layDegrees_30 : decode cX4_layDegrees 30 = .ok (.aload_n 0, 1) := by decide +kernel
theorem dX4_layDegrees_31 : decode cX4_layDegrees 31 = .ok (.getfield 24, 3) := by decide +kernel
theorem dX4_layDegrees_34 : decode cX4_layDegrees 34 = .ok (.getfield 28, 3) := by decide +kernel
theorem dX4_layDegrees_37 : decode cX4_layDegrees 37 = .ok (.iconst 0, 1) := by decide +kernel
theorem dX4_layDegrees_38 : decode cX4_layDegrees 38 = .ok (.iaload, 1) := by decide +kernel
theorem dX4_layDegrees_39 : decode cX4_layDegrees 39 = .ok (.iload_n 2, 1) := by decide +kernel
theorem dX4_layDegrees_40 : decode cX4_layDegrees 40 = .ok (.iadd, 1) := by decide +kernel
theorem dX4_layDegrees_41 : decode cX4_layDegrees 41 = .ok (.iload 4, 2) := by decide +kernel
theorem dX4_layDegrees_43 : decode cX4_layDegrees 43 = .ok (.iadd, 1) := by decide +kernel
theorem dX4_layDegrees_44 : decode cX4_layDegrees 44 = .ok (.invokevirtual 33, 3) := by decide +kernel
theorem dX4_layDegrees_47 : decode cX4_layDegrees 47 = .ok (.iastore, 1) := by decide +kernel
theorem dX4_layDegrees_48 : decode cX4_layDegrees 48 = .ok (.iinc 4 1, 3) := by decide +kernel
theorem dX4_layDegrees_51 : decode cX4_layDegrees 51 = .ok (.goto (-48), 3) := by decide +kernel
theorem dX4_layDegrees_54 : decode cX4_layDegrees 54 = .ok (.return_, 1) := by decide +kernel
theorem dX4_layBarring_0 : decode cX4_layBarring 0 = .ok (.aload_n 0, 1) := by decide +kernel
theorem dX4_layBarring_1 : decode cX4_layBarring 1 = .ok (.getfield 24, 3) := by decide +kernel
theorem dX4_layBarring_4 : decode cX4_layBarring 4 = .ok (.iload_n 1, 1) := by decide +kernel
theorem dX4_layBarring_5 : decode cX4_layBarring 5 = .ok (.invokevirtual 37, 3) := by decide +kernel
theorem dX4_layBarring_8 : decode cX4_layBarring 8 = .ok (.istore 6, 2) := by decide +kernel
theorem dX4_layBarring_10 : decode cX4_layBarring 10 = .ok (.iconst 0, 1) := by decide +kernel
theorem dX4_layBarring_11 : decode cX4_layBarring 11 = .ok (.istore 7, 2) := by decide +kernel
theorem dX4_layBarring_13 : decode cX4_layBarring 13 = .ok (.iload 7, 2) := by decide +kernel
theorem dX4_layBarring_15 : decode cX4_layBarring 15 = .ok (.iload 4, 2) := by decide +kernel
theorem dX4_layBarring_17 : decode cX4_layBarring 17 = .ok (.if_icmp .ge 67, 3) := by decide +kernel
theorem dX4_layBarring_20 : decode cX4_layBarring 20 = .ok (.iload 7, 2) := by decide +kernel
theorem dX4_layBarring_22 : decode cX4_layBarring 22 = .ok (.aload_n 0, 1) := by decide +kernel
theorem dX4_layBarring_23 : decode cX4_layBarring 23 = .ok (.getfield 15, 3) := by decide +kernel
theorem dX4_layBarring_26 : decode cX4_layBarring 26 = .ok (.arraylength, 1) := by decide +kernel
theorem dX4_layBarring_27 : decode cX4_layBarring 27 = .ok (.if_icmp .ge 57, 3) := by decide +kernel
theorem dX4_layBarring_30 : decode cX4_layBarring 30 = .ok (.aload_n 0, 1) := by decide +kernel
theorem dX4_layBarring_31 : decode cX4_layBarring 31 = .ok (.getfield 9, 3) := by decide +kernel
theorem dX4_layBarring_34 : decode cX4_layBarring 34 = .ok (.iload 7, 2) := by decide +kernel
theorem dX4_layBarring_36 : decode cX4_layBarring 36 = .ok (.iaload, 1) := by decide +kernel
theorem dX4_layBarring_37 : decode cX4_layBarring 37 = .ok (.iload 5, 2) := by decide +kernel
theorem dX4_layBarring_39 : decode cX4_layBarring 39 = .ok (.iadd, 1) := by decide +kernel
theorem dX4_layBarring_40 : decode cX4_layBarring 40 = .ok (.invokestatic 41, 3) := by decide +kernel
theorem dX4_layBarring_43 : decode cX4_layBarring 43 = .ok (.istore 8, 2) := by decide +kernel
theorem dX4_layBarring_45 : decode cX4_layBarring 45 = .ok (.aload_n 0, 1) := by decide +kernel
theorem dX4_layBarring_46 : decode cX4_layBarring 46 = .ok (.getfield 15, 3) := by decide +kernel
theorem dX4_layBarring_49 : decode cX4_layBarring 49 = .ok (.iload 7, 2) := by decide +kernel
theorem dX4_layBarring_51 : decode cX4_layBarring 51 = .ok (.aload_n 0, 1) := by decide +kernel
theorem dX4_layBarring_52 : decode cX4_layBarring 52 = .ok (.getfield 24, 3) := by decide +kernel
theorem dX4_layBarring_55 : decode cX4_layBarring 55 = .ok (.iload_n 2, 1) := by decide +kernel
theorem dX4_layBarring_56 : decode cX4_layBarring 56 = .ok (.aload_n 0, 1) := by decide +kernel
theorem dX4_layBarring_57 : decode cX4_layBarring 57 = .ok (.getfield 24, 3) := by decide +kernel
theorem dX4_layBarring_60 : decode cX4_layBarring 60 = .ok (.getfield 28, 3) := by decide +kernel
theorem dX4_layBarring_63 : decode cX4_layBarring 63 = .ok (.iconst 0, 1) := by decide +kernel
theorem dX4_layBarring_64 : decode cX4_layBarring 64 = .ok (.iaload, 1) := by decide +kernel
theorem dX4_layBarring_65 : decode cX4_layBarring 65 = .ok (.iload_n 3, 1) := by decide +kernel
theorem dX4_layBarring_66 : decode cX4_layBarring 66 = .ok (.iadd, 1) := by decide +kernel
theorem dX4_layBarring_67 : decode cX4_layBarring 67 = .ok (.iload 7, 2) := by decide +kernel
theorem dX4_layBarring_69 : decode cX4_layBarring 69 = .ok (.iadd, 1) := by decide +kernel
theorem dX4_layBarring_70 : decode cX4_layBarring 70 = .ok (.iload 8, 2) := by decide +kernel
theorem dX4_layBarring_72 : decode cX4_layBarring 72 = .ok (.iload 6, 2) := by decide +kernel
theorem dX4_layBarring_74 : decode cX4_layBarring 74 = .ok (.invokevirtual 44, 3) := by decide +kernel
theorem dX4_layBarring_77 : decode cX4_layBarring 77 = .ok (.iastore, 1) := by decide +kernel
theorem dX4_layBarring_78 : decode cX4_layBarring 78 = .ok (.iinc 7 1, 3) := by decide +kernel
theorem dX4_layBarring_81 : decode cX4_layBarring 81 = .ok (.goto (-68), 3) := by decide +kernel
theorem dX4_layBarring_84 : decode cX4_layBarring 84 = .ok (.return_, 1) := by decide +kernel
theorem dX4_layHeated_0 : decode cX4_layHeated 0 = .ok (.aload_n 0, 1) := by decide +kernel
theorem dX4_layHeated_1 : decode cX4_layHeated 1 = .ok (.getfield 24, 3) := by decide +kernel
theorem dX4_layHeated_4 : decode cX4_layHeated 4 = .ok (.iload_n 1, 1) := by decide +kernel
theorem dX4_layHeated_5 : decode cX4_layHeated 5 = .ok (.invokevirtual 37, 3) := by decide +kernel
theorem dX4_layHeated_8 : decode cX4_layHeated 8 = .ok (.istore 5, 2) := by decide +kernel
theorem dX4_layHeated_10 : decode cX4_layHeated 10 = .ok (.iconst 0, 1) := by decide +kernel
theorem dX4_layHeated_11 : decode cX4_layHeated 11 = .ok (.istore 6, 2) := by decide +kernel
theorem dX4_layHeated_13 : decode cX4_layHeated 13 = .ok (.iload 6, 2) := by decide +kernel
theorem dX4_layHeated_15 : decode cX4_layHeated 15 = .ok (.iload_n 3, 1) := by decide +kernel
theorem dX4_layHeated_16 : decode cX4_layHeated 16 = .ok (.if_icmp .ge 107, 3) := by decide +kernel
theorem dX4_layHeated_19 : decode cX4_layHeated 19 = .ok (.iload 6, 2) := by decide +kernel
theorem dX4_layHeated_21 : decode cX4_layHeated 21 = .ok (.aload_n 0, 1) := by decide +kernel
theorem dX4_layHeated_22 : decode cX4_layHeated 22 = .ok (.getfield 15, 3) := by decide +kernel
theorem dX4_layHeated_25 : decode cX4_layHeated 25 = .ok (.arraylength, 1) := by decide +kernel
theorem dX4_layHeated_26 : decode cX4_layHeated 26 = .ok (.if_icmp .ge 97, 3) := by decide +kernel
theorem dX4_layHeated_29 : decode cX4_layHeated 29 = .ok (.aload_n 0, 1) := by decide +kernel
theorem dX4_layHeated_30 : decode cX4_layHeated 30 = .ok (.getfield 24, 3) := by decide +kernel
theorem dX4_layHeated_33 : decode cX4_layHeated 33 = .ok (.getfield 28, 3) := by decide +kernel
theorem dX4_layHeated_36 : decode cX4_layHeated 36 = .ok (.iconst 0, 1) := by decide +kernel
theorem dX4_layHeated_37 : decode cX4_layHeated 37 = .ok (.iaload, 1) := by decide +kernel
theorem dX4_layHeated_38 : decode cX4_layHeated 38 = .ok (.iload 6, 2) := by decide +kernel
theorem dX4_layHeated_40 : decode cX4_layHeated 40 = .ok (.iadd, 1) := by decide +kernel
theorem dX4_layHeated_41 : decode cX4_layHeated 41 = .ok (.istore 7, 2) := by decide +kernel
theorem dX4_layHeated_43 : decode cX4_layHeated 43 = .ok (.aload_n 0, 1) := by decide +kernel
theorem dX4_layHeated_44 : decode cX4_layHeated 44 = .ok (.getfield 9, 3) := by decide +kernel
theorem dX4_layHeated_47 : decode cX4_layHeated 47 = .ok (.iload 6, 2) := by decide +kernel
theorem dX4_layHeated_49 : decode cX4_layHeated 49 = .ok (.iaload, 1) := by decide +kernel
theorem dX4_layHeated_50 : decode cX4_layHeated 50 = .ok (.iload 4, 2) := by decide +kernel
theorem dX4_layHeated_52 : decode cX4_layHeated 52 = .ok (.iadd, 1) := by decide +kernel
theorem dX4_layHeated_53 : decode cX4_layHeated 53 = .ok (.invokestatic 41, 3) := by decide +kernel
theorem dX4_layHeated_56 : decode cX4_layHeated 56 = .ok (.istore 8, 2) := by decide +kernel
theorem dX4_layHeated_58 : decode cX4_layHeated 58 = .ok (.iload 7, 2) := by decide +kernel
theorem dX4_layHeated_60 : decode cX4_layHeated 60 = .ok (.invokestatic 48, 3) := by decide +kernel
theorem dX4_layHeated_63 : decode cX4_layHeated 63 = .ok (.bipush 100, 2) := by decide +kernel
theorem dX4_layHeated_65 : decode cX4_layHeated 65 = .ok (.imul, 1) := by decide +kernel
theorem dX4_layHeated_66 : decode cX4_layHeated 66 = .ok (.iload 8, 2) := by decide +kernel
theorem dX4_layHeated_68 : decode cX4_layHeated 68 = .ok (.iadd, 1) := by decide +kernel
theorem dX4_layHeated_69 : decode cX4_layHeated 69 = .ok (.istore 9, 2) := by decide +kernel
theorem dX4_layHeated_71 : decode cX4_layHeated 71 = .ok (.aload_n 0, 1) := by decide +kernel
theorem dX4_layHeated_72 : decode cX4_layHeated 72 = .ok (.getfield 21, 3) := by decide +kernel
theorem dX4_layHeated_75 : decode cX4_layHeated 75 = .ok (.iload 9, 2) := by decide +kernel
theorem dX4_layHeated_77 : decode cX4_layHeated 77 = .ok (.iaload, 1) := by decide +kernel
theorem dX4_layHeated_78 : decode cX4_layHeated 78 = .ok (.iconst (-1), 1) := by decide +kernel
theorem dX4_layHeated_79 : decode cX4_layHeated 79 = .ok (.if_icmp .ne 24, 3) := by decide +kernel
theorem dX4_layHeated_82 : decode cX4_layHeated 82 = .ok (.aload_n 0, 1) := by decide +kernel
theorem dX4_layHeated_83 : decode cX4_layHeated 83 = .ok (.getfield 21, 3) := by decide +kernel
theorem dX4_layHeated_86 : decode cX4_layHeated 86 = .ok (.iload 9, 2) := by decide +kernel
theorem dX4_layHeated_88 : decode cX4_layHeated 88 = .ok (.aload_n 0, 1) := by decide +kernel
theorem dX4_layHeated_89 : decode cX4_layHeated 89 = .ok (.getfield 24, 3) := by decide +kernel
theorem dX4_layHeated_92 : decode cX4_layHeated 92 = .ok (.iload_n 2, 1) := by decide +kernel
theorem dX4_layHeated_93 : decode cX4_layHeated 93 = .ok (.iload 7, 2) := by decide +kernel
theorem dX4_layHeated_95 : decode cX4_layHeated 95 = .ok (.iload 8, 2) := by decide +kernel
theorem dX4_layHeated_97 : decode cX4_layHeated 97 = .ok (.iload 5, 2) := by decide +kernel
theorem dX4_layHeated_99 : decode cX4_layHeated 99 = .ok (.invokevirtual 44, 3) := by decide +kernel
theorem dX4_layHeated_102 : decode cX4_layHeated 102 = .ok (.iastore, 1) := by decide +kernel
theorem dX4_layHeated_103 : decode cX4_layHeated 103 = .ok (.aload_n 0, 1) := by decide +kernel
theorem dX4_layHeated_104 : decode cX4_layHeated 104 = .ok (.getfield 15, 3) := by decide +kernel
theorem dX4_layHeated_107 : decode cX4_layHeated 107 = .ok (.iload 6, 2) := by decide +kernel
theorem dX4_layHeated_109 : decode cX4_layHeated 109 = .ok (.aload_n 0, 1) := by decide +kernel
theorem dX4_layHeated_110 : decode cX4_layHeated 110 = .ok (.getfield 21, 3) := by decide +kernel
theorem dX4_layHeated_113 : decode cX4_layHeated 113 = .ok (.iload 9, 2) := by decide +kernel
theorem dX4_layHeated_115 : decode cX4_layHeated 115 = .ok (.iaload, 1) := by decide +kernel
theorem dX4_layHeated_116 : decode cX4_layHeated 116 = .ok (.iastore, 1) := by decide +kernel
theorem dX4_layHeated_117 : decode cX4_layHeated 117 = .ok (.iinc 6 1, 3) := by decide +kernel
theorem dX4_layHeated_120 : decode cX4_layHeated 120 = .ok (.goto (-107), 3) := by decide +kernel
theorem dX4_layHeated_123 : decode cX4_layHeated 123 = .ok (.return_, 1) := by decide +kernel
theorem dX4_layOut_0 : decode cX4_layOut 0 = .ok (.aload_n 0, 1) := by decide +kernel
theorem dX4_layOut_1 : decode cX4_layOut 1 = .ok (.iload_n 2, 1) := by decide +kernel
theorem dX4_layOut_2 : decode cX4_layOut 2 = .ok (.iconst 0, 1) := by decide +kernel
theorem dX4_layOut_3 : decode cX4_layOut 3 = .ok (.iload_n 3, 1) := by decide +kernel
theorem dX4_layOut_4 : decode cX4_layOut 4 = .ok (.invokevirtual 51, 3) := by decide +kernel
theorem dX4_layOut_7 : decode cX4_layOut 7 = .ok (.aload_n 0, 1) := by decide +kernel
theorem dX4_layOut_8 : decode cX4_layOut 8 = .ok (.iload_n 1, 1) := by decide +kernel
theorem dX4_layOut_9 : decode cX4_layOut 9 = .ok (.iload_n 2, 1) := by decide +kernel
theorem dX4_layOut_10 : decode cX4_layOut 10 = .ok (.iconst 0, 1) := by decide +kernel
theorem dX4_layOut_11 : decode cX4_layOut 11 = .ok (.iload_n 3, 1) := by decide +kernel
theorem dX4_layOut_12 : decode cX4_layOut 12 = .ok (.iconst 0, 1) := by decide +kernel
theorem dX4_layOut_13 : decode cX4_layOut 13 = .ok (.invokevirtual 55, 3) := by decide +kernel
theorem dX4_layOut_16 : decode cX4_layOut 16 = .ok (.return_, 1) := by decide +kernel
theorem dX4_isFree_0 : decode cX4_isFree 0 = .ok (.iconst 0, 1) := by decide +kernel
theorem dX4_isFree_1 : decode cX4_isFree 1 = .ok (.istore_n 2, 1) := by decide +kernel
theorem dX4_isFree_2 : decode cX4_isFree 2 = .ok (.iload_n 2, 1) := by decide +kernel
theorem dX4_isFree_3 : decode cX4_isFree 3 = .ok (.iload_n 1, 1) := by decide +kernel
theorem dX4_isFree_4 : decode cX4_isFree 4 = .ok (.if_icmp .ge 29, 3) := by decide +kernel
theorem dX4_isFree_7 : decode cX4_isFree 7 = .ok (.iload_n 2, 1) := by decide +kernel
theorem dX4_isFree_8 : decode cX4_isFree 8 = .ok (.aload_n 0, 1) := by decide +kernel
theorem dX4_isFree_9 : decode cX4_isFree 9 = .ok (.getfield 15, 3) := by decide +kernel
theorem dX4_isFree_12 : decode cX4_isFree 12 = .ok (.arraylength, 1) := by decide +kernel
theorem dX4_isFree_13 : decode cX4_isFree 13 = .ok (.if_icmp .ge 20, 3) := by decide +kernel
theorem dX4_isFree_16 : decode cX4_isFree 16 = .ok (.aload_n 0, 1) := by decide +kernel
theorem dX4_isFree_17 : decode cX4_isFree 17 = .ok (.getfield 15, 3) := by decide +kernel
theorem dX4_isFree_20 : decode cX4_isFree 20 = .ok (.iload_n 2, 1) := by decide +kernel
theorem dX4_isFree_21 : decode cX4_isFree 21 = .ok (.iaload, 1) := by decide +kernel
theorem dX4_isFree_22 : decode cX4_isFree 22 = .ok (.ifCond .eq 5, 3) := by decide +kernel
theorem dX4_isFree_25 : decode cX4_isFree 25 = .ok (.iconst 0, 1) := by decide +kernel
theorem dX4_isFree_26 : decode cX4_isFree 26 = .ok (.ireturn, 1) := by decide +kernel
theorem dX4_isFree_27 : decode cX4_isFree 27 = .ok (.iinc 2 1, 3) := by decide +kernel
theorem dX4_isFree_30 : decode cX4_isFree 30 = .ok (.goto (-28), 3) := by decide +kernel
theorem dX4_isFree_33 : decode cX4_isFree 33 = .ok (.iconst 1, 1) := by decide +kernel
theorem dX4_isFree_34 : decode cX4_isFree 34 = .ok (.ireturn, 1) := by decide +kernel
theorem dX4_firstFree_0 : decode cX4_firstFree 0 = .ok (.iconst 0, 1) := by decide +kernel
theorem dX4_firstFree_1 : decode cX4_firstFree 1 = .ok (.istore_n 2, 1) := by decide +kernel
theorem dX4_firstFree_2 : decode cX4_firstFree 2 = .ok (.iconst 0, 1) := by decide +kernel
theorem dX4_firstFree_3 : decode cX4_firstFree 3 = .ok (.istore_n 3, 1) := by decide +kernel
theorem dX4_firstFree_4 : decode cX4_firstFree 4 = .ok (.iload_n 3, 1) := by decide +kernel
theorem dX4_firstFree_5 : decode cX4_firstFree 5 = .ok (.sipush 200, 3) := by decide +kernel
theorem dX4_firstFree_8 : decode cX4_firstFree 8 = .ok (.iload_n 1, 1) := by decide +kernel
theorem dX4_firstFree_9 : decode cX4_firstFree 9 = .ok (.iadd, 1) := by decide +kernel
theorem dX4_firstFree_10 : decode cX4_firstFree 10 = .ok (.if_icmp .ge 46, 3) := by decide +kernel
theorem dX4_firstFree_13 : decode cX4_firstFree 13 = .ok (.iload_n 3, 1) := by decide +kernel
theorem dX4_firstFree_14 : decode cX4_firstFree 14 = .ok (.aload_n 0, 1) := by decide +kernel
theorem dX4_firstFree_15 : decode cX4_firstFree 15 = .ok (.getfield 15, 3) := by decide +kernel
theorem dX4_firstFree_18 : decode cX4_firstFree 18 = .ok (.arraylength, 1) := by decide +kernel
theorem dX4_firstFree_19 : decode cX4_firstFree 19 = .ok (.if_icmp .ge 37, 3) := by decide +kernel
theorem dX4_firstFree_22 : decode cX4_firstFree 22 = .ok (.aload_n 0, 1) := by decide +kernel
theorem dX4_firstFree_23 : decode cX4_firstFree 23 = .ok (.getfield 15, 3) := by decide +kernel
theorem dX4_firstFree_26 : decode cX4_firstFree 26 = .ok (.iload_n 3, 1) := by decide +kernel
theorem dX4_firstFree_27 : decode cX4_firstFree 27 = .ok (.iaload, 1) := by decide +kernel
theorem dX4_firstFree_28 : decode cX4_firstFree 28 = .ok (.ifCond .ne 9, 3) := by decide +kernel
theorem dX4_firstFree_31 : decode cX4_firstFree 31 = .ok (.iload_n 2, 1) := by decide +kernel
theorem dX4_firstFree_32 : decode cX4_firstFree 32 = .ok (.iconst 1, 1) := by decide +kernel
theorem dX4_firstFree_33 : decode cX4_firstFree 33 = .ok (.iadd, 1) := by decide +kernel
theorem dX4_firstFree_34 : decode cX4_firstFree 34 = .ok (.goto 4, 3) := by decide +kernel
theorem dX4_firstFree_37 : decode cX4_firstFree 37 = .ok (.iconst 0, 1) := by decide +kernel
theorem dX4_firstFree_38 : decode cX4_firstFree 38 = .ok (.istore_n 2, 1) := by decide +kernel
theorem dX4_firstFree_39 : decode cX4_firstFree 39 = .ok (.iload_n 2, 1) := by decide +kernel
theorem dX4_firstFree_40 : decode cX4_firstFree 40 = .ok (.iload_n 1, 1) := by decide +kernel
theorem dX4_firstFree_41 : decode cX4_firstFree 41 = .ok (.if_icmp .ne 9, 3) := by decide +kernel
theorem dX4_firstFree_44 : decode cX4_firstFree 44 = .ok (.iload_n 3, 1) := by decide +kernel
theorem dX4_firstFree_45 : decode cX4_firstFree 45 = .ok (.iconst 1, 1) := by decide +kernel
theorem dX4_firstFree_46 : decode cX4_firstFree 46 = .ok (.iadd, 1) := by decide +kernel
theorem dX4_firstFree_47 : decode cX4_firstFree 47 = .ok (.iload_n 1, 1) := by decide +kernel
theorem dX4_firstFree_48 : decode cX4_firstFree 48 = .ok (.isub, 1) := by decide +kernel
theorem dX4_firstFree_49 : decode cX4_firstFree 49 = .ok (.ireturn, 1) := by decide +kernel
theorem dX4_firstFree_50 : decode cX4_firstFree 50 = .ok (.iinc 3 1, 3) := by decide +kernel
theorem dX4_firstFree_53 : decode cX4_firstFree 53 = .ok (.goto (-49), 3) := by decide +kernel
theorem dX4_firstFree_56 : decode cX4_firstFree 56 = .ok (.iconst (-1), 1) := by decide +kernel
theorem dX4_firstFree_57 : decode cX4_firstFree 57 = .ok (.ireturn, 1) := by decide +kernel
theorem dX4_isLawfulIn_0 : decode cX4_isLawfulIn 0 = .ok (.aload_n 0, 1) := by decide +kernel
theorem dX4_isLawfulIn_1 : decode cX4_isLawfulIn 1 = .ok (.getfield 24, 3) := by decide +kernel
theorem dX4_isLawfulIn_4 : decode cX4_isLawfulIn 4 = .ok (.iload 4, 2) := by decide +kernel
theorem dX4_isLawfulIn_6 : decode cX4_isLawfulIn 6 = .ok (.invokevirtual 59, 3) := by decide +kernel
theorem dX4_isLawfulIn_9 : decode cX4_isLawfulIn 9 = .ok (.istore 5, 2) := by decide +kernel
theorem dX4_isLawfulIn_11 : decode cX4_isLawfulIn 11 = .ok (.aload_n 0, 1) := by decide +kernel
theorem dX4_isLawfulIn_12 : decode cX4_isLawfulIn 12 = .ok (.iload_n 2, 1) := by decide +kernel
theorem dX4_isLawfulIn_13 : decode cX4_isLawfulIn 13 = .ok (.iload_n 3, 1) := by decide +kernel
theorem dX4_isLawfulIn_14 : decode cX4_isLawfulIn 14 = .ok (.iload 5, 2) := by decide +kernel
theorem dX4_isLawfulIn_16 : decode cX4_isLawfulIn 16 = .ok (.invokevirtual 51, 3) := by decide +kernel
theorem dX4_isLawfulIn_19 : decode cX4_isLawfulIn 19 = .ok (.aload_n 0, 1) := by decide +kernel
theorem dX4_isLawfulIn_20 : decode cX4_isLawfulIn 20 = .ok (.iload_n 1, 1) := by decide +kernel
theorem dX4_isLawfulIn_21 : decode cX4_isLawfulIn 21 = .ok (.iload_n 2, 1) := by decide +kernel
theorem dX4_isLawfulIn_22 : decode cX4_isLawfulIn 22 = .ok (.iload_n 3, 1) := by decide +kernel
theorem dX4_isLawfulIn_23 : decode cX4_isLawfulIn 23 = .ok (.iload 5, 2) := by decide +kernel
theorem dX4_isLawfulIn_25 : decode cX4_isLawfulIn 25 = .ok (.iconst 0, 1) := by decide +kernel
theorem dX4_isLawfulIn_26 : decode cX4_isLawfulIn 26 = .ok (.invokevirtual 55, 3) := by decide +kernel
theorem dX4_isLawfulIn_29 : decode cX4_isLawfulIn 29 = .ok (.aload_n 0, 1) := by decide +kernel
theorem dX4_isLawfulIn_30 : decode cX4_isLawfulIn 30 = .ok (.iload 5, 2) := by decide +kernel
theorem dX4_isLawfulIn_32 : decode cX4_isLawfulIn 32 = .ok (.invokevirtual 62, 3) := by decide +kernel
theorem dX4_isLawfulIn_35 : decode cX4_isLawfulIn 35 = .ok (.ireturn, 1) := by decide +kernel
theorem dX4_soonestIn_0 : decode cX4_soonestIn 0 = .ok (.aload_n 0, 1) := by decide +kernel
theorem dX4_soonestIn_1 : decode cX4_soonestIn 1 = .ok (.getfield 24, 3) := by decide +kernel
theorem dX4_soonestIn_4 : decode cX4_soonestIn 4 = .ok (.iload_n 3, 1) := by decide +kernel
theorem dX4_soonestIn_5 : decode cX4_soonestIn 5 = .ok (.invokevirtual 59, 3) := by decide +kernel
theorem dX4_soonestIn_8 : decode cX4_soonestIn 8 = .ok (.istore 4, 2) := by decide +kernel
theorem dX4_soonestIn_10 : decode cX4_soonestIn 10 = .ok (.aload_n 0, 1) := by decide +kernel
theorem dX4_soonestIn_11 : decode cX4_soonestIn 11 = .ok (.iload_n 1, 1) := by decide +kernel
theorem dX4_soonestIn_12 : decode cX4_soonestIn 12 = .ok (.iload_n 2, 1) := by decide +kernel
theorem dX4_soonestIn_13 : decode cX4_soonestIn 13 = .ok (.sipush 200, 3) := by decide +kernel
theorem dX4_soonestIn_16 : decode cX4_soonestIn 16 = .ok (.iload 4, 2) := by decide +kernel
theorem dX4_soonestIn_18 : decode cX4_soonestIn 18 = .ok (.iadd, 1) := by decide +kernel
theorem dX4_soonestIn_19 : decode cX4_soonestIn 19 = .ok (.invokevirtual 66, 3) := by decide +kernel
theorem dX4_soonestIn_22 : decode cX4_soonestIn 22 = .ok (.aload_n 0, 1) := by decide +kernel
theorem dX4_soonestIn_23 : decode cX4_soonestIn 23 = .ok (.iload 4, 2) := by decide +kernel
theorem dX4_soonestIn_25 : decode cX4_soonestIn 25 = .ok (.invokevirtual 69, 3) := by decide +kernel
theorem dX4_soonestIn_28 : decode cX4_soonestIn 28 = .ok (.ireturn, 1) := by decide +kernel
theorem dX4_cheapestIn_0 : decode cX4_cheapestIn 0 = .ok (.aload_n 0, 1) := by decide +kernel
theorem dX4_cheapestIn_1 : decode cX4_cheapestIn 1 = .ok (.getfield 24, 3) := by decide +kernel
theorem dX4_cheapestIn_4 : decode cX4_cheapestIn 4 = .ok (.iload_n 3, 1) := by decide +kernel
theorem dX4_cheapestIn_5 : decode cX4_cheapestIn 5 = .ok (.invokevirtual 59, 3) := by decide +kernel
theorem dX4_cheapestIn_8 : decode cX4_cheapestIn 8 = .ok (.istore 4, 2) := by decide +kernel
theorem dX4_cheapestIn_10 : decode cX4_cheapestIn 10 = .ok (.aload_n 0, 1) := by decide +kernel
theorem dX4_cheapestIn_11 : decode cX4_cheapestIn 11 = .ok (.iload_n 1, 1) := by decide +kernel
theorem dX4_cheapestIn_12 : decode cX4_cheapestIn 12 = .ok (.iload_n 2, 1) := by decide +kernel
theorem dX4_cheapestIn_13 : decode cX4_cheapestIn 13 = .ok (.sipush 200, 3) := by decide +kernel
theorem dX4_cheapestIn_16 : decode cX4_cheapestIn 16 = .ok (.iload 4, 2) := by decide +kernel
theorem dX4_cheapestIn_18 : decode cX4_cheapestIn 18 = .ok (.iadd, 1) := by decide +kernel
theorem dX4_cheapestIn_19 : decode cX4_cheapestIn 19 = .ok (.invokevirtual 66, 3) := by decide +kernel
theorem dX4_cheapestIn_22 : decode cX4_cheapestIn 22 = .ok (.iconst 0, 1) := by decide +kernel
theorem dX4_cheapestIn_23 : decode cX4_cheapestIn 23 = .ok (.istore 5, 2) := by decide +kernel
theorem dX4_cheapestIn_25 : decode cX4_cheapestIn 25 = .ok (.iconst 0, 1) := by decide +kernel
theorem dX4_cheapestIn_26 : decode cX4_cheapestIn 26 = .ok (.istore 6, 2) := by decide +kernel
theorem dX4_cheapestIn_28 : decode cX4_cheapestIn 28 = .ok (.iconst 0, 1) := by decide +kernel
theorem dX4_cheapestIn_29 : decode cX4_cheapestIn 29 = .ok (.istore 7, 2) := by decide +kernel
theorem dX4_cheapestIn_31 : decode cX4_cheapestIn 31 = .ok (.iconst 0, 1) := by decide +kernel
theorem dX4_cheapestIn_32 : decode cX4_cheapestIn 32 = .ok (.istore 8, 2) := by decide +kernel
theorem dX4_cheapestIn_34 : decode cX4_cheapestIn 34 = .ok (.iload 8, 2) := by decide +kernel
theorem dX4_cheapestIn_36 : decode cX4_cheapestIn 36 = .ok (.sipush 200, 3) := by decide +kernel
theorem dX4_cheapestIn_39 : decode cX4_cheapestIn 39 = .ok (.iload 4, 2) := by decide +kernel
theorem dX4_cheapestIn_41 : decode cX4_cheapestIn 41 = .ok (.iadd, 1) := by decide +kernel
theorem dX4_cheapestIn_42 : decode cX4_cheapestIn 42 = .ok (.if_icmp .ge 113, 3) := by decide +kernel
theorem dX4_cheapestIn_45 : decode cX4_cheapestIn 45 = .ok (.iload 8, 2) := by decide +kernel
theorem dX4_cheapestIn_47 : decode cX4_cheapestIn 47 = .ok (.aload_n 0, 1) := by decide +kernel
theorem dX4_cheapestIn_48 : decode cX4_cheapestIn 48 = .ok (.getfield 18, 3) := by decide +kernel
theorem dX4_cheapestIn_51 : decode cX4_cheapestIn 51 = .ok (.arraylength, 1) := by decide +kernel
theorem dX4_cheapestIn_52 : decode cX4_cheapestIn 52 = .ok (.if_icmp .ge 103, 3) := by decide +kernel
theorem dX4_cheapestIn_55 : decode cX4_cheapestIn 55 = .ok (.aload_n 0, 1) := by decide +kernel
theorem dX4_cheapestIn_56 : decode cX4_cheapestIn 56 = .ok (.getfield 18, 3) := by decide +kernel
theorem dX4_cheapestIn_59 : decode cX4_cheapestIn 59 = .ok (.iload 8, 2) := by decide +kernel
theorem dX4_cheapestIn_61 : decode cX4_cheapestIn 61 = .ok (.aload_n 0, 1) := by decide +kernel
theorem dX4_cheapestIn_62 : decode cX4_cheapestIn 62 = .ok (.getfield 24, 3) := by decide +kernel
theorem dX4_cheapestIn_65 : decode cX4_cheapestIn 65 = .ok (.getfield 72, 3) := by decide +kernel
theorem dX4_cheapestIn_68 : decode cX4_cheapestIn 68 = .ok (.aload_n 0, 1) := by decide +kernel
theorem dX4_cheapestIn_69 : decode cX4_cheapestIn 69 = .ok (.getfield 15, 3) := by decide +kernel
theorem dX4_cheapestIn_72 : decode cX4_cheapestIn 72 = .ok (.iload 8, 2) := by decide +kernel
theorem dX4_cheapestIn_74 : decode cX4_cheapestIn 74 = .ok (.iaload, 1) := by decide +kernel
theorem dX4_cheapestIn_75 : decode cX4_cheapestIn 75 = .ok (.invokevirtual 76, 3) := by decide +kernel
theorem dX4_cheapestIn_78 : decode cX4_cheapestIn 78 = .ok (.iastore, 1) := by decide +kernel
theorem dX4_cheapestIn_79 : decode cX4_cheapestIn 79 = .ok (.iload 7, 2) := by decide +kernel
theorem dX4_cheapestIn_81 : decode cX4_cheapestIn 81 = .ok (.aload_n 0, 1) := by decide +kernel
theorem dX4_cheapestIn_82 : decode cX4_cheapestIn 82 = .ok (.getfield 18, 3) := by decide +kernel
theorem dX4_cheapestIn_85 : decode cX4_cheapestIn 85 = .ok (.iload 8, 2) := by decide +kernel
theorem dX4_cheapestIn_87 : decode cX4_cheapestIn 87 = .ok (.iaload, 1) := by decide +kernel
theorem dX4_cheapestIn_88 : decode cX4_cheapestIn 88 = .ok (.iadd, 1) := by decide +kernel
theorem dX4_cheapestIn_89 : decode cX4_cheapestIn 89 = .ok (.istore 7, 2) := by decide +kernel
theorem dX4_cheapestIn_91 : decode cX4_cheapestIn 91 = .ok (.iload 8, 2) := by decide +kernel
theorem dX4_cheapestIn_93 : decode cX4_cheapestIn 93 = .ok (.iload 4, 2) := by decide +kernel
theorem dX4_cheapestIn_95 : decode cX4_cheapestIn 95 = .ok (.if_icmp .lt 18, 3) := by decide +kernel
theorem dX4_cheapestIn_98 : decode cX4_cheapestIn 98 = .ok (.iload 7, 2) := by decide +kernel
theorem dX4_cheapestIn_100 : decode cX4_cheapestIn 100 = .ok (.aload_n 0, 1) := by decide +kernel
theorem dX4_cheapestIn_101 : decode cX4_cheapestIn 101 = .ok (.getfield 18, 3) := by decide +kernel
theorem dX4_cheapestIn_104 : decode cX4_cheapestIn 104 = .ok (.iload 8, 2) := by decide +kernel
theorem dX4_cheapestIn_106 : decode cX4_cheapestIn 106 = .ok (.iload 4, 2) := by decide +kernel
theorem dX4_cheapestIn_108 : decode cX4_cheapestIn 108 = .ok (.isub, 1) := by decide +kernel
theorem dX4_cheapestIn_109 : decode cX4_cheapestIn 109 = .ok (.iaload, 1) := by decide +kernel
theorem dX4_cheapestIn_110 : decode cX4_cheapestIn 110 = .ok (.isub, 1) := by decide +kernel
theorem dX4_cheapestIn_111 : decode cX4_cheapestIn 111 = .ok (.istore 7, 2) := by decide +kernel
theorem dX4_cheapestIn_113 : decode cX4_cheapestIn 113 = .ok (.iload 8, 2) := by decide +kernel
theorem dX4_cheapestIn_115 : decode cX4_cheapestIn 115 = .ok (.iload 4, 2) := by decide +kernel
theorem dX4_cheapestIn_117 : decode cX4_cheapestIn 117 = .ok (.iconst 1, 1) := by decide +kernel
theorem dX4_cheapestIn_118 : decode cX4_cheapestIn 118 = .ok (.isub, 1) := by decide +kernel
theorem dX4_cheapestIn_119 : decode cX4_cheapestIn 119 = .ok (.if_icmp .eq 17, 3) := by decide +kernel
theorem dX4_cheapestIn_122 : decode cX4_cheapestIn 122 = .ok (.iload 8, 2) := by decide +kernel
theorem dX4_cheapestIn_124 : decode cX4_cheapestIn 124 = .ok (.iload 4, 2) := by decide +kernel
theorem dX4_cheapestIn_126 : decode cX4_cheapestIn 126 = .ok (.if_icmp .lt 23, 3) := by decide +kernel
theorem dX4_cheapestIn_129 : decode cX4_cheapestIn 129 = .ok (.iload 7, 2) := by decide +kernel
theorem dX4_cheapestIn_131 : decode cX4_cheapestIn 131 = .ok (.iload 6, 2) := by decide +kernel
theorem dX4_cheapestIn_133 : decode cX4_cheapestIn 133 = .ok (.if_icmp .ge 16, 3) := by decide +kernel
theorem dX4_cheapestIn_136 : decode cX4_cheapestIn 136 = .ok (.iload 7, 2) := by decide +kernel
theorem dX4_cheapestIn_138 : decode cX4_cheapestIn 138 = .ok (.istore 6, 2) := by decide +kernel
theorem dX4_cheapestIn_140 : decode cX4_cheapestIn 140 = .ok (.iload 8, 2) := by decide +kernel
theorem dX4_cheapestIn_142 : decode cX4_cheapestIn 142 = .ok (.iconst 1, 1) := by decide +kernel
theorem dX4_cheapestIn_143 : decode cX4_cheapestIn 143 = .ok (.iadd, 1) := by decide +kernel
theorem dX4_cheapestIn_144 : decode cX4_cheapestIn 144 = .ok (.iload 4, 2) := by decide +kernel
theorem dX4_cheapestIn_146 : decode cX4_cheapestIn 146 = .ok (.isub, 1) := by decide +kernel
theorem dX4_cheapestIn_147 : decode cX4_cheapestIn 147 = .ok (.istore 5, 2) := by decide +kernel
theorem dX4_cheapestIn_149 : decode cX4_cheapestIn 149 = .ok (.iinc 8 1, 3) := by decide +kernel
theorem dX4_cheapestIn_152 : decode cX4_cheapestIn 152 = .ok (.goto (-118), 3) := by decide +kernel
theorem dX4_cheapestIn_155 : decode cX4_cheapestIn 155 = .ok (.iload 5, 2) := by decide +kernel
theorem dX4_cheapestIn_157 : decode cX4_cheapestIn 157 = .ok (.ireturn, 1) := by decide +kernel
theorem dX4_manyFree_0 : decode cX4_manyFree 0 = .ok (.aload_n 0, 1) := by decide +kernel
theorem dX4_manyFree_1 : decode cX4_manyFree 1 = .ok (.iload_n 1, 1) := by decide +kernel
theorem dX4_manyFree_2 : decode cX4_manyFree 2 = .ok (.iload_n 2, 1) := by decide +kernel
theorem dX4_manyFree_3 : decode cX4_manyFree 3 = .ok (.iload_n 3, 1) := by decide +kernel
theorem dX4_manyFree_4 : decode cX4_manyFree 4 = .ok (.invokevirtual 66, 3) := by decide +kernel
theorem dX4_manyFree_7 : decode cX4_manyFree 7 = .ok (.iconst 0, 1) := by decide +kernel
theorem dX4_manyFree_8 : decode cX4_manyFree 8 = .ok (.istore 4, 2) := by decide +kernel
theorem dX4_manyFree_10 : decode cX4_manyFree 10 = .ok (.iconst 0, 1) := by decide +kernel
theorem dX4_manyFree_11 : decode cX4_manyFree 11 = .ok (.istore 5, 2) := by decide +kernel
theorem dX4_manyFree_13 : decode cX4_manyFree 13 = .ok (.iload 5, 2) := by decide +kernel
theorem dX4_manyFree_15 : decode cX4_manyFree 15 = .ok (.iload_n 3, 1) := by decide +kernel
theorem dX4_manyFree_16 : decode cX4_manyFree 16 = .ok (.if_icmp .ge 32, 3) := by decide +kernel
theorem dX4_manyFree_19 : decode cX4_manyFree 19 = .ok (.iload 5, 2) := by decide +kernel
theorem dX4_manyFree_21 : decode cX4_manyFree 21 = .ok (.aload_n 0, 1) := by decide +kernel
theorem dX4_manyFree_22 : decode cX4_manyFree 22 = .ok (.getfield 15, 3) := by decide +kernel
theorem dX4_manyFree_25 : decode cX4_manyFree 25 = .ok (.arraylength, 1) := by decide +kernel
theorem dX4_manyFree_26 : decode cX4_manyFree 26 = .ok (.if_icmp .ge 22, 3) := by decide +kernel
theorem dX4_manyFree_29 : decode cX4_manyFree 29 = .ok (.aload_n 0, 1) := by decide +kernel
theorem dX4_manyFree_30 : decode cX4_manyFree 30 = .ok (.getfield 15, 3) := by decide +kernel
theorem dX4_manyFree_33 : decode cX4_manyFree 33 = .ok (.iload 5, 2) := by decide +kernel
theorem dX4_manyFree_35 : decode cX4_manyFree 35 = .ok (.iaload, 1) := by decide +kernel
theorem dX4_manyFree_36 : decode cX4_manyFree 36 = .ok (.ifCond .ne 6, 3) := by decide +kernel
theorem dX4_manyFree_39 : decode cX4_manyFree 39 = .ok (.iinc 4 1, 3) := by decide +kernel
theorem dX4_manyFree_42 : decode cX4_manyFree 42 = .ok (.iinc 5 1, 3) := by decide +kernel
theorem dX4_manyFree_45 : decode cX4_manyFree 45 = .ok (.goto (-32), 3) := by decide +kernel
theorem dX4_manyFree_48 : decode cX4_manyFree 48 = .ok (.iload 4, 2) := by decide +kernel
theorem dX4_manyFree_50 : decode cX4_manyFree 50 = .ok (.ireturn, 1) := by decide +kernel
theorem dX4_longestFree_0 : decode cX4_longestFree 0 = .ok (.aload_n 0, 1) := by decide +kernel
theorem dX4_longestFree_1 : decode cX4_longestFree 1 = .ok (.iload_n 1, 1) := by decide +kernel
theorem dX4_longestFree_2 : decode cX4_longestFree 2 = .ok (.iload_n 2, 1) := by decide +kernel
theorem dX4_longestFree_3 : decode cX4_longestFree 3 = .ok (.iload_n 3, 1) := by decide +kernel
theorem dX4_longestFree_4 : decode cX4_longestFree 4 = .ok (.invokevirtual 66, 3) := by decide +kernel
theorem dX4_longestFree_7 : decode cX4_longestFree 7 = .ok (.iconst 0, 1) := by decide +kernel
theorem dX4_longestFree_8 : decode cX4_longestFree 8 = .ok (.istore 5, 2) := by decide +kernel
theorem dX4_longestFree_10 : decode cX4_longestFree 10 = .ok (.iconst (-1), 1) := by decide +kernel
theorem dX4_longestFree_11 : decode cX4_longestFree 11 = .ok (.istore 6, 2) := by decide +kernel
theorem dX4_longestFree_13 : decode cX4_longestFree 13 = .ok (.iconst 0, 1) := by decide +kernel
theorem dX4_longestFree_14 : decode cX4_longestFree 14 = .ok (.istore 7, 2) := by decide +kernel
theorem dX4_longestFree_16 : decode cX4_longestFree 16 = .ok (.iconst 0, 1) := by decide +kernel
theorem dX4_longestFree_17 : decode cX4_longestFree 17 = .ok (.istore 8, 2) := by decide +kernel
theorem dX4_longestFree_19 : decode cX4_longestFree 19 = .ok (.iload 8, 2) := by decide +kernel
theorem dX4_longestFree_21 : decode cX4_longestFree 21 = .ok (.iload_n 3, 1) := by decide +kernel
theorem dX4_longestFree_22 : decode cX4_longestFree 22 = .ok (.if_icmp .ge 59, 3) := by decide +kernel
theorem dX4_longestFree_25 : decode cX4_longestFree 25 = .ok (.iload 8, 2) := by decide +kernel
theorem dX4_longestFree_27 : decode cX4_longestFree 27 = .ok (.aload_n 0, 1) := by decide +kernel
theorem dX4_longestFree_28 : decode cX4_longestFree 28 = .ok (.getfield 15, 3) := by decide +kernel
theorem dX4_longestFree_31 : decode cX4_longestFree 31 = .ok (.arraylength, 1) := by decide +kernel
theorem dX4_longestFree_32 : decode cX4_longestFree 32 = .ok (.if_icmp .ge 49, 3) := by decide +kernel
theorem dX4_longestFree_35 : decode cX4_longestFree 35 = .ok (.aload_n 0, 1) := by decide +kernel
theorem dX4_longestFree_36 : decode cX4_longestFree 36 = .ok (.getfield 15, 3) := by decide +kernel
theorem dX4_longestFree_39 : decode cX4_longestFree 39 = .ok (.iload 8, 2) := by decide +kernel
theorem dX4_longestFree_41 : decode cX4_longestFree 41 = .ok (.iaload, 1) := by decide +kernel
theorem dX4_longestFree_42 : decode cX4_longestFree 42 = .ok (.ifCond .ne 10, 3) := by decide +kernel
theorem dX4_longestFree_45 : decode cX4_longestFree 45 = .ok (.iload 7, 2) := by decide +kernel
theorem dX4_longestFree_47 : decode cX4_longestFree 47 = .ok (.iconst 1, 1) := by decide +kernel
theorem dX4_longestFree_48 : decode cX4_longestFree 48 = .ok (.iadd, 1) := by decide +kernel
theorem dX4_longestFree_49 : decode cX4_longestFree 49 = .ok (.goto 4, 3) := by decide +kernel
theorem dX4_longestFree_52 : decode cX4_longestFree 52 = .ok (.iconst 0, 1) := by decide +kernel
theorem dX4_longestFree_53 : decode cX4_longestFree 53 = .ok (.istore 7, 2) := by decide +kernel
theorem dX4_longestFree_55 : decode cX4_longestFree 55 = .ok (.iload 7, 2) := by decide +kernel
theorem dX4_longestFree_57 : decode cX4_longestFree 57 = .ok (.iload 5, 2) := by decide +kernel
theorem dX4_longestFree_59 : decode cX4_longestFree 59 = .ok (.if_icmp .le 16, 3) := by decide +kernel
theorem dX4_longestFree_62 : decode cX4_longestFree 62 = .ok (.iload 7, 2) := by decide +kernel
theorem dX4_longestFree_64 : decode cX4_longestFree 64 = .ok (.istore 5, 2) := by decide +kernel
theorem dX4_longestFree_66 : decode cX4_longestFree 66 = .ok (.iload 8, 2) := by decide +kernel
theorem dX4_longestFree_68 : decode cX4_longestFree 68 = .ok (.iconst 1, 1) := by decide +kernel
theorem dX4_longestFree_69 : decode cX4_longestFree 69 = .ok (.iadd, 1) := by decide +kernel
theorem dX4_longestFree_70 : decode cX4_longestFree 70 = .ok (.iload 7, 2) := by decide +kernel
theorem dX4_longestFree_72 : decode cX4_longestFree 72 = .ok (.isub, 1) := by decide +kernel
theorem dX4_longestFree_73 : decode cX4_longestFree 73 = .ok (.istore 6, 2) := by decide +kernel
theorem dX4_longestFree_75 : decode cX4_longestFree 75 = .ok (.iinc 8 1, 3) := by decide +kernel
theorem dX4_longestFree_78 : decode cX4_longestFree 78 = .ok (.goto (-59), 3) := by decide +kernel
theorem dX4_longestFree_81 : decode cX4_longestFree 81 = .ok (.iload 4, 2) := by decide +kernel
theorem dX4_longestFree_83 : decode cX4_longestFree 83 = .ok (.ifCond .eq 8, 3) := by decide +kernel
theorem dX4_longestFree_86 : decode cX4_longestFree 86 = .ok (.iload 5, 2) := by decide +kernel
theorem dX4_longestFree_88 : decode cX4_longestFree 88 = .ok (.goto 5, 3) := by decide +kernel
theorem dX4_longestFree_91 : decode cX4_longestFree 91 = .ok (.iload 6, 2) := by decide +kernel
theorem dX4_longestFree_93 : decode cX4_longestFree 93 = .ok (.ireturn, 1) := by decide +kernel
theorem dX4_heatIn_0 : decode cX4_heatIn 0 = .ok (.aload_n 0, 1) := by decide +kernel
theorem dX4_heatIn_1 : decode cX4_heatIn 1 = .ok (.getfield 24, 3) := by decide +kernel
theorem dX4_heatIn_4 : decode cX4_heatIn 4 = .ok (.iload 4, 2) := by decide +kernel
theorem dX4_heatIn_6 : decode cX4_heatIn 6 = .ok (.invokevirtual 59, 3) := by decide +kernel
theorem dX4_heatIn_9 : decode cX4_heatIn 9 = .ok (.istore 5, 2) := by decide +kernel
theorem dX4_heatIn_11 : decode cX4_heatIn 11 = .ok (.aload_n 0, 1) := by decide +kernel
theorem dX4_heatIn_12 : decode cX4_heatIn 12 = .ok (.iload_n 2, 1) := by decide +kernel
theorem dX4_heatIn_13 : decode cX4_heatIn 13 = .ok (.iload_n 3, 1) := by decide +kernel
theorem dX4_heatIn_14 : decode cX4_heatIn 14 = .ok (.iload 5, 2) := by decide +kernel
theorem dX4_heatIn_16 : decode cX4_heatIn 16 = .ok (.invokevirtual 51, 3) := by decide +kernel
theorem dX4_heatIn_19 : decode cX4_heatIn 19 = .ok (.iconst 0, 1) := by decide +kernel
theorem dX4_heatIn_20 : decode cX4_heatIn 20 = .ok (.istore 6, 2) := by decide +kernel
theorem dX4_heatIn_22 : decode cX4_heatIn 22 = .ok (.iload 6, 2) := by decide +kernel
theorem dX4_heatIn_24 : decode cX4_heatIn 24 = .ok (.bipush 60, 2) := by decide +kernel
theorem dX4_heatIn_26 : decode cX4_heatIn 26 = .ok (.if_icmp .gt 57, 3) := by decide +kernel
theorem dX4_heatIn_29 : decode cX4_heatIn 29 = .ok (.aload_n 0, 1) := by decide +kernel
theorem dX4_heatIn_30 : decode cX4_heatIn 30 = .ok (.iload_n 1, 1) := by decide +kernel
theorem dX4_heatIn_31 : decode cX4_heatIn 31 = .ok (.iload_n 2, 1) := by decide +kernel
theorem dX4_heatIn_32 : decode cX4_heatIn 32 = .ok (.iload_n 3, 1) := by decide +kernel
theorem dX4_heatIn_33 : decode cX4_heatIn 33 = .ok (.iload 5, 2) := by decide +kernel
theorem dX4_heatIn_35 : decode cX4_heatIn 35 = .ok (.iload 6, 2) := by decide +kernel
theorem dX4_heatIn_37 : decode cX4_heatIn 37 = .ok (.invokevirtual 55, 3) := by decide +kernel
theorem dX4_heatIn_40 : decode cX4_heatIn 40 = .ok (.aload_n 0, 1) := by decide +kernel
theorem dX4_heatIn_41 : decode cX4_heatIn 41 = .ok (.iload 5, 2) := by decide +kernel
theorem dX4_heatIn_43 : decode cX4_heatIn 43 = .ok (.invokevirtual 62, 3) := by decide +kernel
theorem dX4_heatIn_46 : decode cX4_heatIn 46 = .ok (.ifCond .eq 6, 3) := by decide +kernel
theorem dX4_heatIn_49 : decode cX4_heatIn 49 = .ok (.iload 6, 2) := by decide +kernel
theorem dX4_heatIn_51 : decode cX4_heatIn 51 = .ok (.ireturn, 1) := by decide +kernel
theorem dX4_heatIn_52 : decode cX4_heatIn 52 = .ok (.aload_n 0, 1) := by decide +kernel
theorem dX4_heatIn_53 : decode cX4_heatIn 53 = .ok (.iload_n 1, 1) := by decide +kernel
theorem dX4_heatIn_54 : decode cX4_heatIn 54 = .ok (.iload_n 2, 1) := by decide +kernel
theorem dX4_heatIn_55 : decode cX4_heatIn 55 = .ok (.iload_n 3, 1) := by decide +kernel
theorem dX4_heatIn_56 : decode cX4_heatIn 56 = .ok (.iload 5, 2) := by decide +kernel
theorem dX4_heatIn_58 : decode cX4_heatIn 58 = .ok (.iload 6, 2) := by decide +kernel
theorem dX4_heatIn_60 : decode cX4_heatIn 60 = .ok (.ineg, 1) := by decide +kernel
theorem dX4_heatIn_61 : decode cX4_heatIn 61 = .ok (.invokevirtual 55, 3) := by decide +kernel
theorem dX4_heatIn_64 : decode cX4_heatIn 64 = .ok (.aload_n 0, 1) := by decide +kernel
theorem dX4_heatIn_65 : decode cX4_heatIn 65 = .ok (.iload 5, 2) := by decide +kernel
theorem dX4_heatIn_67 : decode cX4_heatIn 67 = .ok (.invokevirtual 62, 3) := by decide +kernel
theorem dX4_heatIn_70 : decode cX4_heatIn 70 = .ok (.ifCond .eq 7, 3) := by decide +kernel
theorem dX4_heatIn_73 : decode cX4_heatIn 73 = .ok (.iload 6, 2) := by decide +kernel
theorem dX4_heatIn_75 : decode cX4_heatIn 75 = .ok (.ineg, 1) := by decide +kernel
theorem dX4_heatIn_76 : decode cX4_heatIn 76 = .ok (.ireturn, 1) := by decide +kernel
theorem dX4_heatIn_77 : decode cX4_heatIn 77 = .ok (.iinc 6 1, 3) := by decide +kernel
theorem dX4_heatIn_80 : decode cX4_heatIn 80 = .ok (.goto (-58), 3) := by decide +kernel
theorem dX4_heatIn_83 : decode cX4_heatIn 83 = .ok (.bipush 99, 2) := by decide +kernel
theorem dX4_heatIn_85 : decode cX4_heatIn 85 = .ok (.ireturn, 1) := by decide +kernel
theorem dX4_leastHeated_0 : decode cX4_leastHeated 0 = .ok (.aload_n 0, 1) := by decide +kernel
theorem dX4_leastHeated_1 : decode cX4_leastHeated 1 = .ok (.getfield 24, 3) := by decide +kernel
theorem dX4_leastHeated_4 : decode cX4_leastHeated 4 = .ok (.iload_n 3, 1) := by decide +kernel
theorem dX4_leastHeated_5 : decode cX4_leastHeated 5 = .ok (.invokevirtual 59, 3) := by decide +kernel
theorem dX4_leastHeated_8 : decode cX4_leastHeated 8 = .ok (.istore 4, 2) := by decide +kernel
theorem dX4_leastHeated_10 : decode cX4_leastHeated 10 = .ok (.aload_n 0, 1) := by decide +kernel
theorem dX4_leastHeated_11 : decode cX4_leastHeated 11 = .ok (.iload_n 2, 1) := by decide +kernel
theorem dX4_leastHeated_12 : decode cX4_leastHeated 12 = .ok (.iconst 0, 1) := by decide +kernel
theorem dX4_leastHeated_13 : decode cX4_leastHeated 13 = .ok (.sipush 200, 3) := by decide +kernel
theorem dX4_leastHeated_16 : decode cX4_leastHeated 16 = .ok (.iload 4, 2) := by decide +kernel
theorem dX4_leastHeated_18 : decode cX4_leastHeated 18 = .ok (.iadd, 1) := by decide +kernel
theorem dX4_leastHeated_19 : decode cX4_leastHeated 19 = .ok (.invokevirtual 51, 3) := by decide +kernel
theorem dX4_leastHeated_22 : decode cX4_leastHeated 22 = .ok (.aload_n 0, 1) := by decide +kernel
theorem dX4_leastHeated_23 : decode cX4_leastHeated 23 = .ok (.getfield 21, 3) := by decide +kernel
theorem dX4_leastHeated_26 : decode cX4_leastHeated 26 = .ok (.iconst (-1), 1) := by decide +kernel
theorem dX4_leastHeated_27 : decode cX4_leastHeated 27 = .ok (.invokestatic 81, 3) := by decide +kernel
theorem dX4_leastHeated_30 : decode cX4_leastHeated 30 = .ok (.iconst 0, 1) := by decide +kernel
theorem dX4_leastHeated_31 : decode cX4_leastHeated 31 = .ok (.istore 5, 2) := by decide +kernel
theorem dX4_leastHeated_33 : decode cX4_leastHeated 33 = .ok (.iload 5, 2) := by decide +kernel
theorem dX4_leastHeated_35 : decode cX4_leastHeated 35 = .ok (.bipush 60, 2) := by decide +kernel
theorem dX4_leastHeated_37 : decode cX4_leastHeated 37 = .ok (.if_icmp .gt 94, 3) := by decide +kernel
theorem dX4_leastHeated_40 : decode cX4_leastHeated 40 = .ok (.aload_n 0, 1) := by decide +kernel
theorem dX4_leastHeated_41 : decode cX4_leastHeated 41 = .ok (.iload_n 1, 1) := by decide +kernel
theorem dX4_leastHeated_42 : decode cX4_leastHeated 42 = .ok (.iload_n 2, 1) := by decide +kernel
theorem dX4_leastHeated_43 : decode cX4_leastHeated 43 = .ok (.sipush 200, 3) := by decide +kernel
theorem dX4_leastHeated_46 : decode cX4_leastHeated 46 = .ok (.iload 4, 2) := by decide +kernel
theorem dX4_leastHeated_48 : decode cX4_leastHeated 48 = .ok (.iadd, 1) := by decide +kernel
theorem dX4_leastHeated_49 : decode cX4_leastHeated 49 = .ok (.iload 5, 2) := by decide +kernel
theorem dX4_leastHeated_51 : decode cX4_leastHeated 51 = .ok (.invokevirtual 87, 3) := by decide +kernel
theorem dX4_leastHeated_54 : decode cX4_leastHeated 54 = .ok (.aload_n 0, 1) := by decide +kernel
theorem dX4_leastHeated_55 : decode cX4_leastHeated 55 = .ok (.iload 4, 2) := by decide +kernel
theorem dX4_leastHeated_57 : decode cX4_leastHeated 57 = .ok (.invokevirtual 69, 3) := by decide +kernel
theorem dX4_leastHeated_60 : decode cX4_leastHeated 60 = .ok (.istore 6, 2) := by decide +kernel
theorem dX4_leastHeated_62 : decode cX4_leastHeated 62 = .ok (.aload_n 0, 1) := by decide +kernel
theorem dX4_leastHeated_63 : decode cX4_leastHeated 63 = .ok (.iload_n 1, 1) := by decide +kernel
theorem dX4_leastHeated_64 : decode cX4_leastHeated 64 = .ok (.iload_n 2, 1) := by decide +kernel
theorem dX4_leastHeated_65 : decode cX4_leastHeated 65 = .ok (.sipush 200, 3) := by decide +kernel
theorem dX4_leastHeated_68 : decode cX4_leastHeated 68 = .ok (.iload 4, 2) := by decide +kernel
theorem dX4_leastHeated_70 : decode cX4_leastHeated 70 = .ok (.iadd, 1) := by decide +kernel
theorem dX4_leastHeated_71 : decode cX4_leastHeated 71 = .ok (.iload 5, 2) := by decide +kernel
theorem dX4_leastHeated_73 : decode cX4_leastHeated 73 = .ok (.ineg, 1) := by decide +kernel
theorem dX4_leastHeated_74 : decode cX4_leastHeated 74 = .ok (.invokevirtual 87, 3) := by decide +kernel
theorem dX4_leastHeated_77 : decode cX4_leastHeated 77 = .ok (.aload_n 0, 1) := by decide +kernel
theorem dX4_leastHeated_78 : decode cX4_leastHeated 78 = .ok (.iload 4, 2) := by decide +kernel
theorem dX4_leastHeated_80 : decode cX4_leastHeated 80 = .ok (.invokevirtual 69, 3) := by decide +kernel
theorem dX4_leastHeated_83 : decode cX4_leastHeated 83 = .ok (.istore 7, 2) := by decide +kernel
theorem dX4_leastHeated_85 : decode cX4_leastHeated 85 = .ok (.iload 6, 2) := by decide +kernel
theorem dX4_leastHeated_87 : decode cX4_leastHeated 87 = .ok (.iconst (-1), 1) := by decide +kernel
theorem dX4_leastHeated_88 : decode cX4_leastHeated 88 = .ok (.if_icmp .eq 17, 3) := by decide +kernel
theorem dX4_leastHeated_91 : decode cX4_leastHeated 91 = .ok (.iload 7, 2) := by decide +kernel
theorem dX4_leastHeated_93 : decode cX4_leastHeated 93 = .ok (.iconst (-1), 1) := by decide +kernel
theorem dX4_leastHeated_94 : decode cX4_leastHeated 94 = .ok (.if_icmp .eq 11, 3) := by decide +kernel
theorem dX4_leastHeated_97 : decode cX4_leastHeated 97 = .ok (.iload 6, 2) := by decide +kernel
theorem dX4_leastHeated_99 : decode cX4_leastHeated 99 = .ok (.iload 7, 2) := by decide +kernel
theorem dX4_leastHeated_101 : decode cX4_leastHeated 101 = .ok (.invokestatic 91, 3) := by decide +kernel
theorem dX4_leastHeated_104 : decode cX4_leastHeated 104 = .ok (.ireturn, 1) := by decide +kernel
theorem dX4_leastHeated_105 : decode cX4_leastHeated 105 = .ok (.iload 6, 2) := by decide +kernel
theorem dX4_leastHeated_107 : decode cX4_leastHeated 107 = .ok (.iconst (-1), 1) := by decide +kernel
theorem dX4_leastHeated_108 : decode cX4_leastHeated 108 = .ok (.if_icmp .ne 9, 3) := by decide +kernel
theorem dX4_leastHeated_111 : decode cX4_leastHeated 111 = .ok (.iload 7, 2) := by decide +kernel
theorem dX4_leastHeated_113 : decode cX4_leastHeated 113 = .ok (.iconst (-1), 1) := by decide +kernel
theorem dX4_leastHeated_114 : decode cX4_leastHeated 114 = .ok (.if_icmp .eq 11, 3) := by decide +kernel
theorem dX4_leastHeated_117 : decode cX4_leastHeated 117 = .ok (.iload 6, 2) := by decide +kernel
theorem dX4_leastHeated_119 : decode cX4_leastHeated 119 = .ok (.iload 7, 2) := by decide +kernel
theorem dX4_leastHeated_121 : decode cX4_leastHeated 121 = .ok (.invokestatic 96, 3) := by decide +kernel
theorem dX4_leastHeated_124 : decode cX4_leastHeated 124 = .ok (.ireturn, 1) := by decide +kernel
theorem dX4_leastHeated_125 : decode cX4_leastHeated 125 = .ok (.iinc 5 1, 3) := by decide +kernel
theorem dX4_leastHeated_128 : decode cX4_leastHeated 128 = .ok (.goto (-95), 3) := by decide +kernel
theorem dX4_leastHeated_131 : decode cX4_leastHeated 131 = .ok (.iconst (-1), 1) := by decide +kernel
theorem dX4_leastHeated_132 : decode cX4_leastHeated 132 = .ok (.ireturn, 1) := by decide +kernel
theorem dX4_heaviestIn_0 : decode cX4_heaviestIn 0 = .ok (.aload_n 0, 1) := by decide +kernel
theorem dX4_heaviestIn_1 : decode cX4_heaviestIn 1 = .ok (.iload_n 1, 1) := by decide +kernel
theorem dX4_heaviestIn_2 : decode cX4_heaviestIn 2 = .ok (.iconst 0, 1) := by decide +kernel
theorem dX4_heaviestIn_3 : decode cX4_heaviestIn 3 = .ok (.bipush 24, 2) := by decide +kernel
theorem dX4_heaviestIn_5 : decode cX4_heaviestIn 5 = .ok (.invokevirtual 51, 3) := by decide +kernel
theorem dX4_heaviestIn_8 : decode cX4_heaviestIn 8 = .ok (.iconst (-1), 1) := by decide +kernel
theorem dX4_heaviestIn_9 : decode cX4_heaviestIn 9 = .ok (.istore_n 2, 1) := by decide +kernel
theorem dX4_heaviestIn_10 : decode cX4_heaviestIn 10 = .ok (.iconst 0, 1) := by decide +kernel
theorem dX4_heaviestIn_11 : decode cX4_heaviestIn 11 = .ok (.istore_n 3, 1) := by decide +kernel
theorem dX4_heaviestIn_12 : decode cX4_heaviestIn 12 = .ok (.iconst 0, 1) := by decide +kernel
theorem dX4_heaviestIn_13 : decode cX4_heaviestIn 13 = .ok (.istore 4, 2) := by decide +kernel
theorem dX4_heaviestIn_15 : decode cX4_heaviestIn 15 = .ok (.iload 4, 2) := by decide +kernel
theorem dX4_heaviestIn_17 : decode cX4_heaviestIn 17 = .ok (.aload_n 0, 1) := by decide +kernel
theorem dX4_heaviestIn_18 : decode cX4_heaviestIn 18 = .ok (.getfield 24, 3) := by decide +kernel
theorem dX4_heaviestIn_21 : decode cX4_heaviestIn 21 = .ok (.getfield 72, 3) := by decide +kernel
theorem dX4_heaviestIn_24 : decode cX4_heaviestIn 24 = .ok (.getfield 99, 3) := by decide +kernel
theorem dX4_heaviestIn_27 : decode cX4_heaviestIn 27 = .ok (.if_icmp .ge 67, 3) := by decide +kernel
theorem dX4_heaviestIn_30 : decode cX4_heaviestIn 30 = .ok (.aload_n 0, 1) := by decide +kernel
theorem dX4_heaviestIn_31 : decode cX4_heaviestIn 31 = .ok (.getfield 24, 3) := by decide +kernel
theorem dX4_heaviestIn_34 : decode cX4_heaviestIn 34 = .ok (.aload_n 0, 1) := by decide +kernel
theorem dX4_heaviestIn_35 : decode cX4_heaviestIn 35 = .ok (.getfield 24, 3) := by decide +kernel
theorem dX4_heaviestIn_38 : decode cX4_heaviestIn 38 = .ok (.getfield 72, 3) := by decide +kernel
theorem dX4_heaviestIn_41 : decode cX4_heaviestIn 41 = .ok (.getfield 103, 3) := by decide +kernel
theorem dX4_heaviestIn_44 : decode cX4_heaviestIn 44 = .ok (.iload 4, 2) := by decide +kernel
theorem dX4_heaviestIn_46 : decode cX4_heaviestIn 46 = .ok (.iaload, 1) := by decide +kernel
theorem dX4_heaviestIn_47 : decode cX4_heaviestIn 47 = .ok (.invokevirtual 37, 3) := by decide +kernel
theorem dX4_heaviestIn_50 : decode cX4_heaviestIn 50 = .ok (.istore 5, 2) := by decide +kernel
theorem dX4_heaviestIn_52 : decode cX4_heaviestIn 52 = .ok (.aload_n 0, 1) := by decide +kernel
theorem dX4_heaviestIn_53 : decode cX4_heaviestIn 53 = .ok (.iload 5, 2) := by decide +kernel
theorem dX4_heaviestIn_55 : decode cX4_heaviestIn 55 = .ok (.iload_n 1, 1) := by decide +kernel
theorem dX4_heaviestIn_56 : decode cX4_heaviestIn 56 = .ok (.invokevirtual 106, 3) := by decide +kernel
theorem dX4_heaviestIn_59 : decode cX4_heaviestIn 59 = .ok (.aload_n 0, 1) := by decide +kernel
theorem dX4_heaviestIn_60 : decode cX4_heaviestIn 60 = .ok (.iload 5, 2) := by decide +kernel
theorem dX4_heaviestIn_62 : decode cX4_heaviestIn 62 = .ok (.iconst 1, 1) := by decide +kernel
theorem dX4_heaviestIn_63 : decode cX4_heaviestIn 63 = .ok (.iload 4, 2) := by decide +kernel
theorem dX4_heaviestIn_65 : decode cX4_heaviestIn 65 = .ok (.ishl, 1) := by decide +kernel
theorem dX4_heaviestIn_66 : decode cX4_heaviestIn 66 = .ok (.iconst (-1), 1) := by decide +kernel
theorem dX4_heaviestIn_67 : decode cX4_heaviestIn 67 = .ok (.ixor, 1) := by decide +kernel
theorem dX4_heaviestIn_68 : decode cX4_heaviestIn 68 = .ok (.iand, 1) := by decide +kernel
theorem dX4_heaviestIn_69 : decode cX4_heaviestIn 69 = .ok (.iload_n 1, 1) := by decide +kernel
theorem dX4_heaviestIn_70 : decode cX4_heaviestIn 70 = .ok (.invokevirtual 106, 3) := by decide +kernel
theorem dX4_heaviestIn_73 : decode cX4_heaviestIn 73 = .ok (.isub, 1) := by decide +kernel
theorem dX4_heaviestIn_74 : decode cX4_heaviestIn 74 = .ok (.istore 6, 2) := by decide +kernel
theorem dX4_heaviestIn_76 : decode cX4_heaviestIn 76 = .ok (.iload 6, 2) := by decide +kernel
theorem dX4_heaviestIn_78 : decode cX4_heaviestIn 78 = .ok (.iload_n 3, 1) := by decide +kernel
theorem dX4_heaviestIn_79 : decode cX4_heaviestIn 79 = .ok (.if_icmp .le 9, 3) := by decide +kernel
theorem dX4_heaviestIn_82 : decode cX4_heaviestIn 82 = .ok (.iload 6, 2) := by decide +kernel
theorem dX4_heaviestIn_84 : decode cX4_heaviestIn 84 = .ok (.istore_n 3, 1) := by decide +kernel
theorem dX4_heaviestIn_85 : decode cX4_heaviestIn 85 = .ok (.iload 4, 2) := by decide +kernel
theorem dX4_heaviestIn_87 : decode cX4_heaviestIn 87 = .ok (.istore_n 2, 1) := by decide +kernel
theorem dX4_heaviestIn_88 : decode cX4_heaviestIn 88 = .ok (.iinc 4 1, 3) := by decide +kernel
theorem dX4_heaviestIn_91 : decode cX4_heaviestIn 91 = .ok (.goto (-76), 3) := by decide +kernel
theorem dX4_heaviestIn_94 : decode cX4_heaviestIn 94 = .ok (.iload_n 2, 1) := by decide +kernel
theorem dX4_heaviestIn_95 : decode cX4_heaviestIn 95 = .ok (.ireturn, 1) := by decide +kernel
theorem dX4_barredHours_0 : decode cX4_barredHours 0 = .ok (.iconst 0, 1) := by decide +kernel
theorem dX4_barredHours_1 : decode cX4_barredHours 1 = .ok (.istore_n 3, 1) := by decide +kernel
theorem dX4_barredHours_2 : decode cX4_barredHours 2 = .ok (.iconst 0, 1) := by decide +kernel
theorem dX4_barredHours_3 : decode cX4_barredHours 3 = .ok (.istore 4, 2) := by decide +kernel
theorem dX4_barredHours_5 : decode cX4_barredHours 5 = .ok (.iload 4, 2) := by decide +kernel
theorem dX4_barredHours_7 : decode cX4_barredHours 7 = .ok (.bipush 24, 2) := by decide +kernel
theorem dX4_barredHours_9 : decode cX4_barredHours 9 = .ok (.if_icmp .ge 43, 3) := by decide +kernel
theorem dX4_barredHours_12 : decode cX4_barredHours 12 = .ok (.aload_n 0, 1) := by decide +kernel
theorem dX4_barredHours_13 : decode cX4_barredHours 13 = .ok (.getfield 24, 3) := by decide +kernel
theorem dX4_barredHours_16 : decode cX4_barredHours 16 = .ok (.iload_n 2, 1) := by decide +kernel
theorem dX4_barredHours_17 : decode cX4_barredHours 17 = .ok (.aload_n 0, 1) := by decide +kernel
theorem dX4_barredHours_18 : decode cX4_barredHours 18 = .ok (.getfield 24, 3) := by decide +kernel
theorem dX4_barredHours_21 : decode cX4_barredHours 21 = .ok (.getfield 28, 3) := by decide +kernel
theorem dX4_barredHours_24 : decode cX4_barredHours 24 = .ok (.iconst 0, 1) := by decide +kernel
theorem dX4_barredHours_25 : decode cX4_barredHours 25 = .ok (.iaload, 1) := by decide +kernel
theorem dX4_barredHours_26 : decode cX4_barredHours 26 = .ok (.iload 4, 2) := by decide +kernel
theorem dX4_barredHours_28 : decode cX4_barredHours 28 = .ok (.iadd, 1) := by decide +kernel
theorem dX4_barredHours_29 : decode cX4_barredHours 29 = .ok (.aload_n 0, 1) := by decide +kernel
theorem dX4_barredHours_30 : decode cX4_barredHours 30 = .ok (.getfield 9, 3) := by decide +kernel
theorem dX4_barredHours_33 : decode cX4_barredHours 33 = .ok (.iload 4, 2) := by decide +kernel
theorem dX4_barredHours_35 : decode cX4_barredHours 35 = .ok (.iaload, 1) := by decide +kernel
theorem dX4_barredHours_36 : decode cX4_barredHours 36 = .ok (.iload_n 1, 1) := by decide +kernel
theorem dX4_barredHours_37 : decode cX4_barredHours 37 = .ok (.invokevirtual 44, 3) := by decide +kernel
theorem dX4_barredHours_40 : decode cX4_barredHours 40 = .ok (.ifCond .eq 6, 3) := by decide +kernel
theorem dX4_barredHours_43 : decode cX4_barredHours 43 = .ok (.iinc 3 1, 3) := by decide +kernel
theorem dX4_barredHours_46 : decode cX4_barredHours 46 = .ok (.iinc 4 1, 3) := by decide +kernel
theorem dX4_barredHours_49 : decode cX4_barredHours 49 = .ok (.goto (-44), 3) := by decide +kernel
theorem dX4_barredHours_52 : decode cX4_barredHours 52 = .ok (.iload_n 3, 1) := by decide +kernel
theorem dX4_barredHours_53 : decode cX4_barredHours 53 = .ok (.ireturn, 1) := by decide +kernel
theorem dX4_coverIn_0 : decode cX4_coverIn 0 = .ok (.aload_n 0, 1) := by decide +kernel
theorem dX4_coverIn_1 : decode cX4_coverIn 1 = .ok (.getfield 24, 3) := by decide +kernel
theorem dX4_coverIn_4 : decode cX4_coverIn 4 = .ok (.iload_n 1, 1) := by decide +kernel
theorem dX4_coverIn_5 : decode cX4_coverIn 5 = .ok (.invokevirtual 37, 3) := by decide +kernel
theorem dX4_coverIn_8 : decode cX4_coverIn 8 = .ok (.istore_n 3, 1) := by decide +kernel
theorem dX4_coverIn_9 : decode cX4_coverIn 9 = .ok (.aload_n 0, 1) := by decide +kernel
theorem dX4_coverIn_10 : decode cX4_coverIn 10 = .ok (.iload_n 2, 1) := by decide +kernel
theorem dX4_coverIn_11 : decode cX4_coverIn 11 = .ok (.iconst 0, 1) := by decide +kernel
theorem dX4_coverIn_12 : decode cX4_coverIn 12 = .ok (.bipush 24, 2) := by decide +kernel
theorem dX4_coverIn_14 : decode cX4_coverIn 14 = .ok (.invokevirtual 51, 3) := by decide +kernel
theorem dX4_coverIn_17 : decode cX4_coverIn 17 = .ok (.iconst 0, 1) := by decide +kernel
theorem dX4_coverIn_18 : decode cX4_coverIn 18 = .ok (.istore 4, 2) := by decide +kernel
theorem dX4_coverIn_20 : decode cX4_coverIn 20 = .ok (.bipush 9, 2) := by decide +kernel
theorem dX4_coverIn_22 : decode cX4_coverIn 22 = .ok (.istore 5, 2) := by decide +kernel
theorem dX4_coverIn_24 : decode cX4_coverIn 24 = .ok (.iconst 1, 1) := by decide +kernel
theorem dX4_coverIn_25 : decode cX4_coverIn 25 = .ok (.istore 6, 2) := by decide +kernel
theorem dX4_coverIn_27 : decode cX4_coverIn 27 = .ok (.iload 6, 2) := by decide +kernel
theorem dX4_coverIn_29 : decode cX4_coverIn 29 = .ok (.iload_n 3, 1) := by decide +kernel
theorem dX4_coverIn_30 : decode cX4_coverIn 30 = .ok (.if_icmp .gt 52, 3) := by decide +kernel
theorem dX4_coverIn_33 : decode cX4_coverIn 33 = .ok (.iload 6, 2) := by decide +kernel
theorem dX4_coverIn_35 : decode cX4_coverIn 35 = .ok (.invokestatic 109, 3) := by decide +kernel
theorem dX4_coverIn_38 : decode cX4_coverIn 38 = .ok (.istore 7, 2) := by decide +kernel
theorem dX4_coverIn_40 : decode cX4_coverIn 40 = .ok (.iload 6, 2) := by decide +kernel
theorem dX4_coverIn_42 : decode cX4_coverIn 42 = .ok (.iload_n 3, 1) := by decide +kernel
theorem dX4_coverIn_43 : decode cX4_coverIn 43 = .ok (.iconst (-1), 1) := by decide +kernel
theorem dX4_coverIn_44 : decode cX4_coverIn 44 = .ok (.ixor, 1) := by decide +kernel
theorem dX4_coverIn_45 : decode cX4_coverIn 45 = .ok (.iand, 1) := by decide +kernel
theorem dX4_coverIn_46 : decode cX4_coverIn 46 = .ok (.ifCond .ne 30, 3) := by decide +kernel
theorem dX4_coverIn_49 : decode cX4_coverIn 49 = .ok (.iload 7, 2) := by decide +kernel
theorem dX4_coverIn_51 : decode cX4_coverIn 51 = .ok (.iload 5, 2) := by decide +kernel
theorem dX4_coverIn_53 : decode cX4_coverIn 53 = .ok (.if_icmp .ge 23, 3) := by decide +kernel
theorem dX4_coverIn_56 : decode cX4_coverIn 56 = .ok (.aload_n 0, 1) := by decide +kernel
theorem dX4_coverIn_57 : decode cX4_coverIn 57 = .ok (.iload 6, 2) := by decide +kernel
theorem dX4_coverIn_59 : decode cX4_coverIn 59 = .ok (.iload_n 2, 1) := by decide +kernel
theorem dX4_coverIn_60 : decode cX4_coverIn 60 = .ok (.invokevirtual 106, 3) := by decide +kernel
theorem dX4_coverIn_63 : decode cX4_coverIn 63 = .ok (.bipush 24, 2) := by decide +kernel
theorem dX4_coverIn_65 : decode cX4_coverIn 65 = .ok (.if_icmp .ne 11, 3) := by decide +kernel
theorem dX4_coverIn_68 : decode cX4_coverIn 68 = .ok (.iload 7, 2) := by decide +kernel
theorem dX4_coverIn_70 : decode cX4_coverIn 70 = .ok (.istore 5, 2) := by decide +kernel
theorem dX4_coverIn_72 : decode cX4_coverIn 72 = .ok (.iload 6, 2) := by decide +kernel
theorem dX4_coverIn_74 : decode cX4_coverIn 74 = .ok (.istore 4, 2) := by decide +kernel
theorem dX4_coverIn_76 : decode cX4_coverIn 76 = .ok (.iinc 6 1, 3) := by decide +kernel
theorem dX4_coverIn_79 : decode cX4_coverIn 79 = .ok (.goto (-52), 3) := by decide +kernel
theorem dX4_coverIn_82 : decode cX4_coverIn 82 = .ok (.iload 4, 2) := by decide +kernel
theorem dX4_coverIn_84 : decode cX4_coverIn 84 = .ok (.ireturn, 1) := by decide +kernel
theorem dX5_init_0 : decode cX5_init 0 = .ok (.aload_n 0, 1) := by decide +kernel
theorem dX5_init_1 : decode cX5_init 1 = .ok (.invokespecial 3, 3) := by decide +kernel
theorem dX5_init_4 : decode cX5_init 4 = .ok (.aload_n 0, 1) := by decide +kernel
theorem dX5_init_5 : decode cX5_init 5 = .ok (.sipush 490, 3) := by decide +kernel
theorem dX5_init_8 : decode cX5_init 8 = .ok (.newarray .int, 2) := by decide +kernel
theorem dX5_init_10 : decode cX5_init 10 = .ok (.putfield 9, 3) := by decide +kernel
theorem dX5_init_13 : decode cX5_init 13 = .ok (.aload_n 0, 1) := by decide +kernel
theorem dX5_init_14 : decode cX5_init 14 = .ok (.iconst 0, 1) := by decide +kernel
theorem dX5_init_15 : decode cX5_init 15 = .ok (.putfield 15, 3) := by decide +kernel
theorem dX5_init_18 : decode cX5_init 18 = .ok (.aload_n 0, 1) := by decide +kernel
theorem dX5_init_19 : decode cX5_init 19 = .ok (.iconst 0, 1) := by decide +kernel
theorem dX5_init_20 : decode cX5_init 20 = .ok (.putfield 19, 3) := by decide +kernel
theorem dX5_init_23 : decode cX5_init 23 = .ok (.return_, 1) := by decide +kernel
theorem dX5_keep_0 : decode cX5_keep 0 = .ok (.aload_n 1, 1) := by decide +kernel
theorem dX5_keep_1 : decode cX5_keep 1 = .ok (.iconst 0, 1) := by decide +kernel
theorem dX5_keep_2 : decode cX5_keep 2 = .ok (.aload_n 0, 1) := by decide +kernel
theorem dX5_keep_3 : decode cX5_keep 3 = .ok (.getfield 9, 3) := by decide +kernel
theorem dX5_keep_6 : decode cX5_keep 6 = .ok (.aload_n 0, 1) := by decide +kernel
theorem dX5_keep_7 : decode cX5_keep 7 = .ok (.getfield 15, 3) := by decide +kernel
theorem dX5_keep_10 : decode cX5_keep 10 = .ok (.bipush 49, 2) := by decide +kernel
theorem dX5_keep_12 : decode cX5_keep 12 = .ok (.imul, 1) := by decide +kernel
theorem dX5_keep_13 : decode cX5_keep 13 = .ok (.bipush 49, 2) := by decide +kernel
theorem dX5_keep_15 : decode cX5_keep 15 = .ok (.invokestatic 22, 3) := by decide +kernel
theorem dX5_keep_18 : decode cX5_keep 18 = .ok (.aload_n 0, 1) := by decide +kernel
theorem dX5_keep_19 : decode cX5_keep 19 = .ok (.aload_n 0, 1) := by decide +kernel
theorem dX5_keep_20 : decode cX5_keep 20 = .ok (.getfield 15, 3) := by decide +kernel
theorem dX5_keep_23 : decode cX5_keep 23 = .ok (.iconst 1, 1) := by decide +kernel
theorem dX5_keep_24 : decode cX5_keep 24 = .ok (.iadd, 1) := by decide +kernel
theorem dX5_keep_25 : decode cX5_keep 25 = .ok (.bipush 10, 2) := by decide +kernel
theorem dX5_keep_27 : decode cX5_keep 27 = .ok (.irem, 1) := by decide +kernel
theorem dX5_keep_28 : decode cX5_keep 28 = .ok (.putfield 15, 3) := by decide +kernel
theorem dX5_keep_31 : decode cX5_keep 31 = .ok (.aload_n 0, 1) := by decide +kernel
theorem dX5_keep_32 : decode cX5_keep 32 = .ok (.bipush 10, 2) := by decide +kernel
theorem dX5_keep_34 : decode cX5_keep 34 = .ok (.aload_n 0, 1) := by decide +kernel
theorem dX5_keep_35 : decode cX5_keep 35 = .ok (.getfield 19, 3) := by decide +kernel
theorem dX5_keep_38 : decode cX5_keep 38 = .ok (.iconst 1, 1) := by decide +kernel
theorem dX5_keep_39 : decode cX5_keep 39 = .ok (.iadd, 1) := by decide +kernel
theorem dX5_keep_40 : decode cX5_keep 40 = .ok (.invokestatic 28, 3) := by decide +kernel
theorem dX5_keep_43 : decode cX5_keep 43 = .ok (.putfield 19, 3) := by decide +kernel
theorem dX5_keep_46 : decode cX5_keep 46 = .ok (.return_, 1) := by decide +kernel
theorem dX5_goBack_0 : decode cX5_goBack 0 = .ok (.aload_n 0, 1) := by decide +kernel
theorem dX5_goBack_1 : decode cX5_goBack 1 = .ok (.aload_n 0, 1) := by decide +kernel
theorem dX5_goBack_2 : decode cX5_goBack 2 = .ok (.getfield 15, 3) := by decide +kernel
theorem dX5_goBack_5 : decode cX5_goBack 5 = .ok (.bipush 10, 2) := by decide +kernel
theorem dX5_goBack_7 : decode cX5_goBack 7 = .ok (.iadd, 1) := by decide +kernel
theorem dX5_goBack_8 : decode cX5_goBack 8 = .ok (.iload_n 1, 1) := by decide +kernel
theorem dX5_goBack_9 : decode cX5_goBack 9 = .ok (.isub, 1) := by decide +kernel
theorem dX5_goBack_10 : decode cX5_goBack 10 = .ok (.bipush 10, 2) := by decide +kernel
theorem dX5_goBack_12 : decode cX5_goBack 12 = .ok (.irem, 1) := by decide +kernel
theorem dX5_goBack_13 : decode cX5_goBack 13 = .ok (.putfield 15, 3) := by decide +kernel
theorem dX5_goBack_16 : decode cX5_goBack 16 = .ok (.aload_n 0, 1) := by decide +kernel
theorem dX5_goBack_17 : decode cX5_goBack 17 = .ok (.dup, 1) := by decide +kernel
theorem dX5_goBack_18 : decode cX5_goBack 18 = .ok (.getfield 19, 3) := by decide +kernel
theorem dX5_goBack_21 : decode cX5_goBack 21 = .ok (.iload_n 1, 1) := by decide +kernel
theorem dX5_goBack_22 : decode cX5_goBack 22 = .ok (.isub, 1) := by decide +kernel
theorem dX5_goBack_23 : decode cX5_goBack 23 = .ok (.putfield 19, 3) := by decide +kernel
theorem dX5_goBack_26 : decode cX5_goBack 26 = .ok (.aload_n 0, 1) := by decide +kernel
theorem dX5_goBack_27 : decode cX5_goBack 27 = .ok (.getfield 9, 3) := by decide +kernel
theorem dX5_goBack_30 : decode cX5_goBack 30 = .ok (.aload_n 0, 1) := by decide +kernel
theorem dX5_goBack_31 : decode cX5_goBack 31 = .ok (.getfield 15, 3) := by decide +kernel
theorem dX5_goBack_34 : decode cX5_goBack 34 = .ok (.bipush 49, 2) := by decide +kernel
theorem dX5_goBack_36 : decode cX5_goBack 36 = .ok (.imul, 1) := by decide +kernel
theorem dX5_goBack_37 : decode cX5_goBack 37 = .ok (.aload_n 2, 1) := by decide +kernel
theorem dX5_goBack_38 : decode cX5_goBack 38 = .ok (.iconst 0, 1) := by decide +kernel
theorem dX5_goBack_39 : decode cX5_goBack 39 = .ok (.bipush 49, 2) := by decide +kernel
theorem dX5_goBack_41 : decode cX5_goBack 41 = .ok (.invokestatic 22, 3) := by decide +kernel
theorem dX5_goBack_44 : decode cX5_goBack 44 = .ok (.return_, 1) := by decide +kernel
theorem dX5_become_0 : decode cX5_become 0 = .ok (.aload_n 1, 1) := by decide +kernel
theorem dX5_become_1 : decode cX5_become 1 = .ok (.getfield 9, 3) := by decide +kernel
theorem dX5_become_4 : decode cX5_become 4 = .ok (.iconst 0, 1) := by decide +kernel
theorem dX5_become_5 : decode cX5_become 5 = .ok (.aload_n 0, 1) := by decide +kernel
theorem dX5_become_6 : decode cX5_become 6 = .ok (.getfield 9, 3) := by decide +kernel
theorem dX5_become_9 : decode cX5_become 9 = .ok (.iconst 0, 1) := by decide +kernel
theorem dX5_become_10 : decode cX5_become 10 = .ok (.aload_n 0, 1) := by decide +kernel
theorem dX5_become_11 : decode cX5_become 11 = .ok (.getfield 9, 3) := by decide +kernel
theorem dX5_become_14 : decode cX5_become 14 = .ok (.arraylength, 1) := by decide +kernel
theorem dX5_become_15 : decode cX5_become 15 = .ok (.invokestatic 22, 3) := by decide +kernel
theorem dX5_become_18 : decode cX5_become 18 = .ok (.aload_n 0, 1) := by decide +kernel
theorem dX5_become_19 : decode cX5_become 19 = .ok (.aload_n 1, 1) := by decide +kernel
theorem dX5_become_20 : decode cX5_become 20 = .ok (.getfield 15, 3) := by decide +kernel
theorem dX5_become_23 : decode cX5_become 23 = .ok (.putfield 15, 3) := by decide +kernel
theorem dX5_become_26 : decode cX5_become 26 = .ok (.aload_n 0, 1) := by decide +kernel
theorem dX5_become_27 : decode cX5_become 27 = .ok (.aload_n 1, 1) := by decide +kernel
theorem dX5_become_28 : decode cX5_become 28 = .ok (.getfield 19, 3) := by decide +kernel
theorem dX5_become_31 : decode cX5_become 31 = .ok (.putfield 19, 3) := by decide +kernel
theorem dX5_become_34 : decode cX5_become 34 = .ok (.return_, 1) := by decide +kernel
