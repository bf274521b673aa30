/-! what stands at each place of the code -/
theorem dX11_init_0 : decode cX11_init 0 = .ok (.aload_n 0, 1) := by decide +kernel
theorem dX11_init_1 : decode cX11_init 1 = .ok (.invokespecial 3, 3) := by decide +kernel
theorem dX11_init_4 : decode cX11_init 4 = .ok (.aload_n 0, 1) := by decide +kernel
theorem dX11_init_5 : decode cX11_init 5 = .ok (.new 9, 3) := by decide +kernel
theorem dX11_init_8 : decode cX11_init 8 = .ok (.dup, 1) := by decide +kernel
theorem dX11_init_9 : decode cX11_init 9 = .ok (.invokespecial 11, 3) := by decide +kernel
theorem dX11_init_12 : decode cX11_init 12 = .ok (.putfield 12, 3) := by decide +kernel
theorem dX11_init_15 : decode cX11_init 15 = .ok (.aload_n 0, 1) := by decide +kernel
theorem dX11_init_16 : decode cX11_init 16 = .ok (.new 16, 3) := by decide +kernel
theorem dX11_init_19 : decode cX11_init 19 = .ok (.dup, 1) := by decide +kernel
theorem dX11_init_20 : decode cX11_init 20 = .ok (.invokespecial 18, 3) := by decide +kernel
theorem dX11_init_23 : decode cX11_init 23 = .ok (.putfield 19, 3) := by decide +kernel
theorem dX11_init_26 : decode cX11_init 26 = .ok (.aload_n 0, 1) := by decide +kernel
theorem dX11_init_27 : decode cX11_init 27 = .ok (.new 23, 3) := by decide +kernel
theorem dX11_init_30 : decode cX11_init 30 = .ok (.dup, 1) := by decide +kernel
theorem dX11_init_31 : decode cX11_init 31 = .ok (.invokespecial 25, 3) := by decide +kernel
theorem dX11_init_34 : decode cX11_init 34 = .ok (.putfield 26, 3) := by decide +kernel
theorem dX11_init_37 : decode cX11_init 37 = .ok (.aload_n 0, 1) := by decide +kernel
theorem dX11_init_38 : decode cX11_init 38 = .ok (.bipush 49, 2) := by decide +kernel
theorem dX11_init_40 : decode cX11_init 40 = .ok (.newarray .int, 2) := by decide +kernel
theorem dX11_init_42 : decode cX11_init 42 = .ok (.putfield 30, 3) := by decide +kernel
theorem dX11_init_45 : decode cX11_init 45 = .ok (.aload_n 0, 1) := by decide +kernel
theorem dX11_init_46 : decode cX11_init 46 = .ok (.iconst 4, 1) := by decide +kernel
theorem dX11_init_47 : decode cX11_init 47 = .ok (.anewarray 34, 3) := by decide +kernel
theorem dX11_init_50 : decode cX11_init 50 = .ok (.putfield 36, 3) := by decide +kernel
theorem dX11_init_53 : decode cX11_init 53 = .ok (.aload_n 0, 1) := by decide +kernel
theorem dX11_init_54 : decode cX11_init 54 = .ok (.iconst 3, 1) := by decide +kernel
theorem dX11_init_55 : decode cX11_init 55 = .ok (.anewarray 40, 3) := by decide +kernel
theorem dX11_init_58 : decode cX11_init 58 = .ok (.putfield 42, 3) := by decide +kernel
theorem dX11_init_61 : decode cX11_init 61 = .ok (.aload_n 0, 1) := by decide +kernel
theorem dX11_init_62 : decode cX11_init 62 = .ok (.iconst 0, 1) := by decide +kernel
theorem dX11_init_63 : decode cX11_init 63 = .ok (.putfield 46, 3) := by decide +kernel
theorem dX11_init_66 : decode cX11_init 66 = .ok (.aload_n 0, 1) := by decide +kernel
theorem dX11_init_67 : decode cX11_init 67 = .ok (.aconst_null, 1) := by decide +kernel
theorem dX11_init_68 : decode cX11_init 68 = .ok (.putfield 50, 3) := by decide +kernel
theorem dX11_init_71 : decode cX11_init 71 = .ok (.aload_n 0, 1) := by decide +kernel
theorem dX11_init_72 : decode cX11_init 72 = .ok (.aconst_null, 1) := by decide +kernel
theorem dX11_init_73 : decode cX11_init 73 = .ok (.putfield 54, 3) := by decide +kernel
theorem dX11_init_76 : decode cX11_init 76 = .ok (.aload_n 0, 1) := by decide +kernel
theorem dX11_init_77 : decode cX11_init 77 = .ok (.aconst_null, 1) := by decide +kernel
theorem dX11_init_78 : decode cX11_init 78 = .ok (.putfield 58, 3) := by decide +kernel
theorem dX11_init_81 : decode cX11_init 81 = .ok (.aload_n 0, 1) := by decide +kernel
theorem dX11_init_82 : decode cX11_init 82 = .ok (.aconst_null, 1) := by decide +kernel
theorem dX11_init_83 : decode cX11_init 83 = .ok (.putfield 62, 3) := by decide +kernel
theorem dX11_init_86 : decode cX11_init 86 = .ok (.iconst 0, 1) := by decide +kernel
theorem dX11_init_87 : decode cX11_init 87 = .ok (.istore_n 1, 1) := by decide +kernel
theorem dX11_init_88 : decode cX11_init 88 = .ok (.iload_n 1, 1) := by decide +kernel
theorem dX11_init_89 : decode cX11_init 89 = .ok (.aload_n 0, 1) := by decide +kernel
theorem dX11_init_90 : decode cX11_init 90 = .ok (.getfield 36, 3) := by decide +kernel
theorem dX11_init_93 : decode cX11_init 93 = .ok (.arraylength, 1) := by decide +kernel
theorem dX11_init_94 : decode cX11_init 94 = .ok (.if_icmp .ge 22, 3) := by decide +kernel
theorem dX11_init_97 : decode cX11_init 97 = .ok (.aload_n 0, 1) := by decide +kernel
theorem dX11_init_98 : decode cX11_init 98 = .ok (.getfield 36, 3) := by decide +kernel
theorem dX11_init_101 : decode cX11_init 101 = .ok (.iload_n 1, 1) := by decide +kernel
theorem dX11_init_102 : decode cX11_init 102 = .ok (.new 34, 3) := by decide +kernel
theorem dX11_init_105 : decode cX11_init 105 = .ok (.dup, 1) := by decide +kernel
theorem dX11_init_106 : decode cX11_init 106 = .ok (.invokespecial 66, 3) := by decide +kernel
theorem dX11_init_109 : decode cX11_init 109 = .ok (.aastore, 1) := by decide +kernel
theorem dX11_init_110 : decode cX11_init 110 = .ok (.iinc 1 1, 3) := by decide +kernel
theorem dX11_init_113 : decode cX11_init 113 = .ok (.goto (-25), 3) := by decide +kernel
theorem dX11_init_116 : decode cX11_init 116 = .ok (.return_, 1) := by decide +kernel
theorem dX11_feed_0 : decode cX11_feed 0 = .ok (.aload_n 0, 1) := by decide +kernel
theorem dX11_feed_1 : decode cX11_feed 1 = .ok (.getfield 12, 3) := by decide +kernel
theorem dX11_feed_4 : decode cX11_feed 4 = .ok (.getfield 67, 3) := by decide +kernel
theorem dX11_feed_7 : decode cX11_feed 7 = .ok (.bipush 20, 2) := by decide +kernel
theorem dX11_feed_9 : decode cX11_feed 9 = .ok (.iadd, 1) := by decide +kernel
theorem dX11_feed_10 : decode cX11_feed 10 = .ok (.sipush 900, 3) := by decide +kernel
theorem dX11_feed_13 : decode cX11_feed 13 = .ok (.if_icmp .le 5, 3) := by decide +kernel
theorem dX11_feed_16 : decode cX11_feed 16 = .ok (.iconst (-1), 1) := by decide +kernel
theorem dX11_feed_17 : decode cX11_feed 17 = .ok (.ireturn, 1) := by decide +kernel
theorem dX11_feed_18 : decode cX11_feed 18 = .ok (.aload_n 0, 1) := by decide +kernel
theorem dX11_feed_19 : decode cX11_feed 19 = .ok (.getfield 12, 3) := by decide +kernel
theorem dX11_feed_22 : decode cX11_feed 22 = .ok (.iload_n 1, 1) := by decide +kernel
theorem dX11_feed_23 : decode cX11_feed 23 = .ok (.invokevirtual 70, 3) := by decide +kernel
theorem dX11_feed_26 : decode cX11_feed 26 = .ok (.aload_n 0, 1) := by decide +kernel
theorem dX11_feed_27 : decode cX11_feed 27 = .ok (.getfield 12, 3) := by decide +kernel
theorem dX11_feed_30 : decode cX11_feed 30 = .ok (.iload_n 2, 1) := by decide +kernel
theorem dX11_feed_31 : decode cX11_feed 31 = .ok (.invokevirtual 70, 3) := by decide +kernel
theorem dX11_feed_34 : decode cX11_feed 34 = .ok (.aload_n 0, 1) := by decide +kernel
theorem dX11_feed_35 : decode cX11_feed 35 = .ok (.getfield 12, 3) := by decide +kernel
theorem dX11_feed_38 : decode cX11_feed 38 = .ok (.iload_n 3, 1) := by decide +kernel
theorem dX11_feed_39 : decode cX11_feed 39 = .ok (.invokevirtual 70, 3) := by decide +kernel
theorem dX11_feed_42 : decode cX11_feed 42 = .ok (.aload_n 0, 1) := by decide +kernel
theorem dX11_feed_43 : decode cX11_feed 43 = .ok (.getfield 12, 3) := by decide +kernel
theorem dX11_feed_46 : decode cX11_feed 46 = .ok (.iload 4, 2) := by decide +kernel
theorem dX11_feed_48 : decode cX11_feed 48 = .ok (.invokevirtual 70, 3) := by decide +kernel
theorem dX11_feed_51 : decode cX11_feed 51 = .ok (.aload_n 0, 1) := by decide +kernel
theorem dX11_feed_52 : decode cX11_feed 52 = .ok (.getfield 12, 3) := by decide +kernel
theorem dX11_feed_55 : decode cX11_feed 55 = .ok (.iload 5, 2) := by decide +kernel
theorem dX11_feed_57 : decode cX11_feed 57 = .ok (.invokevirtual 70, 3) := by decide +kernel
theorem dX11_feed_60 : decode cX11_feed 60 = .ok (.aload_n 0, 1) := by decide +kernel
theorem dX11_feed_61 : decode cX11_feed 61 = .ok (.getfield 12, 3) := by decide +kernel
theorem dX11_feed_64 : decode cX11_feed 64 = .ok (.getfield 67, 3) := by decide +kernel
theorem dX11_feed_67 : decode cX11_feed 67 = .ok (.ireturn, 1) := by decide +kernel
theorem dX11_land_0 : decode cX11_land 0 = .ok (.iload_n 1, 1) := by decide +kernel
theorem dX11_land_1 : decode cX11_land 1 = .ok (.iconst 0, 1) := by decide +kernel
theorem dX11_land_2 : decode cX11_land 2 = .ok (.aload_n 0, 1) := by decide +kernel
theorem dX11_land_3 : decode cX11_land 3 = .ok (.getfield 12, 3) := by decide +kernel
theorem dX11_land_6 : decode cX11_land 6 = .ok (.getfield 67, 3) := by decide +kernel
theorem dX11_land_9 : decode cX11_land 9 = .ok (.invokestatic 74, 3) := by decide +kernel
theorem dX11_land_12 : decode cX11_land 12 = .ok (.aload_n 0, 1) := by decide +kernel
theorem dX11_land_13 : decode cX11_land 13 = .ok (.getfield 12, 3) := by decide +kernel
theorem dX11_land_16 : decode cX11_land 16 = .ok (.iload_n 1, 1) := by decide +kernel
theorem dX11_land_17 : decode cX11_land 17 = .ok (.invokevirtual 78, 3) := by decide +kernel
theorem dX11_land_20 : decode cX11_land 20 = .ok (.astore_n 2, 1) := by decide +kernel
theorem dX11_land_21 : decode cX11_land 21 = .ok (.aload_n 0, 1) := by decide +kernel
theorem dX11_land_22 : decode cX11_land 22 = .ok (.getfield 12, 3) := by decide +kernel
theorem dX11_land_25 : decode cX11_land 25 = .ok (.iconst 0, 1) := by decide +kernel
theorem dX11_land_26 : decode cX11_land 26 = .ok (.putfield 67, 3) := by decide +kernel
theorem dX11_land_29 : decode cX11_land 29 = .ok (.aload_n 0, 1) := by decide +kernel
theorem dX11_land_30 : decode cX11_land 30 = .ok (.getfield 12, 3) := by decide +kernel
theorem dX11_land_33 : decode cX11_land 33 = .ok (.getfield 82, 3) := by decide +kernel
theorem dX11_land_36 : decode cX11_land 36 = .ok (.ifCond .eq 14, 3) := by decide +kernel
theorem dX11_land_39 : decode cX11_land 39 = .ok (.bipush (-10), 2) := by decide +kernel
theorem dX11_land_41 : decode cX11_land 41 = .ok (.aload_n 0, 1) := by decide +kernel
theorem dX11_land_42 : decode cX11_land 42 = .ok (.getfield 12, 3) := by decide +kernel
theorem dX11_land_45 : decode cX11_land 45 = .ok (.getfield 82, 3) := by decide +kernel
theorem dX11_land_48 : decode cX11_land 48 = .ok (.isub, 1) := by decide +kernel
theorem dX11_land_49 : decode cX11_land 49 = .ok (.ireturn, 1) := by decide +kernel
theorem dX11_land_50 : decode cX11_land 50 = .ok (.aload_n 0, 1) := by decide +kernel
theorem dX11_land_51 : decode cX11_land 51 = .ok (.getfield 19, 3) := by decide +kernel
theorem dX11_land_54 : decode cX11_land 54 = .ok (.aload_n 2, 1) := by decide +kernel
theorem dX11_land_55 : decode cX11_land 55 = .ok (.invokevirtual 85, 3) := by decide +kernel
theorem dX11_land_58 : decode cX11_land 58 = .ok (.aload_n 0, 1) := by decide +kernel
theorem dX11_land_59 : decode cX11_land 59 = .ok (.getfield 26, 3) := by decide +kernel
theorem dX11_land_62 : decode cX11_land 62 = .ok (.iconst 0, 1) := by decide +kernel
theorem dX11_land_63 : decode cX11_land 63 = .ok (.putfield 89, 3) := by decide +kernel
theorem dX11_land_66 : decode cX11_land 66 = .ok (.aload_n 2, 1) := by decide +kernel
theorem dX11_land_67 : decode cX11_land 67 = .ok (.getfield 92, 3) := by decide +kernel
theorem dX11_land_70 : decode cX11_land 70 = .ok (.ireturn, 1) := by decide +kernel
theorem dX11_fault_0 : decode cX11_fault 0 = .ok (.iload_n 1, 1) := by decide +kernel
theorem dX11_fault_1 : decode cX11_fault 1 = .ok (.ifCond .ne 11, 3) := by decide +kernel
theorem dX11_fault_4 : decode cX11_fault 4 = .ok (.aload_n 0, 1) := by decide +kernel
theorem dX11_fault_5 : decode cX11_fault 5 = .ok (.getfield 12, 3) := by decide +kernel
theorem dX11_fault_8 : decode cX11_fault 8 = .ok (.getfield 82, 3) := by decide +kernel
theorem dX11_fault_11 : decode cX11_fault 11 = .ok (.ireturn, 1) := by decide +kernel
theorem dX11_fault_12 : decode cX11_fault 12 = .ok (.iload_n 1, 1) := by decide +kernel
theorem dX11_fault_13 : decode cX11_fault 13 = .ok (.iconst 1, 1) := by decide +kernel
theorem dX11_fault_14 : decode cX11_fault 14 = .ok (.if_icmp .ne 13, 3) := by decide +kernel
theorem dX11_fault_17 : decode cX11_fault 17 = .ok (.aload_n 0, 1) := by decide +kernel
theorem dX11_fault_18 : decode cX11_fault 18 = .ok (.getfield 12, 3) := by decide +kernel
theorem dX11_fault_21 : decode cX11_fault 21 = .ok (.getfield 97, 3) := by decide +kernel
theorem dX11_fault_24 : decode cX11_fault 24 = .ok (.goto 4, 3) := by decide +kernel
theorem dX11_fault_27 : decode cX11_fault 27 = .ok (.iconst (-1), 1) := by decide +kernel
theorem dX11_fault_28 : decode cX11_fault 28 = .ok (.ireturn, 1) := by decide +kernel
theorem dX11_ward_0 : decode cX11_ward 0 = .ok (.aload_n 0, 1) := by decide +kernel
theorem dX11_ward_1 : decode cX11_ward 1 = .ok (.iload_n 1, 1) := by decide +kernel
theorem dX11_ward_2 : decode cX11_ward 2 = .ok (.invokevirtual 100, 3) := by decide +kernel
theorem dX11_ward_5 : decode cX11_ward 5 = .ok (.iload_n 2, 1) := by decide +kernel
theorem dX11_ward_6 : decode cX11_ward 6 = .ok (.iconst 0, 1) := by decide +kernel
theorem dX11_ward_7 : decode cX11_ward 7 = .ok (.iconst 5, 1) := by decide +kernel
theorem dX11_ward_8 : decode cX11_ward 8 = .ok (.invokestatic 74, 3) := by decide +kernel
theorem dX11_ward_11 : decode cX11_ward 11 = .ok (.aload_n 0, 1) := by decide +kernel
theorem dX11_ward_12 : decode cX11_ward 12 = .ok (.getfield 19, 3) := by decide +kernel
theorem dX11_ward_15 : decode cX11_ward 15 = .ok (.getfield 103, 3) := by decide +kernel
theorem dX11_ward_18 : decode cX11_ward 18 = .ok (.iconst 0, 1) := by decide +kernel
theorem dX11_ward_19 : decode cX11_ward 19 = .ok (.iaload, 1) := by decide +kernel
theorem dX11_ward_20 : decode cX11_ward 20 = .ok (.istore_n 3, 1) := by decide +kernel
theorem dX11_ward_21 : decode cX11_ward 21 = .ok (.iload_n 2, 1) := by decide +kernel
theorem dX11_ward_22 : decode cX11_ward 22 = .ok (.tableswitch 102 0 4 #[34, 47, 60, 71, 83], 34) := by decide +kernel
theorem dX11_ward_56 : decode cX11_ward 56 = .ok (.aload_n 0, 1) := by decide +kernel
theorem dX11_ward_57 : decode cX11_ward 57 = .ok (.getfield 19, 3) := by decide +kernel
theorem dX11_ward_60 : decode cX11_ward 60 = .ok (.getfield 106, 3) := by decide +kernel
theorem dX11_ward_63 : decode cX11_ward 63 = .ok (.getfield 110, 3) := by decide +kernel
theorem dX11_ward_66 : decode cX11_ward 66 = .ok (.iload_n 1, 1) := by decide +kernel
theorem dX11_ward_67 : decode cX11_ward 67 = .ok (.iaload, 1) := by decide +kernel
theorem dX11_ward_68 : decode cX11_ward 68 = .ok (.ireturn, 1) := by decide +kernel
theorem dX11_ward_69 : decode cX11_ward 69 = .ok (.aload_n 0, 1) := by decide +kernel
theorem dX11_ward_70 : decode cX11_ward 70 = .ok (.getfield 19, 3) := by decide +kernel
theorem dX11_ward_73 : decode cX11_ward 73 = .ok (.getfield 106, 3) := by decide +kernel
theorem dX11_ward_76 : decode cX11_ward 76 = .ok (.getfield 113, 3) := by decide +kernel
theorem dX11_ward_79 : decode cX11_ward 79 = .ok (.iload_n 1, 1) := by decide +kernel
theorem dX11_ward_80 : decode cX11_ward 80 = .ok (.iaload, 1) := by decide +kernel
theorem dX11_ward_81 : decode cX11_ward 81 = .ok (.ireturn, 1) := by decide +kernel
theorem dX11_ward_82 : decode cX11_ward 82 = .ok (.aload_n 0, 1) := by decide +kernel
theorem dX11_ward_83 : decode cX11_ward 83 = .ok (.getfield 19, 3) := by decide +kernel
theorem dX11_ward_86 : decode cX11_ward 86 = .ok (.iconst 3, 1) := by decide +kernel
theorem dX11_ward_87 : decode cX11_ward 87 = .ok (.iload_n 1, 1) := by decide +kernel
theorem dX11_ward_88 : decode cX11_ward 88 = .ok (.iload_n 3, 1) := by decide +kernel
theorem dX11_ward_89 : decode cX11_ward 89 = .ok (.invokevirtual 116, 3) := by decide +kernel
theorem dX11_ward_92 : decode cX11_ward 92 = .ok (.ireturn, 1) := by decide +kernel
theorem dX11_ward_93 : decode cX11_ward 93 = .ok (.aload_n 0, 1) := by decide +kernel
theorem dX11_ward_94 : decode cX11_ward 94 = .ok (.getfield 19, 3) := by decide +kernel
theorem dX11_ward_97 : decode cX11_ward 97 = .ok (.bipush 18, 2) := by decide +kernel
theorem dX11_ward_99 : decode cX11_ward 99 = .ok (.iload_n 1, 1) := by decide +kernel
theorem dX11_ward_100 : decode cX11_ward 100 = .ok (.iload_n 3, 1) := by decide +kernel
theorem dX11_ward_101 : decode cX11_ward 101 = .ok (.invokevirtual 116, 3) := by decide +kernel
theorem dX11_ward_104 : decode cX11_ward 104 = .ok (.ireturn, 1) := by decide +kernel
theorem dX11_ward_105 : decode cX11_ward 105 = .ok (.iconst 0, 1) := by decide +kernel
theorem dX11_ward_106 : decode cX11_ward 106 = .ok (.aload_n 0, 1) := by decide +kernel
theorem dX11_ward_107 : decode cX11_ward 107 = .ok (.getfield 19, 3) := by decide +kernel
theorem dX11_ward_110 : decode cX11_ward 110 = .ok (.getfield 103, 3) := by decide +kernel
theorem dX11_ward_113 : decode cX11_ward 113 = .ok (.bipush 13, 2) := by decide +kernel
theorem dX11_ward_115 : decode cX11_ward 115 = .ok (.iload_n 1, 1) := by decide +kernel
theorem dX11_ward_116 : decode cX11_ward 116 = .ok (.iadd, 1) := by decide +kernel
theorem dX11_ward_117 : decode cX11_ward 117 = .ok (.iaload, 1) := by decide +kernel
theorem dX11_ward_118 : decode cX11_ward 118 = .ok (.iload_n 3, 1) := by decide +kernel
theorem dX11_ward_119 : decode cX11_ward 119 = .ok (.isub, 1) := by decide +kernel
theorem dX11_ward_120 : decode cX11_ward 120 = .ok (.invokestatic 120, 3) := by decide +kernel
theorem dX11_ward_123 : decode cX11_ward 123 = .ok (.ireturn, 1) := by decide +kernel
theorem dX11_ward_124 : decode cX11_ward 124 = .ok (.iconst 0, 1) := by decide +kernel
theorem dX11_ward_125 : decode cX11_ward 125 = .ok (.aload_n 0, 1) := by decide +kernel
theorem dX11_ward_126 : decode cX11_ward 126 = .ok (.getfield 19, 3) := by decide +kernel
theorem dX11_ward_129 : decode cX11_ward 129 = .ok (.getfield 103, 3) := by decide +kernel
theorem dX11_ward_132 : decode cX11_ward 132 = .ok (.bipush 28, 2) := by decide +kernel
theorem dX11_ward_134 : decode cX11_ward 134 = .ok (.iload_n 1, 1) := by decide +kernel
theorem dX11_ward_135 : decode cX11_ward 135 = .ok (.iadd, 1) := by decide +kernel
theorem dX11_ward_136 : decode cX11_ward 136 = .ok (.iaload, 1) := by decide +kernel
theorem dX11_ward_137 : decode cX11_ward 137 = .ok (.iload_n 3, 1) := by decide +kernel
theorem dX11_ward_138 : decode cX11_ward 138 = .ok (.isub, 1) := by decide +kernel
theorem dX11_ward_139 : decode cX11_ward 139 = .ok (.invokestatic 120, 3) := by decide +kernel
theorem dX11_ward_142 : decode cX11_ward 142 = .ok (.ireturn, 1) := by decide +kernel
theorem dX11_act_0 : decode cX11_act 0 = .ok (.aload_n 0, 1) := by decide +kernel
theorem dX11_act_1 : decode cX11_act 1 = .ok (.iload_n 1, 1) := by decide +kernel
theorem dX11_act_2 : decode cX11_act 2 = .ok (.invokevirtual 126, 3) := by decide +kernel
theorem dX11_act_5 : decode cX11_act 5 = .ok (.iload_n 2, 1) := by decide +kernel
theorem dX11_act_6 : decode cX11_act 6 = .ok (.iconst 0, 1) := by decide +kernel
theorem dX11_act_7 : decode cX11_act 7 = .ok (.iconst 4, 1) := by decide +kernel
theorem dX11_act_8 : decode cX11_act 8 = .ok (.invokestatic 74, 3) := by decide +kernel
theorem dX11_act_11 : decode cX11_act 11 = .ok (.iload_n 2, 1) := by decide +kernel
theorem dX11_act_12 : decode cX11_act 12 = .ok (.tableswitch 84 0 3 #[32, 45, 58, 71], 32) := by decide +kernel
theorem dX11_act_44 : decode cX11_act 44 = .ok (.aload_n 0, 1) := by decide +kernel
theorem dX11_act_45 : decode cX11_act 45 = .ok (.getfield 19, 3) := by decide +kernel
theorem dX11_act_48 : decode cX11_act 48 = .ok (.getfield 106, 3) := by decide +kernel
theorem dX11_act_51 : decode cX11_act 51 = .ok (.getfield 129, 3) := by decide +kernel
theorem dX11_act_54 : decode cX11_act 54 = .ok (.iload_n 1, 1) := by decide +kernel
theorem dX11_act_55 : decode cX11_act 55 = .ok (.iaload, 1) := by decide +kernel
theorem dX11_act_56 : decode cX11_act 56 = .ok (.ireturn, 1) := by decide +kernel
theorem dX11_act_57 : decode cX11_act 57 = .ok (.aload_n 0, 1) := by decide +kernel
theorem dX11_act_58 : decode cX11_act 58 = .ok (.getfield 19, 3) := by decide +kernel
theorem dX11_act_61 : decode cX11_act 61 = .ok (.getfield 103, 3) := by decide +kernel
theorem dX11_act_64 : decode cX11_act 64 = .ok (.bipush 33, 2) := by decide +kernel
theorem dX11_act_66 : decode cX11_act 66 = .ok (.iload_n 1, 1) := by decide +kernel
theorem dX11_act_67 : decode cX11_act 67 = .ok (.iadd, 1) := by decide +kernel
theorem dX11_act_68 : decode cX11_act 68 = .ok (.iaload, 1) := by decide +kernel
theorem dX11_act_69 : decode cX11_act 69 = .ok (.ireturn, 1) := by decide +kernel
theorem dX11_act_70 : decode cX11_act 70 = .ok (.aload_n 0, 1) := by decide +kernel
theorem dX11_act_71 : decode cX11_act 71 = .ok (.getfield 19, 3) := by decide +kernel
theorem dX11_act_74 : decode cX11_act 74 = .ok (.getfield 103, 3) := by decide +kernel
theorem dX11_act_77 : decode cX11_act 77 = .ok (.bipush 41, 2) := by decide +kernel
theorem dX11_act_79 : decode cX11_act 79 = .ok (.iload_n 1, 1) := by decide +kernel
theorem dX11_act_80 : decode cX11_act 80 = .ok (.iadd, 1) := by decide +kernel
theorem dX11_act_81 : decode cX11_act 81 = .ok (.iaload, 1) := by decide +kernel
theorem dX11_act_82 : decode cX11_act 82 = .ok (.ireturn, 1) := by decide +kernel
theorem dX11_act_83 : decode cX11_act 83 = .ok (.aload_n 0, 1) := by decide +kernel
theorem dX11_act_84 : decode cX11_act 84 = .ok (.getfield 19, 3) := by decide +kernel
theorem dX11_act_87 : decode cX11_act 87 = .ok (.getfield 106, 3) := by decide +kernel
theorem dX11_act_90 : decode cX11_act 90 = .ok (.getfield 132, 3) := by decide +kernel
theorem dX11_act_93 : decode cX11_act 93 = .ok (.iload_n 1, 1) := by decide +kernel
theorem dX11_act_94 : decode cX11_act 94 = .ok (.iaload, 1) := by decide +kernel
theorem dX11_act_95 : decode cX11_act 95 = .ok (.ireturn, 1) := by decide +kernel
theorem dX11_act_96 : decode cX11_act 96 = .ok (.aload_n 0, 1) := by decide +kernel
theorem dX11_act_97 : decode cX11_act 97 = .ok (.getfield 19, 3) := by decide +kernel
theorem dX11_act_100 : decode cX11_act 100 = .ok (.iload_n 1, 1) := by decide +kernel
theorem dX11_act_101 : decode cX11_act 101 = .ok (.invokevirtual 135, 3) := by decide +kernel
theorem dX11_act_104 : decode cX11_act 104 = .ok (.ifCond .eq 7, 3) := by decide +kernel
theorem dX11_act_107 : decode cX11_act 107 = .ok (.iconst 1, 1) := by decide +kernel
theorem dX11_act_108 : decode cX11_act 108 = .ok (.goto 4, 3) := by decide +kernel
theorem dX11_act_111 : decode cX11_act 111 = .ok (.iconst 0, 1) := by decide +kernel
theorem dX11_act_112 : decode cX11_act 112 = .ok (.ireturn, 1) := by decide +kernel
theorem dX11_degree_0 : decode cX11_degree 0 = .ok (.aload_n 0, 1) := by decide +kernel
theorem dX11_degree_1 : decode cX11_degree 1 = .ok (.iload_n 1, 1) := by decide +kernel
theorem dX11_degree_2 : decode cX11_degree 2 = .ok (.invokevirtual 100, 3) := by decide +kernel
theorem dX11_degree_5 : decode cX11_degree 5 = .ok (.iload_n 2, 1) := by decide +kernel
theorem dX11_degree_6 : decode cX11_degree 6 = .ok (.iconst 0, 1) := by decide +kernel
theorem dX11_degree_7 : decode cX11_degree 7 = .ok (.sipush 999, 3) := by decide +kernel
theorem dX11_degree_10 : decode cX11_degree 10 = .ok (.invokestatic 74, 3) := by decide +kernel
theorem dX11_degree_13 : decode cX11_degree 13 = .ok (.aload_n 0, 1) := by decide +kernel
theorem dX11_degree_14 : decode cX11_degree 14 = .ok (.getfield 19, 3) := by decide +kernel
theorem dX11_degree_17 : decode cX11_degree 17 = .ok (.iload_n 1, 1) := by decide +kernel
theorem dX11_degree_18 : decode cX11_degree 18 = .ok (.aload_n 0, 1) := by decide +kernel
theorem dX11_degree_19 : decode cX11_degree 19 = .ok (.getfield 19, 3) := by decide +kernel
theorem dX11_degree_22 : decode cX11_degree 22 = .ok (.getfield 103, 3) := by decide +kernel
theorem dX11_degree_25 : decode cX11_degree 25 = .ok (.iconst 0, 1) := by decide +kernel
theorem dX11_degree_26 : decode cX11_degree 26 = .ok (.iaload, 1) := by decide +kernel
theorem dX11_degree_27 : decode cX11_degree 27 = .ok (.iload_n 2, 1) := by decide +kernel
theorem dX11_degree_28 : decode cX11_degree 28 = .ok (.iadd, 1) := by decide +kernel
theorem dX11_degree_29 : decode cX11_degree 29 = .ok (.invokevirtual 139, 3) := by decide +kernel
theorem dX11_degree_32 : decode cX11_degree 32 = .ok (.ireturn, 1) := by decide +kernel
theorem dX11_code_0 : decode cX11_code 0 = .ok (.aload_n 0, 1) := by decide +kernel
theorem dX11_code_1 : decode cX11_code 1 = .ok (.iload_n 1, 1) := by decide +kernel
theorem dX11_code_2 : decode cX11_code 2 = .ok (.invokevirtual 100, 3) := by decide +kernel
theorem dX11_code_5 : decode cX11_code 5 = .ok (.iload_n 2, 1) := by decide +kernel
theorem dX11_code_6 : decode cX11_code 6 = .ok (.iconst 0, 1) := by decide +kernel
theorem dX11_code_7 : decode cX11_code 7 = .ok (.sipush 999, 3) := by decide +kernel
theorem dX11_code_10 : decode cX11_code 10 = .ok (.invokestatic 74, 3) := by decide +kernel
theorem dX11_code_13 : decode cX11_code 13 = .ok (.aload_n 0, 1) := by decide +kernel
theorem dX11_code_14 : decode cX11_code 14 = .ok (.getfield 19, 3) := by decide +kernel
theorem dX11_code_17 : decode cX11_code 17 = .ok (.iload_n 1, 1) := by decide +kernel
theorem dX11_code_18 : decode cX11_code 18 = .ok (.aload_n 0, 1) := by decide +kernel
theorem dX11_code_19 : decode cX11_code 19 = .ok (.getfield 19, 3) := by decide +kernel
theorem dX11_code_22 : decode cX11_code 22 = .ok (.getfield 103, 3) := by decide +kernel
theorem dX11_code_25 : decode cX11_code 25 = .ok (.iconst 0, 1) := by decide +kernel
theorem dX11_code_26 : decode cX11_code 26 = .ok (.iaload, 1) := by decide +kernel
theorem dX11_code_27 : decode cX11_code 27 = .ok (.iload_n 2, 1) := by decide +kernel
theorem dX11_code_28 : decode cX11_code 28 = .ok (.iadd, 1) := by decide +kernel
theorem dX11_code_29 : decode cX11_code 29 = .ok (.invokevirtual 142, 3) := by decide +kernel
theorem dX11_code_32 : decode cX11_code 32 = .ok (.ireturn, 1) := by decide +kernel
theorem dX11_fine_0 : decode cX11_fine 0 = .ok (.aload_n 0, 1) := by decide +kernel
theorem dX11_fine_1 : decode cX11_fine 1 = .ok (.iload_n 1, 1) := by decide +kernel
theorem dX11_fine_2 : decode cX11_fine 2 = .ok (.iload_n 2, 1) := by decide +kernel
theorem dX11_fine_3 : decode cX11_fine 3 = .ok (.iload 4, 2) := by decide +kernel
theorem dX11_fine_5 : decode cX11_fine 5 = .ok (.invokevirtual 145, 3) := by decide +kernel
theorem dX11_fine_8 : decode cX11_fine 8 = .ok (.iload_n 3, 1) := by decide +kernel
theorem dX11_fine_9 : decode cX11_fine 9 = .ok (.iconst 0, 1) := by decide +kernel
theorem dX11_fine_10 : decode cX11_fine 10 = .ok (.sipush 999, 3) := by decide +kernel
theorem dX11_fine_13 : decode cX11_fine 13 = .ok (.invokestatic 74, 3) := by decide +kernel
theorem dX11_fine_16 : decode cX11_fine 16 = .ok (.aload_n 0, 1) := by decide +kernel
theorem dX11_fine_17 : decode cX11_fine 17 = .ok (.getfield 19, 3) := by decide +kernel
theorem dX11_fine_20 : decode cX11_fine 20 = .ok (.iload_n 1, 1) := by decide +kernel
theorem dX11_fine_21 : decode cX11_fine 21 = .ok (.iload_n 2, 1) := by decide +kernel
theorem dX11_fine_22 : decode cX11_fine 22 = .ok (.aload_n 0, 1) := by decide +kernel
theorem dX11_fine_23 : decode cX11_fine 23 = .ok (.getfield 19, 3) := by decide +kernel
theorem dX11_fine_26 : decode cX11_fine 26 = .ok (.getfield 103, 3) := by decide +kernel
theorem dX11_fine_29 : decode cX11_fine 29 = .ok (.iconst 0, 1) := by decide +kernel
theorem dX11_fine_30 : decode cX11_fine 30 = .ok (.iaload, 1) := by decide +kernel
theorem dX11_fine_31 : decode cX11_fine 31 = .ok (.iload_n 3, 1) := by decide +kernel
theorem dX11_fine_32 : decode cX11_fine 32 = .ok (.iadd, 1) := by decide +kernel
theorem dX11_fine_33 : decode cX11_fine 33 = .ok (.iload 4, 2) := by decide +kernel
theorem dX11_fine_35 : decode cX11_fine 35 = .ok (.invokevirtual 148, 3) := by decide +kernel
theorem dX11_fine_38 : decode cX11_fine 38 = .ok (.ireturn, 1) := by decide +kernel
theorem dX11_lawful_0 : decode cX11_lawful 0 = .ok (.aload_n 0, 1) := by decide +kernel
theorem dX11_lawful_1 : decode cX11_lawful 1 = .ok (.iload_n 1, 1) := by decide +kernel
theorem dX11_lawful_2 : decode cX11_lawful 2 = .ok (.iload_n 2, 1) := by decide +kernel
theorem dX11_lawful_3 : decode cX11_lawful 3 = .ok (.iload 4, 2) := by decide +kernel
theorem dX11_lawful_5 : decode cX11_lawful 5 = .ok (.invokevirtual 145, 3) := by decide +kernel
theorem dX11_lawful_8 : decode cX11_lawful 8 = .ok (.iload_n 3, 1) := by decide +kernel
theorem dX11_lawful_9 : decode cX11_lawful 9 = .ok (.iconst 0, 1) := by decide +kernel
theorem dX11_lawful_10 : decode cX11_lawful 10 = .ok (.sipush 999, 3) := by decide +kernel
theorem dX11_lawful_13 : decode cX11_lawful 13 = .ok (.invokestatic 74, 3) := by decide +kernel
theorem dX11_lawful_16 : decode cX11_lawful 16 = .ok (.aload_n 0, 1) := by decide +kernel
theorem dX11_lawful_17 : decode cX11_lawful 17 = .ok (.invokevirtual 152, 3) := by decide +kernel
theorem dX11_lawful_20 : decode cX11_lawful 20 = .ok (.iload_n 1, 1) := by decide +kernel
theorem dX11_lawful_21 : decode cX11_lawful 21 = .ok (.iload_n 2, 1) := by decide +kernel
theorem dX11_lawful_22 : decode cX11_lawful 22 = .ok (.iload_n 3, 1) := by decide +kernel
theorem dX11_lawful_23 : decode cX11_lawful 23 = .ok (.iload 4, 2) := by decide +kernel
theorem dX11_lawful_25 : decode cX11_lawful 25 = .ok (.invokevirtual 156, 3) := by decide +kernel
theorem dX11_lawful_28 : decode cX11_lawful 28 = .ok (.ireturn, 1) := by decide +kernel
theorem dX11_fire_0 : decode cX11_fire 0 = .ok (.aload_n 0, 1) := by decide +kernel
theorem dX11_fire_1 : decode cX11_fire 1 = .ok (.iconst 3, 1) := by decide +kernel
theorem dX11_fire_2 : decode cX11_fire 2 = .ok (.iload_n 1, 1) := by decide +kernel
theorem dX11_fire_3 : decode cX11_fire 3 = .ok (.iload_n 2, 1) := by decide +kernel
theorem dX11_fire_4 : decode cX11_fire 4 = .ok (.iload_n 3, 1) := by decide +kernel
theorem dX11_fire_5 : decode cX11_fire 5 = .ok (.invokevirtual 162, 3) := by decide +kernel
theorem dX11_fire_8 : decode cX11_fire 8 = .ok (.ireturn, 1) := by decide +kernel
theorem dX11_ice_0 : decode cX11_ice 0 = .ok (.aload_n 0, 1) := by decide +kernel
theorem dX11_ice_1 : decode cX11_ice 1 = .ok (.bipush 18, 2) := by decide +kernel
theorem dX11_ice_3 : decode cX11_ice 3 = .ok (.iload_n 1, 1) := by decide +kernel
theorem dX11_ice_4 : decode cX11_ice 4 = .ok (.iload_n 2, 1) := by decide +kernel
theorem dX11_ice_5 : decode cX11_ice 5 = .ok (.iload_n 3, 1) := by decide +kernel
theorem dX11_ice_6 : decode cX11_ice 6 = .ok (.invokevirtual 162, 3) := by decide +kernel
theorem dX11_ice_9 : decode cX11_ice 9 = .ok (.ireturn, 1) := by decide +kernel
theorem dX11_layOn_0 : decode cX11_layOn 0 = .ok (.aload_n 0, 1) := by decide +kernel
theorem dX11_layOn_1 : decode cX11_layOn 1 = .ok (.iload_n 2, 1) := by decide +kernel
theorem dX11_layOn_2 : decode cX11_layOn 2 = .ok (.invokevirtual 100, 3) := by decide +kernel
theorem dX11_layOn_5 : decode cX11_layOn 5 = .ok (.iload_n 3, 1) := by decide +kernel
theorem dX11_layOn_6 : decode cX11_layOn 6 = .ok (.iconst 0, 1) := by decide +kernel
theorem dX11_layOn_7 : decode cX11_layOn 7 = .ok (.bipush 60, 2) := by decide +kernel
theorem dX11_layOn_9 : decode cX11_layOn 9 = .ok (.invokestatic 74, 3) := by decide +kernel
theorem dX11_layOn_12 : decode cX11_layOn 12 = .ok (.iload 4, 2) := by decide +kernel
theorem dX11_layOn_14 : decode cX11_layOn 14 = .ok (.iconst 1, 1) := by decide +kernel
theorem dX11_layOn_15 : decode cX11_layOn 15 = .ok (.bipush 99, 2) := by decide +kernel
theorem dX11_layOn_17 : decode cX11_layOn 17 = .ok (.invokestatic 74, 3) := by decide +kernel
theorem dX11_layOn_20 : decode cX11_layOn 20 = .ok (.aload_n 0, 1) := by decide +kernel
theorem dX11_layOn_21 : decode cX11_layOn 21 = .ok (.getfield 26, 3) := by decide +kernel
theorem dX11_layOn_24 : decode cX11_layOn 24 = .ok (.aload_n 0, 1) := by decide +kernel
theorem dX11_layOn_25 : decode cX11_layOn 25 = .ok (.getfield 19, 3) := by decide +kernel
theorem dX11_layOn_28 : decode cX11_layOn 28 = .ok (.getfield 103, 3) := by decide +kernel
theorem dX11_layOn_31 : decode cX11_layOn 31 = .ok (.invokevirtual 165, 3) := by decide +kernel
theorem dX11_layOn_34 : decode cX11_layOn 34 = .ok (.aload_n 0, 1) := by decide +kernel
theorem dX11_layOn_35 : decode cX11_layOn 35 = .ok (.getfield 19, 3) := by decide +kernel
theorem dX11_layOn_38 : decode cX11_layOn 38 = .ok (.iload_n 1, 1) := by decide +kernel
theorem dX11_layOn_39 : decode cX11_layOn 39 = .ok (.iload_n 2, 1) := by decide +kernel
theorem dX11_layOn_40 : decode cX11_layOn 40 = .ok (.iload_n 3, 1) := by decide +kernel
theorem dX11_layOn_41 : decode cX11_layOn 41 = .ok (.iload 4, 2) := by decide +kernel
theorem dX11_layOn_43 : decode cX11_layOn 43 = .ok (.invokevirtual 169, 3) := by decide +kernel
theorem dX11_layOn_46 : decode cX11_layOn 46 = .ok (.aload_n 0, 1) := by decide +kernel
theorem dX11_layOn_47 : decode cX11_layOn 47 = .ok (.getfield 19, 3) := by decide +kernel
theorem dX11_layOn_50 : decode cX11_layOn 50 = .ok (.iload_n 2, 1) := by decide +kernel
theorem dX11_layOn_51 : decode cX11_layOn 51 = .ok (.aload_n 0, 1) := by decide +kernel
theorem dX11_layOn_52 : decode cX11_layOn 52 = .ok (.getfield 19, 3) := by decide +kernel
theorem dX11_layOn_55 : decode cX11_layOn 55 = .ok (.getfield 103, 3) := by decide +kernel
theorem dX11_layOn_58 : decode cX11_layOn 58 = .ok (.iconst 0, 1) := by decide +kernel
theorem dX11_layOn_59 : decode cX11_layOn 59 = .ok (.iaload, 1) := by decide +kernel
theorem dX11_layOn_60 : decode cX11_layOn 60 = .ok (.invokevirtual 139, 3) := by decide +kernel
theorem dX11_layOn_63 : decode cX11_layOn 63 = .ok (.ireturn, 1) := by decide +kernel
theorem dX11_amend_0 : decode cX11_amend 0 = .ok (.aload_n 0, 1) := by decide +kernel
theorem dX11_amend_1 : decode cX11_amend 1 = .ok (.iload_n 1, 1) := by decide +kernel
theorem dX11_amend_2 : decode cX11_amend 2 = .ok (.invokevirtual 126, 3) := by decide +kernel
theorem dX11_amend_5 : decode cX11_amend 5 = .ok (.iload_n 2, 1) := by decide +kernel
theorem dX11_amend_6 : decode cX11_amend 6 = .ok (.iconst 0, 1) := by decide +kernel
theorem dX11_amend_7 : decode cX11_amend 7 = .ok (.bipush 99, 2) := by decide +kernel
theorem dX11_amend_9 : decode cX11_amend 9 = .ok (.invokestatic 74, 3) := by decide +kernel
theorem dX11_amend_12 : decode cX11_amend 12 = .ok (.iload_n 3, 1) := by decide +kernel
theorem dX11_amend_13 : decode cX11_amend 13 = .ok (.iload_n 2, 1) := by decide +kernel
theorem dX11_amend_14 : decode cX11_amend 14 = .ok (.bipush 99, 2) := by decide +kernel
theorem dX11_amend_16 : decode cX11_amend 16 = .ok (.invokestatic 74, 3) := by decide +kernel
theorem dX11_amend_19 : decode cX11_amend 19 = .ok (.aload_n 0, 1) := by decide +kernel
theorem dX11_amend_20 : decode cX11_amend 20 = .ok (.getfield 26, 3) := by decide +kernel
theorem dX11_amend_23 : decode cX11_amend 23 = .ok (.aload_n 0, 1) := by decide +kernel
theorem dX11_amend_24 : decode cX11_amend 24 = .ok (.getfield 19, 3) := by decide +kernel
theorem dX11_amend_27 : decode cX11_amend 27 = .ok (.getfield 103, 3) := by decide +kernel
theorem dX11_amend_30 : decode cX11_amend 30 = .ok (.invokevirtual 165, 3) := by decide +kernel
theorem dX11_amend_33 : decode cX11_amend 33 = .ok (.aload_n 0, 1) := by decide +kernel
theorem dX11_amend_34 : decode cX11_amend 34 = .ok (.getfield 19, 3) := by decide +kernel
theorem dX11_amend_37 : decode cX11_amend 37 = .ok (.getfield 103, 3) := by decide +kernel
theorem dX11_amend_40 : decode cX11_amend 40 = .ok (.bipush 33, 2) := by decide +kernel
theorem dX11_amend_42 : decode cX11_amend 42 = .ok (.iload_n 1, 1) := by decide +kernel
theorem dX11_amend_43 : decode cX11_amend 43 = .ok (.iadd, 1) := by decide +kernel
theorem dX11_amend_44 : decode cX11_amend 44 = .ok (.iload_n 2, 1) := by decide +kernel
theorem dX11_amend_45 : decode cX11_amend 45 = .ok (.iastore, 1) := by decide +kernel
theorem dX11_amend_46 : decode cX11_amend 46 = .ok (.aload_n 0, 1) := by decide +kernel
theorem dX11_amend_47 : decode cX11_amend 47 = .ok (.getfield 19, 3) := by decide +kernel
theorem dX11_amend_50 : decode cX11_amend 50 = .ok (.getfield 103, 3) := by decide +kernel
theorem dX11_amend_53 : decode cX11_amend 53 = .ok (.bipush 41, 2) := by decide +kernel
theorem dX11_amend_55 : decode cX11_amend 55 = .ok (.iload_n 1, 1) := by decide +kernel
theorem dX11_amend_56 : decode cX11_amend 56 = .ok (.iadd, 1) := by decide +kernel
theorem dX11_amend_57 : decode cX11_amend 57 = .ok (.iload_n 3, 1) := by decide +kernel
theorem dX11_amend_58 : decode cX11_amend 58 = .ok (.iastore, 1) := by decide +kernel
theorem dX11_amend_59 : decode cX11_amend 59 = .ok (.aload_n 0, 1) := by decide +kernel
theorem dX11_amend_60 : decode cX11_amend 60 = .ok (.getfield 19, 3) := by decide +kernel
theorem dX11_amend_63 : decode cX11_amend 63 = .ok (.invokevirtual 172, 3) := by decide +kernel
theorem dX11_amend_66 : decode cX11_amend 66 = .ok (.iconst 0, 1) := by decide +kernel
theorem dX11_amend_67 : decode cX11_amend 67 = .ok (.istore 4, 2) := by decide +kernel
theorem dX11_amend_69 : decode cX11_amend 69 = .ok (.iconst 0, 1) := by decide +kernel
theorem dX11_amend_70 : decode cX11_amend 70 = .ok (.istore 5, 2) := by decide +kernel
theorem dX11_amend_72 : decode cX11_amend 72 = .ok (.iload 5, 2) := by decide +kernel
theorem dX11_amend_74 : decode cX11_amend 74 = .ok (.aload_n 0, 1) := by decide +kernel
theorem dX11_amend_75 : decode cX11_amend 75 = .ok (.getfield 19, 3) := by decide +kernel
theorem dX11_amend_78 : decode cX11_amend 78 = .ok (.getfield 106, 3) := by decide +kernel
theorem dX11_amend_81 : decode cX11_amend 81 = .ok (.getfield 175, 3) := by decide +kernel
theorem dX11_amend_84 : decode cX11_amend 84 = .ok (.if_icmp .ge 36, 3) := by decide +kernel
theorem dX11_amend_87 : decode cX11_amend 87 = .ok (.iload 4, 2) := by decide +kernel
theorem dX11_amend_89 : decode cX11_amend 89 = .ok (.aload_n 0, 1) := by decide +kernel
theorem dX11_amend_90 : decode cX11_amend 90 = .ok (.getfield 19, 3) := by decide +kernel
theorem dX11_amend_93 : decode cX11_amend 93 = .ok (.iload 5, 2) := by decide +kernel
theorem dX11_amend_95 : decode cX11_amend 95 = .ok (.aload_n 0, 1) := by decide +kernel
theorem dX11_amend_96 : decode cX11_amend 96 = .ok (.getfield 19, 3) := by decide +kernel
theorem dX11_amend_99 : decode cX11_amend 99 = .ok (.getfield 103, 3) := by decide +kernel
theorem dX11_amend_102 : decode cX11_amend 102 = .ok (.iconst 0, 1) := by decide +kernel
theorem dX11_amend_103 : decode cX11_amend 103 = .ok (.iaload, 1) := by decide +kernel
theorem dX11_amend_104 : decode cX11_amend 104 = .ok (.invokevirtual 142, 3) := by decide +kernel
theorem dX11_amend_107 : decode cX11_amend 107 = .ok (.iload_n 1, 1) := by decide +kernel
theorem dX11_amend_108 : decode cX11_amend 108 = .ok (.ishr, 1) := by decide +kernel
theorem dX11_amend_109 : decode cX11_amend 109 = .ok (.iconst 1, 1) := by decide +kernel
theorem dX11_amend_110 : decode cX11_amend 110 = .ok (.iand, 1) := by decide +kernel
theorem dX11_amend_111 : decode cX11_amend 111 = .ok (.iadd, 1) := by decide +kernel
theorem dX11_amend_112 : decode cX11_amend 112 = .ok (.istore 4, 2) := by decide +kernel
theorem dX11_amend_114 : decode cX11_amend 114 = .ok (.iinc 5 1, 3) := by decide +kernel
theorem dX11_amend_117 : decode cX11_amend 117 = .ok (.goto (-45), 3) := by decide +kernel
theorem dX11_amend_120 : decode cX11_amend 120 = .ok (.iload 4, 2) := by decide +kernel
theorem dX11_amend_122 : decode cX11_amend 122 = .ok (.ireturn, 1) := by decide +kernel
theorem dX11_repeal_0 : decode cX11_repeal 0 = .ok (.aload_n 0, 1) := by decide +kernel
theorem dX11_repeal_1 : decode cX11_repeal 1 = .ok (.iload_n 1, 1) := by decide +kernel
theorem dX11_repeal_2 : decode cX11_repeal 2 = .ok (.invokevirtual 126, 3) := by decide +kernel
theorem dX11_repeal_5 : decode cX11_repeal 5 = .ok (.aload_n 0, 1) := by decide +kernel
theorem dX11_repeal_6 : decode cX11_repeal 6 = .ok (.getfield 19, 3) := by decide +kernel
theorem dX11_repeal_9 : decode cX11_repeal 9 = .ok (.iload_n 1, 1) := by decide +kernel
theorem dX11_repeal_10 : decode cX11_repeal 10 = .ok (.invokevirtual 135, 3) := by decide +kernel
theorem dX11_repeal_13 : decode cX11_repeal 13 = .ok (.ifCond .eq 13, 3) := by decide +kernel
theorem dX11_repeal_16 : decode cX11_repeal 16 = .ok (.new 178, 3) := by decide +kernel
theorem dX11_repeal_19 : decode cX11_repeal 19 = .ok (.dup, 1) := by decide +kernel
theorem dX11_repeal_20 : decode cX11_repeal 20 = .ok (.ldc 180, 2) := by decide +kernel
theorem dX11_repeal_22 : decode cX11_repeal 22 = .ok (.invokespecial 182, 3) := by decide +kernel
theorem dX11_repeal_25 : decode cX11_repeal 25 = .ok (.athrow, 1) := by decide +kernel
theorem dX11_repeal_26 : decode cX11_repeal 26 = .ok (.aload_n 0, 1) := by decide +kernel
theorem dX11_repeal_27 : decode cX11_repeal 27 = .ok (.getfield 26, 3) := by decide +kernel
theorem dX11_repeal_30 : decode cX11_repeal 30 = .ok (.aload_n 0, 1) := by decide +kernel
theorem dX11_repeal_31 : decode cX11_repeal 31 = .ok (.getfield 19, 3) := by decide +kernel
theorem dX11_repeal_34 : decode cX11_repeal 34 = .ok (.getfield 103, 3) := by decide +kernel
theorem dX11_repeal_37 : decode cX11_repeal 37 = .ok (.invokevirtual 165, 3) := by decide +kernel
theorem dX11_repeal_40 : decode cX11_repeal 40 = .ok (.aload_n 0, 1) := by decide +kernel
theorem dX11_repeal_41 : decode cX11_repeal 41 = .ok (.getfield 19, 3) := by decide +kernel
theorem dX11_repeal_44 : decode cX11_repeal 44 = .ok (.getfield 103, 3) := by decide +kernel
theorem dX11_repeal_47 : decode cX11_repeal 47 = .ok (.iconst 2, 1) := by decide +kernel
theorem dX11_repeal_48 : decode cX11_repeal 48 = .ok (.dup2, 1) := by decide +kernel
theorem dX11_repeal_49 : decode cX11_repeal 49 = .ok (.iaload, 1) := by decide +kernel
theorem dX11_repeal_50 : decode cX11_repeal 50 = .ok (.iconst 1, 1) := by decide +kernel
theorem dX11_repeal_51 : decode cX11_repeal 51 = .ok (.iload_n 1, 1) := by decide +kernel
theorem dX11_repeal_52 : decode cX11_repeal 52 = .ok (.ishl, 1) := by decide +kernel
theorem dX11_repeal_53 : decode cX11_repeal 53 = .ok (.ior, 1) := by decide +kernel
theorem dX11_repeal_54 : decode cX11_repeal 54 = .ok (.iastore, 1) := by decide +kernel
theorem dX11_repeal_55 : decode cX11_repeal 55 = .ok (.aload_n 0, 1) := by decide +kernel
theorem dX11_repeal_56 : decode cX11_repeal 56 = .ok (.getfield 19, 3) := by decide +kernel
theorem dX11_repeal_59 : decode cX11_repeal 59 = .ok (.invokevirtual 185, 3) := by decide +kernel
theorem dX11_repeal_62 : decode cX11_repeal 62 = .ok (.invokestatic 189, 3) := by decide +kernel
theorem dX11_repeal_65 : decode cX11_repeal 65 = .ok (.ireturn, 1) := by decide +kernel
theorem dX11_hours_0 : decode cX11_hours 0 = .ok (.iload_n 1, 1) := by decide +kernel
theorem dX11_hours_1 : decode cX11_hours 1 = .ok (.iconst 1, 1) := by decide +kernel
theorem dX11_hours_2 : decode cX11_hours 2 = .ok (.bipush 99, 2) := by decide +kernel
theorem dX11_hours_4 : decode cX11_hours 4 = .ok (.invokestatic 74, 3) := by decide +kernel
theorem dX11_hours_7 : decode cX11_hours 7 = .ok (.aload_n 0, 1) := by decide +kernel
theorem dX11_hours_8 : decode cX11_hours 8 = .ok (.getfield 26, 3) := by decide +kernel
theorem dX11_hours_11 : decode cX11_hours 11 = .ok (.aload_n 0, 1) := by decide +kernel
theorem dX11_hours_12 : decode cX11_hours 12 = .ok (.getfield 19, 3) := by decide +kernel
theorem dX11_hours_15 : decode cX11_hours 15 = .ok (.getfield 103, 3) := by decide +kernel
theorem dX11_hours_18 : decode cX11_hours 18 = .ok (.invokevirtual 165, 3) := by decide +kernel
theorem dX11_hours_21 : decode cX11_hours 21 = .ok (.aload_n 0, 1) := by decide +kernel
theorem dX11_hours_22 : decode cX11_hours 22 = .ok (.getfield 19, 3) := by decide +kernel
theorem dX11_hours_25 : decode cX11_hours 25 = .ok (.getfield 103, 3) := by decide +kernel
theorem dX11_hours_28 : decode cX11_hours 28 = .ok (.iconst 0, 1) := by decide +kernel
theorem dX11_hours_29 : decode cX11_hours 29 = .ok (.dup2, 1) := by decide +kernel
theorem dX11_hours_30 : decode cX11_hours 30 = .ok (.iaload, 1) := by decide +kernel
theorem dX11_hours_31 : decode cX11_hours 31 = .ok (.iload_n 1, 1) := by decide +kernel
theorem dX11_hours_32 : decode cX11_hours 32 = .ok (.iadd, 1) := by decide +kernel
theorem dX11_hours_33 : decode cX11_hours 33 = .ok (.iastore, 1) := by decide +kernel
theorem dX11_hours_34 : decode cX11_hours 34 = .ok (.aload_n 0, 1) := by decide +kernel
theorem dX11_hours_35 : decode cX11_hours 35 = .ok (.getfield 19, 3) := by decide +kernel
theorem dX11_hours_38 : decode cX11_hours 38 = .ok (.getfield 103, 3) := by decide +kernel
theorem dX11_hours_41 : decode cX11_hours 41 = .ok (.iconst 0, 1) := by decide +kernel
theorem dX11_hours_42 : decode cX11_hours 42 = .ok (.iaload, 1) := by decide +kernel
theorem dX11_hours_43 : decode cX11_hours 43 = .ok (.ireturn, 1) := by decide +kernel
theorem dX11_done_0 : decode cX11_done 0 = .ok (.aload_n 0, 1) := by decide +kernel
theorem dX11_done_1 : decode cX11_done 1 = .ok (.iload_n 1, 1) := by decide +kernel
theorem dX11_done_2 : decode cX11_done 2 = .ok (.iload_n 2, 1) := by decide +kernel
theorem dX11_done_3 : decode cX11_done 3 = .ok (.iload_n 3, 1) := by decide +kernel
theorem dX11_done_4 : decode cX11_done 4 = .ok (.invokevirtual 145, 3) := by decide +kernel
theorem dX11_done_7 : decode cX11_done 7 = .ok (.aload_n 0, 1) := by decide +kernel
theorem dX11_done_8 : decode cX11_done 8 = .ok (.getfield 26, 3) := by decide +kernel
theorem dX11_done_11 : decode cX11_done 11 = .ok (.aload_n 0, 1) := by decide +kernel
theorem dX11_done_12 : decode cX11_done 12 = .ok (.getfield 19, 3) := by decide +kernel
theorem dX11_done_15 : decode cX11_done 15 = .ok (.getfield 103, 3) := by decide +kernel
theorem dX11_done_18 : decode cX11_done 18 = .ok (.invokevirtual 165, 3) := by decide +kernel
theorem dX11_done_21 : decode cX11_done 21 = .ok (.aload_n 0, 1) := by decide +kernel
theorem dX11_done_22 : decode cX11_done 22 = .ok (.getfield 19, 3) := by decide +kernel
theorem dX11_done_25 : decode cX11_done 25 = .ok (.iload_n 1, 1) := by decide +kernel
theorem dX11_done_26 : decode cX11_done 26 = .ok (.iload_n 2, 1) := by decide +kernel
theorem dX11_done_27 : decode cX11_done 27 = .ok (.iload_n 3, 1) := by decide +kernel
theorem dX11_done_28 : decode cX11_done 28 = .ok (.invokevirtual 195, 3) := by decide +kernel
theorem dX11_done_31 : decode cX11_done 31 = .ok (.ireturn, 1) := by decide +kernel
theorem dX11_undo_0 : decode cX11_undo 0 = .ok (.iload_n 1, 1) := by decide +kernel
theorem dX11_undo_1 : decode cX11_undo 1 = .ok (.iconst 1, 1) := by decide +kernel
theorem dX11_undo_2 : decode cX11_undo 2 = .ok (.aload_n 0, 1) := by decide +kernel
theorem dX11_undo_3 : decode cX11_undo 3 = .ok (.getfield 26, 3) := by decide +kernel
theorem dX11_undo_6 : decode cX11_undo 6 = .ok (.getfield 89, 3) := by decide +kernel
theorem dX11_undo_9 : decode cX11_undo 9 = .ok (.invokestatic 74, 3) := by decide +kernel
theorem dX11_undo_12 : decode cX11_undo 12 = .ok (.aload_n 0, 1) := by decide +kernel
theorem dX11_undo_13 : decode cX11_undo 13 = .ok (.getfield 26, 3) := by decide +kernel
theorem dX11_undo_16 : decode cX11_undo 16 = .ok (.iload_n 1, 1) := by decide +kernel
theorem dX11_undo_17 : decode cX11_undo 17 = .ok (.aload_n 0, 1) := by decide +kernel
theorem dX11_undo_18 : decode cX11_undo 18 = .ok (.getfield 19, 3) := by decide +kernel
theorem dX11_undo_21 : decode cX11_undo 21 = .ok (.getfield 103, 3) := by decide +kernel
theorem dX11_undo_24 : decode cX11_undo 24 = .ok (.invokevirtual 198, 3) := by decide +kernel
theorem dX11_undo_27 : decode cX11_undo 27 = .ok (.aload_n 0, 1) := by decide +kernel
theorem dX11_undo_28 : decode cX11_undo 28 = .ok (.getfield 19, 3) := by decide +kernel
theorem dX11_undo_31 : decode cX11_undo 31 = .ok (.invokevirtual 172, 3) := by decide +kernel
theorem dX11_undo_34 : decode cX11_undo 34 = .ok (.aload_n 0, 1) := by decide +kernel
theorem dX11_undo_35 : decode cX11_undo 35 = .ok (.getfield 26, 3) := by decide +kernel
theorem dX11_undo_38 : decode cX11_undo 38 = .ok (.getfield 89, 3) := by decide +kernel
theorem dX11_undo_41 : decode cX11_undo 41 = .ok (.ireturn, 1) := by decide +kernel
theorem dX11_judge_0 : decode cX11_judge 0 = .ok (.aload_n 0, 1) := by decide +kernel
theorem dX11_judge_1 : decode cX11_judge 1 = .ok (.iload_n 1, 1) := by decide +kernel
theorem dX11_judge_2 : decode cX11_judge 2 = .ok (.invokevirtual 202, 3) := by decide +kernel
theorem dX11_judge_5 : decode cX11_judge 5 = .ok (.astore_n 3, 1) := by decide +kernel
theorem dX11_judge_6 : decode cX11_judge 6 = .ok (.aload_n 3, 1) := by decide +kernel
theorem dX11_judge_7 : decode cX11_judge 7 = .ok (.invokestatic 206, 3) := by decide +kernel
theorem dX11_judge_10 : decode cX11_judge 10 = .ok (.iload_n 2, 1) := by decide +kernel
theorem dX11_judge_11 : decode cX11_judge 11 = .ok (.iconst 0, 1) := by decide +kernel
theorem dX11_judge_12 : decode cX11_judge 12 = .ok (.iconst 3, 1) := by decide +kernel
theorem dX11_judge_13 : decode cX11_judge 13 = .ok (.invokestatic 74, 3) := by decide +kernel
theorem dX11_judge_16 : decode cX11_judge 16 = .ok (.aload_n 0, 1) := by decide +kernel
theorem dX11_judge_17 : decode cX11_judge 17 = .ok (.getfield 19, 3) := by decide +kernel
theorem dX11_judge_20 : decode cX11_judge 20 = .ok (.getfield 103, 3) := by decide +kernel
theorem dX11_judge_23 : decode cX11_judge 23 = .ok (.iconst 0, 1) := by decide +kernel
theorem dX11_judge_24 : decode cX11_judge 24 = .ok (.aload_n 0, 1) := by decide +kernel
theorem dX11_judge_25 : decode cX11_judge 25 = .ok (.getfield 30, 3) := by decide +kernel
theorem dX11_judge_28 : decode cX11_judge 28 = .ok (.iconst 0, 1) := by decide +kernel
theorem dX11_judge_29 : decode cX11_judge 29 = .ok (.bipush 49, 2) := by decide +kernel
theorem dX11_judge_31 : decode cX11_judge 31 = .ok (.invokestatic 210, 3) := by decide +kernel
theorem dX11_judge_34 : decode cX11_judge 34 = .ok (.iconst 0, 1) := by decide +kernel
theorem dX11_judge_35 : decode cX11_judge 35 = .ok (.istore 4, 2) := by decide +kernel
theorem dX11_judge_37 : decode cX11_judge 37 = .ok (.iload 4, 2) := by decide +kernel
theorem dX11_judge_39 : decode cX11_judge 39 = .ok (.aload_n 3, 1) := by decide +kernel
theorem dX11_judge_40 : decode cX11_judge 40 = .ok (.getfield 216, 3) := by decide +kernel
theorem dX11_judge_43 : decode cX11_judge 43 = .ok (.if_icmp .ge 40, 3) := by decide +kernel
theorem dX11_judge_46 : decode cX11_judge 46 = .ok (.aload_n 0, 1) := by decide +kernel
theorem dX11_judge_47 : decode cX11_judge 47 = .ok (.getfield 19, 3) := by decide +kernel
theorem dX11_judge_50 : decode cX11_judge 50 = .ok (.aload_n 3, 1) := by decide +kernel
theorem dX11_judge_51 : decode cX11_judge 51 = .ok (.getfield 217, 3) := by decide +kernel
theorem dX11_judge_54 : decode cX11_judge 54 = .ok (.iload 4, 2) := by decide +kernel
theorem dX11_judge_56 : decode cX11_judge 56 = .ok (.laload, 1) := by decide +kernel
theorem dX11_judge_57 : decode cX11_judge 57 = .ok (.invokevirtual 221, 3) := by decide +kernel
theorem dX11_judge_60 : decode cX11_judge 60 = .ok (.ifCond .ne 23, 3) := by decide +kernel
theorem dX11_judge_63 : decode cX11_judge 63 = .ok (.aload_n 0, 1) := by decide +kernel
theorem dX11_judge_64 : decode cX11_judge 64 = .ok (.getfield 19, 3) := by decide +kernel
theorem dX11_judge_67 : decode cX11_judge 67 = .ok (.aload_n 3, 1) := by decide +kernel
theorem dX11_judge_68 : decode cX11_judge 68 = .ok (.getfield 217, 3) := by decide +kernel
theorem dX11_judge_71 : decode cX11_judge 71 = .ok (.iload 4, 2) := by decide +kernel
theorem dX11_judge_73 : decode cX11_judge 73 = .ok (.laload, 1) := by decide +kernel
theorem dX11_judge_74 : decode cX11_judge 74 = .ok (.invokevirtual 225, 3) := by decide +kernel
theorem dX11_judge_77 : decode cX11_judge 77 = .ok (.iinc 4 1, 3) := by decide +kernel
theorem dX11_judge_80 : decode cX11_judge 80 = .ok (.goto (-43), 3) := by decide +kernel
theorem dX11_judge_83 : decode cX11_judge 83 = .ok (.iload 4, 2) := by decide +kernel
theorem dX11_judge_85 : decode cX11_judge 85 = .ok (.aload_n 3, 1) := by decide +kernel
theorem dX11_judge_86 : decode cX11_judge 86 = .ok (.getfield 216, 3) := by decide +kernel
theorem dX11_judge_89 : decode cX11_judge 89 = .ok (.if_icmp .lt 7, 3) := by decide +kernel
theorem dX11_judge_92 : decode cX11_judge 92 = .ok (.iconst 1, 1) := by decide +kernel
theorem dX11_judge_93 : decode cX11_judge 93 = .ok (.goto 4, 3) := by decide +kernel
theorem dX11_judge_96 : decode cX11_judge 96 = .ok (.iconst 0, 1) := by decide +kernel
theorem dX11_judge_97 : decode cX11_judge 97 = .ok (.istore 5, 2) := by decide +kernel
theorem dX11_judge_99 : decode cX11_judge 99 = .ok (.iload 5, 2) := by decide +kernel
theorem dX11_judge_101 : decode cX11_judge 101 = .ok (.ifCond .eq 7, 3) := by decide +kernel
theorem dX11_judge_104 : decode cX11_judge 104 = .ok (.iconst 0, 1) := by decide +kernel
theorem dX11_judge_105 : decode cX11_judge 105 = .ok (.goto 17, 3) := by decide +kernel
theorem dX11_judge_108 : decode cX11_judge 108 = .ok (.aload_n 0, 1) := by decide +kernel
theorem dX11_judge_109 : decode cX11_judge 109 = .ok (.getfield 19, 3) := by decide +kernel
theorem dX11_judge_112 : decode cX11_judge 112 = .ok (.aload_n 3, 1) := by decide +kernel
theorem dX11_judge_113 : decode cX11_judge 113 = .ok (.getfield 217, 3) := by decide +kernel
theorem dX11_judge_116 : decode cX11_judge 116 = .ok (.iload 4, 2) := by decide +kernel
theorem dX11_judge_118 : decode cX11_judge 118 = .ok (.laload, 1) := by decide +kernel
theorem dX11_judge_119 : decode cX11_judge 119 = .ok (.invokevirtual 221, 3) := by decide +kernel
theorem dX11_judge_122 : decode cX11_judge 122 = .ok (.istore 6, 2) := by decide +kernel
theorem dX11_judge_124 : decode cX11_judge 124 = .ok (.aload_n 0, 1) := by decide +kernel
theorem dX11_judge_125 : decode cX11_judge 125 = .ok (.getfield 19, 3) := by decide +kernel
theorem dX11_judge_128 : decode cX11_judge 128 = .ok (.getfield 103, 3) := by decide +kernel
theorem dX11_judge_131 : decode cX11_judge 131 = .ok (.iconst 0, 1) := by decide +kernel
theorem dX11_judge_132 : decode cX11_judge 132 = .ok (.iaload, 1) := by decide +kernel
theorem dX11_judge_133 : decode cX11_judge 133 = .ok (.istore 7, 2) := by decide +kernel
theorem dX11_judge_135 : decode cX11_judge 135 = .ok (.aload_n 0, 1) := by decide +kernel
theorem dX11_judge_136 : decode cX11_judge 136 = .ok (.getfield 19, 3) := by decide +kernel
theorem dX11_judge_139 : decode cX11_judge 139 = .ok (.getfield 103, 3) := by decide +kernel
theorem dX11_judge_142 : decode cX11_judge 142 = .ok (.iconst 1, 1) := by decide +kernel
theorem dX11_judge_143 : decode cX11_judge 143 = .ok (.iaload, 1) := by decide +kernel
theorem dX11_judge_144 : decode cX11_judge 144 = .ok (.istore 8, 2) := by decide +kernel
theorem dX11_judge_146 : decode cX11_judge 146 = .ok (.aload_n 0, 1) := by decide +kernel
theorem dX11_judge_147 : decode cX11_judge 147 = .ok (.getfield 30, 3) := by decide +kernel
theorem dX11_judge_150 : decode cX11_judge 150 = .ok (.iconst 0, 1) := by decide +kernel
theorem dX11_judge_151 : decode cX11_judge 151 = .ok (.aload_n 0, 1) := by decide +kernel
theorem dX11_judge_152 : decode cX11_judge 152 = .ok (.getfield 19, 3) := by decide +kernel
theorem dX11_judge_155 : decode cX11_judge 155 = .ok (.getfield 103, 3) := by decide +kernel
theorem dX11_judge_158 : decode cX11_judge 158 = .ok (.iconst 0, 1) := by decide +kernel
theorem dX11_judge_159 : decode cX11_judge 159 = .ok (.bipush 49, 2) := by decide +kernel
theorem dX11_judge_161 : decode cX11_judge 161 = .ok (.invokestatic 210, 3) := by decide +kernel
theorem dX11_judge_164 : decode cX11_judge 164 = .ok (.iload_n 2, 1) := by decide +kernel
theorem dX11_judge_165 : decode cX11_judge 165 = .ok (.tableswitch 45 0 2 #[27, 39, 42], 27) := by decide +kernel
theorem dX11_judge_192 : decode cX11_judge 192 = .ok (.iload 5, 2) := by decide +kernel
theorem dX11_judge_194 : decode cX11_judge 194 = .ok (.ifCond .eq 7, 3) := by decide +kernel
theorem dX11_judge_197 : decode cX11_judge 197 = .ok (.iconst (-1), 1) := by decide +kernel
theorem dX11_judge_198 : decode cX11_judge 198 = .ok (.goto 5, 3) := by decide +kernel
theorem dX11_judge_201 : decode cX11_judge 201 = .ok (.iload 4, 2) := by decide +kernel
theorem dX11_judge_203 : decode cX11_judge 203 = .ok (.ireturn, 1) := by decide +kernel
theorem dX11_judge_204 : decode cX11_judge 204 = .ok (.iload 6, 2) := by decide +kernel
theorem dX11_judge_206 : decode cX11_judge 206 = .ok (.ireturn, 1) := by decide +kernel
theorem dX11_judge_207 : decode cX11_judge 207 = .ok (.iload 7, 2) := by decide +kernel
theorem dX11_judge_209 : decode cX11_judge 209 = .ok (.ireturn, 1) := by decide +kernel
theorem dX11_judge_210 : decode cX11_judge 210 = .ok (.iload 8, 2) := by decide +kernel
theorem dX11_judge_212 : decode cX11_judge 212 = .ok (.ireturn, 1) := by decide +kernel
theorem dX11_perform_0 : decode cX11_perform 0 = .ok (.aload_n 0, 1) := by decide +kernel
theorem dX11_perform_1 : decode cX11_perform 1 = .ok (.iload_n 1, 1) := by decide +kernel
theorem dX11_perform_2 : decode cX11_perform 2 = .ok (.invokevirtual 202, 3) := by decide +kernel
theorem dX11_perform_5 : decode cX11_perform 5 = .ok (.astore_n 2, 1) := by decide +kernel
theorem dX11_perform_6 : decode cX11_perform 6 = .ok (.aload_n 2, 1) := by decide +kernel
theorem dX11_perform_7 : decode cX11_perform 7 = .ok (.invokestatic 206, 3) := by decide +kernel
theorem dX11_perform_10 : decode cX11_perform 10 = .ok (.iconst 0, 1) := by decide +kernel
theorem dX11_perform_11 : decode cX11_perform 11 = .ok (.istore_n 3, 1) := by decide +kernel
theorem dX11_perform_12 : decode cX11_perform 12 = .ok (.iload_n 3, 1) := by decide +kernel
theorem dX11_perform_13 : decode cX11_perform 13 = .ok (.aload_n 2, 1) := by decide +kernel
theorem dX11_perform_14 : decode cX11_perform 14 = .ok (.getfield 216, 3) := by decide +kernel
theorem dX11_perform_17 : decode cX11_perform 17 = .ok (.if_icmp .ge 52, 3) := by decide +kernel
theorem dX11_perform_20 : decode cX11_perform 20 = .ok (.aload_n 0, 1) := by decide +kernel
theorem dX11_perform_21 : decode cX11_perform 21 = .ok (.getfield 19, 3) := by decide +kernel
theorem dX11_perform_24 : decode cX11_perform 24 = .ok (.aload_n 2, 1) := by decide +kernel
theorem dX11_perform_25 : decode cX11_perform 25 = .ok (.getfield 217, 3) := by decide +kernel
theorem dX11_perform_28 : decode cX11_perform 28 = .ok (.iload_n 3, 1) := by decide +kernel
theorem dX11_perform_29 : decode cX11_perform 29 = .ok (.laload, 1) := by decide +kernel
theorem dX11_perform_30 : decode cX11_perform 30 = .ok (.invokevirtual 221, 3) := by decide +kernel
theorem dX11_perform_33 : decode cX11_perform 33 = .ok (.ifCond .ne 36, 3) := by decide +kernel
theorem dX11_perform_36 : decode cX11_perform 36 = .ok (.aload_n 0, 1) := by decide +kernel
theorem dX11_perform_37 : decode cX11_perform 37 = .ok (.getfield 26, 3) := by decide +kernel
theorem dX11_perform_40 : decode cX11_perform 40 = .ok (.aload_n 0, 1) := by decide +kernel
theorem dX11_perform_41 : decode cX11_perform 41 = .ok (.getfield 19, 3) := by decide +kernel
theorem dX11_perform_44 : decode cX11_perform 44 = .ok (.getfield 103, 3) := by decide +kernel
theorem dX11_perform_47 : decode cX11_perform 47 = .ok (.invokevirtual 165, 3) := by decide +kernel
theorem dX11_perform_50 : decode cX11_perform 50 = .ok (.aload_n 0, 1) := by decide +kernel
theorem dX11_perform_51 : decode cX11_perform 51 = .ok (.getfield 19, 3) := by decide +kernel
theorem dX11_perform_54 : decode cX11_perform 54 = .ok (.aload_n 2, 1) := by decide +kernel
theorem dX11_perform_55 : decode cX11_perform 55 = .ok (.getfield 217, 3) := by decide +kernel
theorem dX11_perform_58 : decode cX11_perform 58 = .ok (.iload_n 3, 1) := by decide +kernel
theorem dX11_perform_59 : decode cX11_perform 59 = .ok (.laload, 1) := by decide +kernel
theorem dX11_perform_60 : decode cX11_perform 60 = .ok (.invokevirtual 225, 3) := by decide +kernel
theorem dX11_perform_63 : decode cX11_perform 63 = .ok (.iinc 3 1, 3) := by decide +kernel
theorem dX11_perform_66 : decode cX11_perform 66 = .ok (.goto (-54), 3) := by decide +kernel
theorem dX11_perform_69 : decode cX11_perform 69 = .ok (.iload_n 3, 1) := by decide +kernel
theorem dX11_perform_70 : decode cX11_perform 70 = .ok (.ireturn, 1) := by decide +kernel
theorem dX11_season_0 : decode cX11_season 0 = .ok (.iload_n 2, 1) := by decide +kernel
theorem dX11_season_1 : decode cX11_season 1 = .ok (.iconst 1, 1) := by decide +kernel
theorem dX11_season_2 : decode cX11_season 2 = .ok (.bipush 30, 2) := by decide +kernel
theorem dX11_season_4 : decode cX11_season 4 = .ok (.invokestatic 74, 3) := by decide +kernel
theorem dX11_season_7 : decode cX11_season 7 = .ok (.aload_n 0, 1) := by decide +kernel
theorem dX11_season_8 : decode cX11_season 8 = .ok (.iload_n 1, 1) := by decide +kernel
theorem dX11_season_9 : decode cX11_season 9 = .ok (.putfield 46, 3) := by decide +kernel
theorem dX11_season_12 : decode cX11_season 12 = .ok (.iconst 0, 1) := by decide +kernel
theorem dX11_season_13 : decode cX11_season 13 = .ok (.istore_n 3, 1) := by decide +kernel
theorem dX11_season_14 : decode cX11_season 14 = .ok (.iconst 0, 1) := by decide +kernel
theorem dX11_season_15 : decode cX11_season 15 = .ok (.istore 4, 2) := by decide +kernel
theorem dX11_season_17 : decode cX11_season 17 = .ok (.iload 4, 2) := by decide +kernel
theorem dX11_season_19 : decode cX11_season 19 = .ok (.iload_n 2, 1) := by decide +kernel
theorem dX11_season_20 : decode cX11_season 20 = .ok (.if_icmp .ge 58, 3) := by decide +kernel
theorem dX11_season_23 : decode cX11_season 23 = .ok (.aload_n 0, 1) := by decide +kernel
theorem dX11_season_24 : decode cX11_season 24 = .ok (.iconst 5, 1) := by decide +kernel
theorem dX11_season_25 : decode cX11_season 25 = .ok (.invokevirtual 229, 3) := by decide +kernel
theorem dX11_season_28 : decode cX11_season 28 = .ok (.istore 5, 2) := by decide +kernel
theorem dX11_season_30 : decode cX11_season 30 = .ok (.iload 5, 2) := by decide +kernel
theorem dX11_season_32 : decode cX11_season 32 = .ok (.iconst 2, 1) := by decide +kernel
theorem dX11_season_33 : decode cX11_season 33 = .ok (.if_icmp .lt 16, 3) := by decide +kernel
theorem dX11_season_36 : decode cX11_season 36 = .ok (.aload_n 0, 1) := by decide +kernel
theorem dX11_season_37 : decode cX11_season 37 = .ok (.getfield 19, 3) := by decide +kernel
theorem dX11_season_40 : decode cX11_season 40 = .ok (.getfield 106, 3) := by decide +kernel
theorem dX11_season_43 : decode cX11_season 43 = .ok (.getfield 175, 3) := by decide +kernel
theorem dX11_season_46 : decode cX11_season 46 = .ok (.ifCond .le 26, 3) := by decide +kernel
theorem dX11_season_49 : decode cX11_season 49 = .ok (.aload_n 0, 1) := by decide +kernel
theorem dX11_season_50 : decode cX11_season 50 = .ok (.getfield 26, 3) := by decide +kernel
theorem dX11_season_53 : decode cX11_season 53 = .ok (.aload_n 0, 1) := by decide +kernel
theorem dX11_season_54 : decode cX11_season 54 = .ok (.getfield 19, 3) := by decide +kernel
theorem dX11_season_57 : decode cX11_season 57 = .ok (.getfield 103, 3) := by decide +kernel
theorem dX11_season_60 : decode cX11_season 60 = .ok (.invokevirtual 165, 3) := by decide +kernel
theorem dX11_season_63 : decode cX11_season 63 = .ok (.aload_n 0, 1) := by decide +kernel
theorem dX11_season_64 : decode cX11_season 64 = .ok (.iload 5, 2) := by decide +kernel
theorem dX11_season_66 : decode cX11_season 66 = .ok (.invokevirtual 232, 3) := by decide +kernel
theorem dX11_season_69 : decode cX11_season 69 = .ok (.iinc 3 1, 3) := by decide +kernel
theorem dX11_season_72 : decode cX11_season 72 = .ok (.iinc 4 1, 3) := by decide +kernel
theorem dX11_season_75 : decode cX11_season 75 = .ok (.goto (-58), 3) := by decide +kernel
theorem dX11_season_78 : decode cX11_season 78 = .ok (.iload_n 3, 1) := by decide +kernel
theorem dX11_season_79 : decode cX11_season 79 = .ok (.ireturn, 1) := by decide +kernel
theorem dX11_carryOutDrawn_0 : decode cX11_carryOutDrawn 0 = .ok (.iload_n 1, 1) := by decide +kernel
theorem dX11_carryOutDrawn_1 : decode cX11_carryOutDrawn 1 = .ok (.iconst 2, 1) := by decide +kernel
theorem dX11_carryOutDrawn_2 : decode cX11_carryOutDrawn 2 = .ok (.if_icmp .ge 17, 3) := by decide +kernel
theorem dX11_carryOutDrawn_5 : decode cX11_carryOutDrawn 5 = .ok (.aload_n 0, 1) := by decide +kernel
theorem dX11_carryOutDrawn_6 : decode cX11_carryOutDrawn 6 = .ok (.getfield 19, 3) := by decide +kernel
theorem dX11_carryOutDrawn_9 : decode cX11_carryOutDrawn 9 = .ok (.getfield 103, 3) := by decide +kernel
theorem dX11_carryOutDrawn_12 : decode cX11_carryOutDrawn 12 = .ok (.iconst 0, 1) := by decide +kernel
theorem dX11_carryOutDrawn_13 : decode cX11_carryOutDrawn 13 = .ok (.dup2, 1) := by decide +kernel
theorem dX11_carryOutDrawn_14 : decode cX11_carryOutDrawn 14 = .ok (.iaload, 1) := by decide +kernel
theorem dX11_carryOutDrawn_15 : decode cX11_carryOutDrawn 15 = .ok (.iconst 1, 1) := by decide +kernel
theorem dX11_carryOutDrawn_16 : decode cX11_carryOutDrawn 16 = .ok (.iadd, 1) := by decide +kernel
theorem dX11_carryOutDrawn_17 : decode cX11_carryOutDrawn 17 = .ok (.iastore, 1) := by decide +kernel
theorem dX11_carryOutDrawn_18 : decode cX11_carryOutDrawn 18 = .ok (.return_, 1) := by decide +kernel
theorem dX11_carryOutDrawn_19 : decode cX11_carryOutDrawn 19 = .ok (.iload_n 1, 1) := by decide +kernel
theorem dX11_carryOutDrawn_20 : decode cX11_carryOutDrawn 20 = .ok (.iconst 4, 1) := by decide +kernel
theorem dX11_carryOutDrawn_21 : decode cX11_carryOutDrawn 21 = .ok (.if_icmp .ne 44, 3) := by decide +kernel
theorem dX11_carryOutDrawn_24 : decode cX11_carryOutDrawn 24 = .ok (.aload_n 0, 1) := by decide +kernel
theorem dX11_carryOutDrawn_25 : decode cX11_carryOutDrawn 25 = .ok (.bipush 10, 2) := by decide +kernel
theorem dX11_carryOutDrawn_27 : decode cX11_carryOutDrawn 27 = .ok (.invokevirtual 229, 3) := by decide +kernel
theorem dX11_carryOutDrawn_30 : decode cX11_carryOutDrawn 30 = .ok (.istore_n 2, 1) := by decide +kernel
theorem dX11_carryOutDrawn_31 : decode cX11_carryOutDrawn 31 = .ok (.aload_n 0, 1) := by decide +kernel
theorem dX11_carryOutDrawn_32 : decode cX11_carryOutDrawn 32 = .ok (.aload_n 0, 1) := by decide +kernel
theorem dX11_carryOutDrawn_33 : decode cX11_carryOutDrawn 33 = .ok (.getfield 19, 3) := by decide +kernel
theorem dX11_carryOutDrawn_36 : decode cX11_carryOutDrawn 36 = .ok (.getfield 106, 3) := by decide +kernel
theorem dX11_carryOutDrawn_39 : decode cX11_carryOutDrawn 39 = .ok (.getfield 175, 3) := by decide +kernel
theorem dX11_carryOutDrawn_42 : decode cX11_carryOutDrawn 42 = .ok (.invokevirtual 229, 3) := by decide +kernel
theorem dX11_carryOutDrawn_45 : decode cX11_carryOutDrawn 45 = .ok (.istore_n 3, 1) := by decide +kernel
theorem dX11_carryOutDrawn_46 : decode cX11_carryOutDrawn 46 = .ok (.aload_n 0, 1) := by decide +kernel
theorem dX11_carryOutDrawn_47 : decode cX11_carryOutDrawn 47 = .ok (.getfield 19, 3) := by decide +kernel
theorem dX11_carryOutDrawn_50 : decode cX11_carryOutDrawn 50 = .ok (.iload_n 2, 1) := by decide +kernel
theorem dX11_carryOutDrawn_51 : decode cX11_carryOutDrawn 51 = .ok (.iload_n 3, 1) := by decide +kernel
theorem dX11_carryOutDrawn_52 : decode cX11_carryOutDrawn 52 = .ok (.iconst 1, 1) := by decide +kernel
theorem dX11_carryOutDrawn_53 : decode cX11_carryOutDrawn 53 = .ok (.aload_n 0, 1) := by decide +kernel
theorem dX11_carryOutDrawn_54 : decode cX11_carryOutDrawn 54 = .ok (.bipush 24, 2) := by decide +kernel
theorem dX11_carryOutDrawn_56 : decode cX11_carryOutDrawn 56 = .ok (.invokevirtual 229, 3) := by decide +kernel
theorem dX11_carryOutDrawn_59 : decode cX11_carryOutDrawn 59 = .ok (.iadd, 1) := by decide +kernel
theorem dX11_carryOutDrawn_60 : decode cX11_carryOutDrawn 60 = .ok (.invokevirtual 195, 3) := by decide +kernel
theorem dX11_carryOutDrawn_63 : decode cX11_carryOutDrawn 63 = .ok (.pop, 1) := by decide +kernel
theorem dX11_carryOutDrawn_64 : decode cX11_carryOutDrawn 64 = .ok (.return_, 1) := by decide +kernel
theorem dX11_carryOutDrawn_65 : decode cX11_carryOutDrawn 65 = .ok (.aload_n 0, 1) := by decide +kernel
theorem dX11_carryOutDrawn_66 : decode cX11_carryOutDrawn 66 = .ok (.aload_n 0, 1) := by decide +kernel
theorem dX11_carryOutDrawn_67 : decode cX11_carryOutDrawn 67 = .ok (.getfield 19, 3) := by decide +kernel
theorem dX11_carryOutDrawn_70 : decode cX11_carryOutDrawn 70 = .ok (.getfield 106, 3) := by decide +kernel
theorem dX11_carryOutDrawn_73 : decode cX11_carryOutDrawn 73 = .ok (.getfield 175, 3) := by decide +kernel
theorem dX11_carryOutDrawn_76 : decode cX11_carryOutDrawn 76 = .ok (.invokevirtual 229, 3) := by decide +kernel
theorem dX11_carryOutDrawn_79 : decode cX11_carryOutDrawn 79 = .ok (.istore_n 2, 1) := by decide +kernel
theorem dX11_carryOutDrawn_80 : decode cX11_carryOutDrawn 80 = .ok (.aload_n 0, 1) := by decide +kernel
theorem dX11_carryOutDrawn_81 : decode cX11_carryOutDrawn 81 = .ok (.getfield 19, 3) := by decide +kernel
theorem dX11_carryOutDrawn_84 : decode cX11_carryOutDrawn 84 = .ok (.iload_n 1, 1) := by decide +kernel
theorem dX11_carryOutDrawn_85 : decode cX11_carryOutDrawn 85 = .ok (.iconst 2, 1) := by decide +kernel
theorem dX11_carryOutDrawn_86 : decode cX11_carryOutDrawn 86 = .ok (.if_icmp .ne 7, 3) := by decide +kernel
theorem dX11_carryOutDrawn_89 : decode cX11_carryOutDrawn 89 = .ok (.iconst 3, 1) := by decide +kernel
theorem dX11_carryOutDrawn_90 : decode cX11_carryOutDrawn 90 = .ok (.goto 5, 3) := by decide +kernel
theorem dX11_carryOutDrawn_93 : decode cX11_carryOutDrawn 93 = .ok (.bipush 18, 2) := by decide +kernel
theorem dX11_carryOutDrawn_95 : decode cX11_carryOutDrawn 95 = .ok (.iload_n 2, 1) := by decide +kernel
theorem dX11_carryOutDrawn_96 : decode cX11_carryOutDrawn 96 = .ok (.aload_n 0, 1) := by decide +kernel
theorem dX11_carryOutDrawn_97 : decode cX11_carryOutDrawn 97 = .ok (.bipush 61, 2) := by decide +kernel
theorem dX11_carryOutDrawn_99 : decode cX11_carryOutDrawn 99 = .ok (.invokevirtual 229, 3) := by decide +kernel
theorem dX11_carryOutDrawn_102 : decode cX11_carryOutDrawn 102 = .ok (.bipush 6, 2) := by decide +kernel
theorem dX11_carryOutDrawn_104 : decode cX11_carryOutDrawn 104 = .ok (.invokevirtual 169, 3) := by decide +kernel
theorem dX11_carryOutDrawn_107 : decode cX11_carryOutDrawn 107 = .ok (.return_, 1) := by decide +kernel
theorem dX11_drawBelow_0 : decode cX11_drawBelow 0 = .ok (.aload_n 0, 1) := by decide +kernel
theorem dX11_drawBelow_1 : decode cX11_drawBelow 1 = .ok (.ldc 235, 2) := by decide +kernel
theorem dX11_drawBelow_3 : decode cX11_drawBelow 3 = .ok (.aload_n 0, 1) := by decide +kernel
theorem dX11_drawBelow_4 : decode cX11_drawBelow 4 = .ok (.getfield 46, 3) := by decide +kernel
theorem dX11_drawBelow_7 : decode cX11_drawBelow 7 = .ok (.imul, 1) := by decide +kernel
theorem dX11_drawBelow_8 : decode cX11_drawBelow 8 = .ok (.sipush 12345, 3) := by decide +kernel
theorem dX11_drawBelow_11 : decode cX11_drawBelow 11 = .ok (.iadd, 1) := by decide +kernel
theorem dX11_drawBelow_12 : decode cX11_drawBelow 12 = .ok (.putfield 46, 3) := by decide +kernel
theorem dX11_drawBelow_15 : decode cX11_drawBelow 15 = .ok (.iload_n 1, 1) := by decide +kernel
theorem dX11_drawBelow_16 : decode cX11_drawBelow 16 = .ok (.iconst 1, 1) := by decide +kernel
theorem dX11_drawBelow_17 : decode cX11_drawBelow 17 = .ok (.if_icmp .ge 7, 3) := by decide +kernel
theorem dX11_drawBelow_20 : decode cX11_drawBelow 20 = .ok (.iconst 0, 1) := by decide +kernel
theorem dX11_drawBelow_21 : decode cX11_drawBelow 21 = .ok (.goto 12, 3) := by decide +kernel
theorem dX11_drawBelow_24 : decode cX11_drawBelow 24 = .ok (.aload_n 0, 1) := by decide +kernel
theorem dX11_drawBelow_25 : decode cX11_drawBelow 25 = .ok (.getfield 46, 3) := by decide +kernel
theorem dX11_drawBelow_28 : decode cX11_drawBelow 28 = .ok (.bipush 16, 2) := by decide +kernel
theorem dX11_drawBelow_30 : decode cX11_drawBelow 30 = .ok (.iushr, 1) := by decide +kernel
theorem dX11_drawBelow_31 : decode cX11_drawBelow 31 = .ok (.iload_n 1, 1) := by decide +kernel
theorem dX11_drawBelow_32 : decode cX11_drawBelow 32 = .ok (.irem, 1) := by decide +kernel
theorem dX11_drawBelow_33 : decode cX11_drawBelow 33 = .ok (.ireturn, 1) := by decide +kernel
theorem dX11_ahead_0 : decode cX11_ahead 0 = .ok (.aload_n 0, 1) := by decide +kernel
theorem dX11_ahead_1 : decode cX11_ahead 1 = .ok (.getfield 50, 3) := by decide +kernel
theorem dX11_ahead_4 : decode cX11_ahead 4 = .ok (.ifnonnull 18, 3) := by decide +kernel
theorem dX11_ahead_7 : decode cX11_ahead 7 = .ok (.aload_n 0, 1) := by decide +kernel
theorem dX11_ahead_8 : decode cX11_ahead 8 = .ok (.new 157, 3) := by decide +kernel
theorem dX11_ahead_11 : decode cX11_ahead 11 = .ok (.dup, 1) := by decide +kernel
theorem dX11_ahead_12 : decode cX11_ahead 12 = .ok (.aload_n 0, 1) := by decide +kernel
theorem dX11_ahead_13 : decode cX11_ahead 13 = .ok (.getfield 19, 3) := by decide +kernel
theorem dX11_ahead_16 : decode cX11_ahead 16 = .ok (.invokespecial 236, 3) := by decide +kernel
theorem dX11_ahead_19 : decode cX11_ahead 19 = .ok (.putfield 50, 3) := by decide +kernel
theorem dX11_ahead_22 : decode cX11_ahead 22 = .ok (.aload_n 0, 1) := by decide +kernel
theorem dX11_ahead_23 : decode cX11_ahead 23 = .ok (.getfield 50, 3) := by decide +kernel
theorem dX11_ahead_26 : decode cX11_ahead 26 = .ok (.areturn, 1) := by decide +kernel
theorem dX11_soonest_0 : decode cX11_soonest 0 = .ok (.aload_n 0, 1) := by decide +kernel
theorem dX11_soonest_1 : decode cX11_soonest 1 = .ok (.iload_n 1, 1) := by decide +kernel
theorem dX11_soonest_2 : decode cX11_soonest 2 = .ok (.iload_n 2, 1) := by decide +kernel
theorem dX11_soonest_3 : decode cX11_soonest 3 = .ok (.iload_n 3, 1) := by decide +kernel
theorem dX11_soonest_4 : decode cX11_soonest 4 = .ok (.invokevirtual 145, 3) := by decide +kernel
theorem dX11_soonest_7 : decode cX11_soonest 7 = .ok (.aload_n 0, 1) := by decide +kernel
theorem dX11_soonest_8 : decode cX11_soonest 8 = .ok (.invokevirtual 152, 3) := by decide +kernel
theorem dX11_soonest_11 : decode cX11_soonest 11 = .ok (.iload_n 1, 1) := by decide +kernel
theorem dX11_soonest_12 : decode cX11_soonest 12 = .ok (.iload_n 2, 1) := by decide +kernel
theorem dX11_soonest_13 : decode cX11_soonest 13 = .ok (.iload_n 3, 1) := by decide +kernel
theorem dX11_soonest_14 : decode cX11_soonest 14 = .ok (.invokevirtual 239, 3) := by decide +kernel
theorem dX11_soonest_17 : decode cX11_soonest 17 = .ok (.ireturn, 1) := by decide +kernel
theorem dX11_where_0 : decode cX11_where 0 = .ok (.iload_n 1, 1) := by decide +kernel
theorem dX11_where_1 : decode cX11_where 1 = .ok (.invokestatic 242, 3) := by decide +kernel
theorem dX11_where_4 : decode cX11_where 4 = .ok (.iload_n 2, 1) := by decide +kernel
theorem dX11_where_5 : decode cX11_where 5 = .ok (.iconst 1, 1) := by decide +kernel
theorem dX11_where_6 : decode cX11_where 6 = .ok (.bipush 24, 2) := by decide +kernel
theorem dX11_where_8 : decode cX11_where 8 = .ok (.invokestatic 74, 3) := by decide +kernel
theorem dX11_where_11 : decode cX11_where 11 = .ok (.iconst (-1), 1) := by decide +kernel
theorem dX11_where_12 : decode cX11_where 12 = .ok (.istore_n 3, 1) := by decide +kernel
theorem dX11_where_13 : decode cX11_where 13 = .ok (.sipush 201, 3) := by decide +kernel
theorem dX11_where_16 : decode cX11_where 16 = .ok (.istore 4, 2) := by decide +kernel
theorem dX11_where_18 : decode cX11_where 18 = .ok (.iconst 0, 1) := by decide +kernel
theorem dX11_where_19 : decode cX11_where 19 = .ok (.istore 5, 2) := by decide +kernel
theorem dX11_where_21 : decode cX11_where 21 = .ok (.iload 5, 2) := by decide +kernel
theorem dX11_where_23 : decode cX11_where 23 = .ok (.aload_n 0, 1) := by decide +kernel
theorem dX11_where_24 : decode cX11_where 24 = .ok (.getfield 19, 3) := by decide +kernel
theorem dX11_where_27 : decode cX11_where 27 = .ok (.getfield 106, 3) := by decide +kernel
theorem dX11_where_30 : decode cX11_where 30 = .ok (.getfield 175, 3) := by decide +kernel
theorem dX11_where_33 : decode cX11_where 33 = .ok (.if_icmp .ge 42, 3) := by decide +kernel
theorem dX11_where_36 : decode cX11_where 36 = .ok (.aload_n 0, 1) := by decide +kernel
theorem dX11_where_37 : decode cX11_where 37 = .ok (.invokevirtual 152, 3) := by decide +kernel
theorem dX11_where_40 : decode cX11_where 40 = .ok (.iload_n 1, 1) := by decide +kernel
theorem dX11_where_41 : decode cX11_where 41 = .ok (.iload 5, 2) := by decide +kernel
theorem dX11_where_43 : decode cX11_where 43 = .ok (.iload_n 2, 1) := by decide +kernel
theorem dX11_where_44 : decode cX11_where 44 = .ok (.invokevirtual 239, 3) := by decide +kernel
theorem dX11_where_47 : decode cX11_where 47 = .ok (.istore 6, 2) := by decide +kernel
theorem dX11_where_49 : decode cX11_where 49 = .ok (.iload 6, 2) := by decide +kernel
theorem dX11_where_51 : decode cX11_where 51 = .ok (.iconst (-1), 1) := by decide +kernel
theorem dX11_where_52 : decode cX11_where 52 = .ok (.if_icmp .eq 17, 3) := by decide +kernel
theorem dX11_where_55 : decode cX11_where 55 = .ok (.iload 6, 2) := by decide +kernel
theorem dX11_where_57 : decode cX11_where 57 = .ok (.iload 4, 2) := by decide +kernel
theorem dX11_where_59 : decode cX11_where 59 = .ok (.if_icmp .ge 10, 3) := by decide +kernel
theorem dX11_where_62 : decode cX11_where 62 = .ok (.iload 6, 2) := by decide +kernel
theorem dX11_where_64 : decode cX11_where 64 = .ok (.istore 4, 2) := by decide +kernel
theorem dX11_where_66 : decode cX11_where 66 = .ok (.iload 5, 2) := by decide +kernel
theorem dX11_where_68 : decode cX11_where 68 = .ok (.istore_n 3, 1) := by decide +kernel
theorem dX11_where_69 : decode cX11_where 69 = .ok (.iinc 5 1, 3) := by decide +kernel
theorem dX11_where_72 : decode cX11_where 72 = .ok (.goto (-51), 3) := by decide +kernel
theorem dX11_where_75 : decode cX11_where 75 = .ok (.iload_n 3, 1) := by decide +kernel
theorem dX11_where_76 : decode cX11_where 76 = .ok (.ireturn, 1) := by decide +kernel
theorem dX11_cheapest_0 : decode cX11_cheapest 0 = .ok (.aload_n 0, 1) := by decide +kernel
theorem dX11_cheapest_1 : decode cX11_cheapest 1 = .ok (.iload_n 1, 1) := by decide +kernel
theorem dX11_cheapest_2 : decode cX11_cheapest 2 = .ok (.iload_n 2, 1) := by decide +kernel
theorem dX11_cheapest_3 : decode cX11_cheapest 3 = .ok (.iload_n 3, 1) := by decide +kernel
theorem dX11_cheapest_4 : decode cX11_cheapest 4 = .ok (.invokevirtual 145, 3) := by decide +kernel
theorem dX11_cheapest_7 : decode cX11_cheapest 7 = .ok (.aload_n 0, 1) := by decide +kernel
theorem dX11_cheapest_8 : decode cX11_cheapest 8 = .ok (.invokevirtual 152, 3) := by decide +kernel
theorem dX11_cheapest_11 : decode cX11_cheapest 11 = .ok (.iload_n 1, 1) := by decide +kernel
theorem dX11_cheapest_12 : decode cX11_cheapest 12 = .ok (.iload_n 2, 1) := by decide +kernel
theorem dX11_cheapest_13 : decode cX11_cheapest 13 = .ok (.iload_n 3, 1) := by decide +kernel
theorem dX11_cheapest_14 : decode cX11_cheapest 14 = .ok (.invokevirtual 245, 3) := by decide +kernel
theorem dX11_cheapest_17 : decode cX11_cheapest 17 = .ok (.ireturn, 1) := by decide +kernel
theorem dX11_freeHours_0 : decode cX11_freeHours 0 = .ok (.aload_n 0, 1) := by decide +kernel
theorem dX11_freeHours_1 : decode cX11_freeHours 1 = .ok (.iload_n 2, 1) := by decide +kernel
theorem dX11_freeHours_2 : decode cX11_freeHours 2 = .ok (.invokevirtual 100, 3) := by decide +kernel
theorem dX11_freeHours_5 : decode cX11_freeHours 5 = .ok (.iload_n 1, 1) := by decide +kernel
theorem dX11_freeHours_6 : decode cX11_freeHours 6 = .ok (.invokestatic 242, 3) := by decide +kernel
theorem dX11_freeHours_9 : decode cX11_freeHours 9 = .ok (.iload_n 3, 1) := by decide +kernel
theorem dX11_freeHours_10 : decode cX11_freeHours 10 = .ok (.iconst 1, 1) := by decide +kernel
theorem dX11_freeHours_11 : decode cX11_freeHours 11 = .ok (.sipush 200, 3) := by decide +kernel
theorem dX11_freeHours_14 : decode cX11_freeHours 14 = .ok (.invokestatic 74, 3) := by decide +kernel
theorem dX11_freeHours_17 : decode cX11_freeHours 17 = .ok (.aload_n 0, 1) := by decide +kernel
theorem dX11_freeHours_18 : decode cX11_freeHours 18 = .ok (.invokevirtual 152, 3) := by decide +kernel
theorem dX11_freeHours_21 : decode cX11_freeHours 21 = .ok (.iload_n 1, 1) := by decide +kernel
theorem dX11_freeHours_22 : decode cX11_freeHours 22 = .ok (.iload_n 2, 1) := by decide +kernel
theorem dX11_freeHours_23 : decode cX11_freeHours 23 = .ok (.iload_n 3, 1) := by decide +kernel
theorem dX11_freeHours_24 : decode cX11_freeHours 24 = .ok (.invokevirtual 248, 3) := by decide +kernel
theorem dX11_freeHours_27 : decode cX11_freeHours 27 = .ok (.ireturn, 1) := by decide +kernel
theorem dX11_spell_0 : decode cX11_spell 0 = .ok (.aload_n 0, 1) := by decide +kernel
theorem dX11_spell_1 : decode cX11_spell 1 = .ok (.iload_n 2, 1) := by decide +kernel
theorem dX11_spell_2 : decode cX11_spell 2 = .ok (.invokevirtual 100, 3) := by decide +kernel
theorem dX11_spell_5 : decode cX11_spell 5 = .ok (.iload_n 1, 1) := by decide +kernel
theorem dX11_spell_6 : decode cX11_spell 6 = .ok (.invokestatic 242, 3) := by decide +kernel
theorem dX11_spell_9 : decode cX11_spell 9 = .ok (.iload_n 3, 1) := by decide +kernel
theorem dX11_spell_10 : decode cX11_spell 10 = .ok (.iconst 1, 1) := by decide +kernel
theorem dX11_spell_11 : decode cX11_spell 11 = .ok (.sipush 200, 3) := by decide +kernel
theorem dX11_spell_14 : decode cX11_spell 14 = .ok (.invokestatic 74, 3) := by decide +kernel
theorem dX11_spell_17 : decode cX11_spell 17 = .ok (.iload 4, 2) := by decide +kernel
theorem dX11_spell_19 : decode cX11_spell 19 = .ok (.iconst 0, 1) := by decide +kernel
theorem dX11_spell_20 : decode cX11_spell 20 = .ok (.iconst 1, 1) := by decide +kernel
theorem dX11_spell_21 : decode cX11_spell 21 = .ok (.invokestatic 74, 3) := by decide +kernel
theorem dX11_spell_24 : decode cX11_spell 24 = .ok (.aload_n 0, 1) := by decide +kernel
theorem dX11_spell_25 : decode cX11_spell 25 = .ok (.invokevirtual 152, 3) := by decide +kernel
theorem dX11_spell_28 : decode cX11_spell 28 = .ok (.iload_n 1, 1) := by decide +kernel
theorem dX11_spell_29 : decode cX11_spell 29 = .ok (.iload_n 2, 1) := by decide +kernel
theorem dX11_spell_30 : decode cX11_spell 30 = .ok (.iload_n 3, 1) := by decide +kernel
theorem dX11_spell_31 : decode cX11_spell 31 = .ok (.iload 4, 2) := by decide +kernel
theorem dX11_spell_33 : decode cX11_spell 33 = .ok (.ifCond .ne 7, 3) := by decide +kernel
theorem dX11_spell_36 : decode cX11_spell 36 = .ok (.iconst 1, 1) := by decide +kernel
theorem dX11_spell_37 : decode cX11_spell 37 = .ok (.goto 4, 3) := by decide +kernel
theorem dX11_spell_40 : decode cX11_spell 40 = .ok (.iconst 0, 1) := by decide +kernel
theorem dX11_spell_41 : decode cX11_spell 41 = .ok (.invokevirtual 251, 3) := by decide +kernel
theorem dX11_spell_44 : decode cX11_spell 44 = .ok (.ireturn, 1) := by decide +kernel
theorem dX11_lawless_0 : decode cX11_lawless 0 = .ok (.aload_n 0, 1) := by decide +kernel
theorem dX11_lawless_1 : decode cX11_lawless 1 = .ok (.iload_n 1, 1) := by decide +kernel
theorem dX11_lawless_2 : decode cX11_lawless 2 = .ok (.invokevirtual 100, 3) := by decide +kernel
theorem dX11_lawless_5 : decode cX11_lawless 5 = .ok (.iconst 0, 1) := by decide +kernel
theorem dX11_lawless_6 : decode cX11_lawless 6 = .ok (.istore_n 2, 1) := by decide +kernel
theorem dX11_lawless_7 : decode cX11_lawless 7 = .ok (.iload_n 2, 1) := by decide +kernel
theorem dX11_lawless_8 : decode cX11_lawless 8 = .ok (.sipush 200, 3) := by decide +kernel
theorem dX11_lawless_11 : decode cX11_lawless 11 = .ok (.if_icmp .gt 33, 3) := by decide +kernel
theorem dX11_lawless_14 : decode cX11_lawless 14 = .ok (.aload_n 0, 1) := by decide +kernel
theorem dX11_lawless_15 : decode cX11_lawless 15 = .ok (.getfield 19, 3) := by decide +kernel
theorem dX11_lawless_18 : decode cX11_lawless 18 = .ok (.iload_n 1, 1) := by decide +kernel
theorem dX11_lawless_19 : decode cX11_lawless 19 = .ok (.aload_n 0, 1) := by decide +kernel
theorem dX11_lawless_20 : decode cX11_lawless 20 = .ok (.getfield 19, 3) := by decide +kernel
theorem dX11_lawless_23 : decode cX11_lawless 23 = .ok (.getfield 103, 3) := by decide +kernel
theorem dX11_lawless_26 : decode cX11_lawless 26 = .ok (.iconst 0, 1) := by decide +kernel
theorem dX11_lawless_27 : decode cX11_lawless 27 = .ok (.iaload, 1) := by decide +kernel
theorem dX11_lawless_28 : decode cX11_lawless 28 = .ok (.iload_n 2, 1) := by decide +kernel
theorem dX11_lawless_29 : decode cX11_lawless 29 = .ok (.iadd, 1) := by decide +kernel
theorem dX11_lawless_30 : decode cX11_lawless 30 = .ok (.invokevirtual 142, 3) := by decide +kernel
theorem dX11_lawless_33 : decode cX11_lawless 33 = .ok (.ifCond .ne 5, 3) := by decide +kernel
theorem dX11_lawless_36 : decode cX11_lawless 36 = .ok (.iload_n 2, 1) := by decide +kernel
theorem dX11_lawless_37 : decode cX11_lawless 37 = .ok (.ireturn, 1) := by decide +kernel
theorem dX11_lawless_38 : decode cX11_lawless 38 = .ok (.iinc 2 1, 3) := by decide +kernel
theorem dX11_lawless_41 : decode cX11_lawless 41 = .ok (.goto (-34), 3) := by decide +kernel
theorem dX11_lawless_44 : decode cX11_lawless 44 = .ok (.iconst (-1), 1) := by decide +kernel
theorem dX11_lawless_45 : decode cX11_lawless 45 = .ok (.ireturn, 1) := by decide +kernel
theorem dX11_alwaysBarred_0 : decode cX11_alwaysBarred 0 = .ok (.iconst 0, 1) := by decide +kernel
theorem dX11_alwaysBarred_1 : decode cX11_alwaysBarred 1 = .ok (.istore_n 1, 1) := by decide +kernel
theorem dX11_alwaysBarred_2 : decode cX11_alwaysBarred 2 = .ok (.iconst 0, 1) := by decide +kernel
theorem dX11_alwaysBarred_3 : decode cX11_alwaysBarred 3 = .ok (.istore_n 2, 1) := by decide +kernel
theorem dX11_alwaysBarred_4 : decode cX11_alwaysBarred 4 = .ok (.iload_n 2, 1) := by decide +kernel
theorem dX11_alwaysBarred_5 : decode cX11_alwaysBarred 5 = .ok (.aload_n 0, 1) := by decide +kernel
theorem dX11_alwaysBarred_6 : decode cX11_alwaysBarred 6 = .ok (.getfield 19, 3) := by decide +kernel
theorem dX11_alwaysBarred_9 : decode cX11_alwaysBarred 9 = .ok (.getfield 106, 3) := by decide +kernel
theorem dX11_alwaysBarred_12 : decode cX11_alwaysBarred 12 = .ok (.getfield 175, 3) := by decide +kernel
theorem dX11_alwaysBarred_15 : decode cX11_alwaysBarred 15 = .ok (.if_icmp .ge 70, 3) := by decide +kernel
theorem dX11_alwaysBarred_18 : decode cX11_alwaysBarred 18 = .ok (.sipush 1023, 3) := by decide +kernel
theorem dX11_alwaysBarred_21 : decode cX11_alwaysBarred 21 = .ok (.istore_n 3, 1) := by decide +kernel
theorem dX11_alwaysBarred_22 : decode cX11_alwaysBarred 22 = .ok (.iconst 0, 1) := by decide +kernel
theorem dX11_alwaysBarred_23 : decode cX11_alwaysBarred 23 = .ok (.istore 4, 2) := by decide +kernel
theorem dX11_alwaysBarred_25 : decode cX11_alwaysBarred 25 = .ok (.iload 4, 2) := by decide +kernel
theorem dX11_alwaysBarred_27 : decode cX11_alwaysBarred 27 = .ok (.bipush 24, 2) := by decide +kernel
theorem dX11_alwaysBarred_29 : decode cX11_alwaysBarred 29 = .ok (.if_icmp .ge 46, 3) := by decide +kernel
theorem dX11_alwaysBarred_32 : decode cX11_alwaysBarred 32 = .ok (.iload_n 3, 1) := by decide +kernel
theorem dX11_alwaysBarred_33 : decode cX11_alwaysBarred 33 = .ok (.ifCond .eq 42, 3) := by decide +kernel
theorem dX11_alwaysBarred_36 : decode cX11_alwaysBarred 36 = .ok (.iload_n 3, 1) := by decide +kernel
theorem dX11_alwaysBarred_37 : decode cX11_alwaysBarred 37 = .ok (.aload_n 0, 1) := by decide +kernel
theorem dX11_alwaysBarred_38 : decode cX11_alwaysBarred 38 = .ok (.getfield 19, 3) := by decide +kernel
theorem dX11_alwaysBarred_41 : decode cX11_alwaysBarred 41 = .ok (.getfield 106, 3) := by decide +kernel
theorem dX11_alwaysBarred_44 : decode cX11_alwaysBarred 44 = .ok (.aload_n 0, 1) := by decide +kernel
theorem dX11_alwaysBarred_45 : decode cX11_alwaysBarred 45 = .ok (.getfield 19, 3) := by decide +kernel
theorem dX11_alwaysBarred_48 : decode cX11_alwaysBarred 48 = .ok (.iload_n 2, 1) := by decide +kernel
theorem dX11_alwaysBarred_49 : decode cX11_alwaysBarred 49 = .ok (.aload_n 0, 1) := by decide +kernel
theorem dX11_alwaysBarred_50 : decode cX11_alwaysBarred 50 = .ok (.getfield 19, 3) := by decide +kernel
theorem dX11_alwaysBarred_53 : decode cX11_alwaysBarred 53 = .ok (.getfield 103, 3) := by decide +kernel
theorem dX11_alwaysBarred_56 : decode cX11_alwaysBarred 56 = .ok (.iconst 0, 1) := by decide +kernel
theorem dX11_alwaysBarred_57 : decode cX11_alwaysBarred 57 = .ok (.iaload, 1) := by decide +kernel
theorem dX11_alwaysBarred_58 : decode cX11_alwaysBarred 58 = .ok (.iload 4, 2) := by decide +kernel
theorem dX11_alwaysBarred_60 : decode cX11_alwaysBarred 60 = .ok (.iadd, 1) := by decide +kernel
theorem dX11_alwaysBarred_61 : decode cX11_alwaysBarred 61 = .ok (.invokevirtual 142, 3) := by decide +kernel
theorem dX11_alwaysBarred_64 : decode cX11_alwaysBarred 64 = .ok (.invokevirtual 255, 3) := by decide +kernel
theorem dX11_alwaysBarred_67 : decode cX11_alwaysBarred 67 = .ok (.iand, 1) := by decide +kernel
theorem dX11_alwaysBarred_68 : decode cX11_alwaysBarred 68 = .ok (.istore_n 3, 1) := by decide +kernel
theorem dX11_alwaysBarred_69 : decode cX11_alwaysBarred 69 = .ok (.iinc 4 1, 3) := by decide +kernel
theorem dX11_alwaysBarred_72 : decode cX11_alwaysBarred 72 = .ok (.goto (-47), 3) := by decide +kernel
theorem dX11_alwaysBarred_75 : decode cX11_alwaysBarred 75 = .ok (.iload_n 1, 1) := by decide +kernel
theorem dX11_alwaysBarred_76 : decode cX11_alwaysBarred 76 = .ok (.iload_n 3, 1) := by decide +kernel
theorem dX11_alwaysBarred_77 : decode cX11_alwaysBarred 77 = .ok (.ior, 1) := by decide +kernel
theorem dX11_alwaysBarred_78 : decode cX11_alwaysBarred 78 = .ok (.istore_n 1, 1) := by decide +kernel
theorem dX11_alwaysBarred_79 : decode cX11_alwaysBarred 79 = .ok (.iinc 2 1, 3) := by decide +kernel
theorem dX11_alwaysBarred_82 : decode cX11_alwaysBarred 82 = .ok (.goto (-78), 3) := by decide +kernel
theorem dX11_alwaysBarred_85 : decode cX11_alwaysBarred 85 = .ok (.iload_n 1, 1) := by decide +kernel
theorem dX11_alwaysBarred_86 : decode cX11_alwaysBarred 86 = .ok (.ireturn, 1) := by decide +kernel
theorem dX11_strictest_0 : decode cX11_strictest 0 = .ok (.iconst 0, 1) := by decide +kernel
theorem dX11_strictest_1 : decode cX11_strictest 1 = .ok (.istore_n 1, 1) := by decide +kernel
theorem dX11_strictest_2 : decode cX11_strictest 2 = .ok (.iconst (-1), 1) := by decide +kernel
theorem dX11_strictest_3 : decode cX11_strictest 3 = .ok (.istore_n 2, 1) := by decide +kernel
theorem dX11_strictest_4 : decode cX11_strictest 4 = .ok (.iconst 0, 1) := by decide +kernel
theorem dX11_strictest_5 : decode cX11_strictest 5 = .ok (.istore_n 3, 1) := by decide +kernel
theorem dX11_strictest_6 : decode cX11_strictest 6 = .ok (.iload_n 3, 1) := by decide +kernel
theorem dX11_strictest_7 : decode cX11_strictest 7 = .ok (.sipush 200, 3) := by decide +kernel
theorem dX11_strictest_10 : decode cX11_strictest 10 = .ok (.if_icmp .gt 75, 3) := by decide +kernel
theorem dX11_strictest_13 : decode cX11_strictest 13 = .ok (.iconst 0, 1) := by decide +kernel
theorem dX11_strictest_14 : decode cX11_strictest 14 = .ok (.istore 4, 2) := by decide +kernel
theorem dX11_strictest_16 : decode cX11_strictest 16 = .ok (.iconst 0, 1) := by decide +kernel
theorem dX11_strictest_17 : decode cX11_strictest 17 = .ok (.istore 5, 2) := by decide +kernel
theorem dX11_strictest_19 : decode cX11_strictest 19 = .ok (.iload 5, 2) := by decide +kernel
theorem dX11_strictest_21 : decode cX11_strictest 21 = .ok (.aload_n 0, 1) := by decide +kernel
theorem dX11_strictest_22 : decode cX11_strictest 22 = .ok (.getfield 19, 3) := by decide +kernel
theorem dX11_strictest_25 : decode cX11_strictest 25 = .ok (.getfield 106, 3) := by decide +kernel
theorem dX11_strictest_28 : decode cX11_strictest 28 = .ok (.getfield 175, 3) := by decide +kernel
theorem dX11_strictest_31 : decode cX11_strictest 31 = .ok (.if_icmp .ge 37, 3) := by decide +kernel
theorem dX11_strictest_34 : decode cX11_strictest 34 = .ok (.iload 4, 2) := by decide +kernel
theorem dX11_strictest_36 : decode cX11_strictest 36 = .ok (.aload_n 0, 1) := by decide +kernel
theorem dX11_strictest_37 : decode cX11_strictest 37 = .ok (.getfield 19, 3) := by decide +kernel
theorem dX11_strictest_40 : decode cX11_strictest 40 = .ok (.iload 5, 2) := by decide +kernel
theorem dX11_strictest_42 : decode cX11_strictest 42 = .ok (.aload_n 0, 1) := by decide +kernel
theorem dX11_strictest_43 : decode cX11_strictest 43 = .ok (.getfield 19, 3) := by decide +kernel
theorem dX11_strictest_46 : decode cX11_strictest 46 = .ok (.getfield 103, 3) := by decide +kernel
theorem dX11_strictest_49 : decode cX11_strictest 49 = .ok (.iconst 0, 1) := by decide +kernel
theorem dX11_strictest_50 : decode cX11_strictest 50 = .ok (.iaload, 1) := by decide +kernel
theorem dX11_strictest_51 : decode cX11_strictest 51 = .ok (.iload_n 3, 1) := by decide +kernel
theorem dX11_strictest_52 : decode cX11_strictest 52 = .ok (.iadd, 1) := by decide +kernel
theorem dX11_strictest_53 : decode cX11_strictest 53 = .ok (.invokevirtual 142, 3) := by decide +kernel
theorem dX11_strictest_56 : decode cX11_strictest 56 = .ok (.invokestatic 189, 3) := by decide +kernel
theorem dX11_strictest_59 : decode cX11_strictest 59 = .ok (.iadd, 1) := by decide +kernel
theorem dX11_strictest_60 : decode cX11_strictest 60 = .ok (.istore 4, 2) := by decide +kernel
theorem dX11_strictest_62 : decode cX11_strictest 62 = .ok (.iinc 5 1, 3) := by decide +kernel
theorem dX11_strictest_65 : decode cX11_strictest 65 = .ok (.goto (-46), 3) := by decide +kernel
theorem dX11_strictest_68 : decode cX11_strictest 68 = .ok (.iload 4, 2) := by decide +kernel
theorem dX11_strictest_70 : decode cX11_strictest 70 = .ok (.iload_n 2, 1) := by decide +kernel
theorem dX11_strictest_71 : decode cX11_strictest 71 = .ok (.if_icmp .le 8, 3) := by decide +kernel
theorem dX11_strictest_74 : decode cX11_strictest 74 = .ok (.iload 4, 2) := by decide +kernel
theorem dX11_strictest_76 : decode cX11_strictest 76 = .ok (.istore_n 2, 1) := by decide +kernel
theorem dX11_strictest_77 : decode cX11_strictest 77 = .ok (.iload_n 3, 1) := by decide +kernel
theorem dX11_strictest_78 : decode cX11_strictest 78 = .ok (.istore_n 1, 1) := by decide +kernel
theorem dX11_strictest_79 : decode cX11_strictest 79 = .ok (.iinc 3 1, 3) := by decide +kernel
theorem dX11_strictest_82 : decode cX11_strictest 82 = .ok (.goto (-76), 3) := by decide +kernel
theorem dX11_strictest_85 : decode cX11_strictest 85 = .ok (.iload_n 1, 1) := by decide +kernel
theorem dX11_strictest_86 : decode cX11_strictest 86 = .ok (.ireturn, 1) := by decide +kernel
theorem dX11_heat_0 : decode cX11_heat 0 = .ok (.aload_n 0, 1) := by decide +kernel
theorem dX11_heat_1 : decode cX11_heat 1 = .ok (.iload_n 1, 1) := by decide +kernel
theorem dX11_heat_2 : decode cX11_heat 2 = .ok (.iload_n 2, 1) := by decide +kernel
theorem dX11_heat_3 : decode cX11_heat 3 = .ok (.iload 4, 2) := by decide +kernel
theorem dX11_heat_5 : decode cX11_heat 5 = .ok (.invokevirtual 145, 3) := by decide +kernel
theorem dX11_heat_8 : decode cX11_heat 8 = .ok (.iload_n 3, 1) := by decide +kernel
theorem dX11_heat_9 : decode cX11_heat 9 = .ok (.iconst 0, 1) := by decide +kernel
theorem dX11_heat_10 : decode cX11_heat 10 = .ok (.sipush 999, 3) := by decide +kernel
theorem dX11_heat_13 : decode cX11_heat 13 = .ok (.invokestatic 74, 3) := by decide +kernel
theorem dX11_heat_16 : decode cX11_heat 16 = .ok (.aload_n 0, 1) := by decide +kernel
theorem dX11_heat_17 : decode cX11_heat 17 = .ok (.invokevirtual 152, 3) := by decide +kernel
theorem dX11_heat_20 : decode cX11_heat 20 = .ok (.iload_n 1, 1) := by decide +kernel
theorem dX11_heat_21 : decode cX11_heat 21 = .ok (.iload_n 2, 1) := by decide +kernel
theorem dX11_heat_22 : decode cX11_heat 22 = .ok (.iload_n 3, 1) := by decide +kernel
theorem dX11_heat_23 : decode cX11_heat 23 = .ok (.iload 4, 2) := by decide +kernel
theorem dX11_heat_25 : decode cX11_heat 25 = .ok (.invokevirtual 258, 3) := by decide +kernel
theorem dX11_heat_28 : decode cX11_heat 28 = .ok (.ireturn, 1) := by decide +kernel
theorem dX11_leastHeat_0 : decode cX11_leastHeat 0 = .ok (.aload_n 0, 1) := by decide +kernel
theorem dX11_leastHeat_1 : decode cX11_leastHeat 1 = .ok (.iload_n 1, 1) := by decide +kernel
theorem dX11_leastHeat_2 : decode cX11_leastHeat 2 = .ok (.iload_n 2, 1) := by decide +kernel
theorem dX11_leastHeat_3 : decode cX11_leastHeat 3 = .ok (.iload_n 3, 1) := by decide +kernel
theorem dX11_leastHeat_4 : decode cX11_leastHeat 4 = .ok (.invokevirtual 145, 3) := by decide +kernel
theorem dX11_leastHeat_7 : decode cX11_leastHeat 7 = .ok (.aload_n 0, 1) := by decide +kernel
theorem dX11_leastHeat_8 : decode cX11_leastHeat 8 = .ok (.invokevirtual 152, 3) := by decide +kernel
theorem dX11_leastHeat_11 : decode cX11_leastHeat 11 = .ok (.iload_n 1, 1) := by decide +kernel
theorem dX11_leastHeat_12 : decode cX11_leastHeat 12 = .ok (.iload_n 2, 1) := by decide +kernel
theorem dX11_leastHeat_13 : decode cX11_leastHeat 13 = .ok (.iload_n 3, 1) := by decide +kernel
theorem dX11_leastHeat_14 : decode cX11_leastHeat 14 = .ok (.invokevirtual 261, 3) := by decide +kernel
theorem dX11_leastHeat_17 : decode cX11_leastHeat 17 = .ok (.ireturn, 1) := by decide +kernel
theorem dX11_cover_0 : decode cX11_cover 0 = .ok (.aload_n 0, 1) := by decide +kernel
theorem dX11_cover_1 : decode cX11_cover 1 = .ok (.iload_n 2, 1) := by decide +kernel
theorem dX11_cover_2 : decode cX11_cover 2 = .ok (.invokevirtual 100, 3) := by decide +kernel
theorem dX11_cover_5 : decode cX11_cover 5 = .ok (.iload_n 1, 1) := by decide +kernel
theorem dX11_cover_6 : decode cX11_cover 6 = .ok (.invokestatic 242, 3) := by decide +kernel
theorem dX11_cover_9 : decode cX11_cover 9 = .ok (.iload_n 3, 1) := by decide +kernel
theorem dX11_cover_10 : decode cX11_cover 10 = .ok (.iconst 0, 1) := by decide +kernel
theorem dX11_cover_11 : decode cX11_cover 11 = .ok (.iconst 1, 1) := by decide +kernel
theorem dX11_cover_12 : decode cX11_cover 12 = .ok (.invokestatic 74, 3) := by decide +kernel
theorem dX11_cover_15 : decode cX11_cover 15 = .ok (.aload_n 0, 1) := by decide +kernel
theorem dX11_cover_16 : decode cX11_cover 16 = .ok (.invokevirtual 152, 3) := by decide +kernel
theorem dX11_cover_19 : decode cX11_cover 19 = .ok (.iload_n 1, 1) := by decide +kernel
theorem dX11_cover_20 : decode cX11_cover 20 = .ok (.iload_n 2, 1) := by decide +kernel
theorem dX11_cover_21 : decode cX11_cover 21 = .ok (.invokevirtual 264, 3) := by decide +kernel
theorem dX11_cover_24 : decode cX11_cover 24 = .ok (.istore 4, 2) := by decide +kernel
theorem dX11_cover_26 : decode cX11_cover 26 = .ok (.iload 4, 2) := by decide +kernel
theorem dX11_cover_28 : decode cX11_cover 28 = .ok (.ifCond .ne 5, 3) := by decide +kernel
theorem dX11_cover_31 : decode cX11_cover 31 = .ok (.iconst (-1), 1) := by decide +kernel
theorem dX11_cover_32 : decode cX11_cover 32 = .ok (.ireturn, 1) := by decide +kernel
theorem dX11_cover_33 : decode cX11_cover 33 = .ok (.iload_n 3, 1) := by decide +kernel
theorem dX11_cover_34 : decode cX11_cover 34 = .ok (.ifCond .ne 11, 3) := by decide +kernel
theorem dX11_cover_37 : decode cX11_cover 37 = .ok (.iload 4, 2) := by decide +kernel
theorem dX11_cover_39 : decode cX11_cover 39 = .ok (.invokestatic 189, 3) := by decide +kernel
theorem dX11_cover_42 : decode cX11_cover 42 = .ok (.goto 5, 3) := by decide +kernel
theorem dX11_cover_45 : decode cX11_cover 45 = .ok (.iload 4, 2) := by decide +kernel
theorem dX11_cover_47 : decode cX11_cover 47 = .ok (.ireturn, 1) := by decide +kernel
theorem dX11_widen_0 : decode cX11_widen 0 = .ok (.aload_n 0, 1) := by decide +kernel
theorem dX11_widen_1 : decode cX11_widen 1 = .ok (.iload_n 1, 1) := by decide +kernel
theorem dX11_widen_2 : decode cX11_widen 2 = .ok (.invokevirtual 126, 3) := by decide +kernel
theorem dX11_widen_5 : decode cX11_widen 5 = .ok (.aload_n 0, 1) := by decide +kernel
theorem dX11_widen_6 : decode cX11_widen 6 = .ok (.iload_n 2, 1) := by decide +kernel
theorem dX11_widen_7 : decode cX11_widen 7 = .ok (.invokevirtual 100, 3) := by decide +kernel
theorem dX11_widen_10 : decode cX11_widen 10 = .ok (.iconst 0, 1) := by decide +kernel
theorem dX11_widen_11 : decode cX11_widen 11 = .ok (.istore_n 3, 1) := by decide +kernel
theorem dX11_widen_12 : decode cX11_widen 12 = .ok (.iconst 0, 1) := by decide +kernel
theorem dX11_widen_13 : decode cX11_widen 13 = .ok (.istore 4, 2) := by decide +kernel
theorem dX11_widen_15 : decode cX11_widen 15 = .ok (.iconst 0, 1) := by decide +kernel
theorem dX11_widen_16 : decode cX11_widen 16 = .ok (.istore 5, 2) := by decide +kernel
theorem dX11_widen_18 : decode cX11_widen 18 = .ok (.iload 5, 2) := by decide +kernel
theorem dX11_widen_20 : decode cX11_widen 20 = .ok (.bipush 24, 2) := by decide +kernel
theorem dX11_widen_22 : decode cX11_widen 22 = .ok (.if_icmp .ge 73, 3) := by decide +kernel
theorem dX11_widen_25 : decode cX11_widen 25 = .ok (.aload_n 0, 1) := by decide +kernel
theorem dX11_widen_26 : decode cX11_widen 26 = .ok (.getfield 19, 3) := by decide +kernel
theorem dX11_widen_29 : decode cX11_widen 29 = .ok (.iload_n 2, 1) := by decide +kernel
theorem dX11_widen_30 : decode cX11_widen 30 = .ok (.aload_n 0, 1) := by decide +kernel
theorem dX11_widen_31 : decode cX11_widen 31 = .ok (.getfield 19, 3) := by decide +kernel
theorem dX11_widen_34 : decode cX11_widen 34 = .ok (.getfield 103, 3) := by decide +kernel
theorem dX11_widen_37 : decode cX11_widen 37 = .ok (.iconst 0, 1) := by decide +kernel
theorem dX11_widen_38 : decode cX11_widen 38 = .ok (.iaload, 1) := by decide +kernel
theorem dX11_widen_39 : decode cX11_widen 39 = .ok (.iload 5, 2) := by decide +kernel
theorem dX11_widen_41 : decode cX11_widen 41 = .ok (.iadd, 1) := by decide +kernel
theorem dX11_widen_42 : decode cX11_widen 42 = .ok (.invokevirtual 139, 3) := by decide +kernel
theorem dX11_widen_45 : decode cX11_widen 45 = .ok (.istore 6, 2) := by decide +kernel
theorem dX11_widen_47 : decode cX11_widen 47 = .ok (.iload_n 3, 1) := by decide +kernel
theorem dX11_widen_48 : decode cX11_widen 48 = .ok (.aload_n 0, 1) := by decide +kernel
theorem dX11_widen_49 : decode cX11_widen 49 = .ok (.getfield 19, 3) := by decide +kernel
theorem dX11_widen_52 : decode cX11_widen 52 = .ok (.getfield 103, 3) := by decide +kernel
theorem dX11_widen_55 : decode cX11_widen 55 = .ok (.bipush 33, 2) := by decide +kernel
theorem dX11_widen_57 : decode cX11_widen 57 = .ok (.iload_n 1, 1) := by decide +kernel
theorem dX11_widen_58 : decode cX11_widen 58 = .ok (.iadd, 1) := by decide +kernel
theorem dX11_widen_59 : decode cX11_widen 59 = .ok (.iaload, 1) := by decide +kernel
theorem dX11_widen_60 : decode cX11_widen 60 = .ok (.iload 6, 2) := by decide +kernel
theorem dX11_widen_62 : decode cX11_widen 62 = .ok (.isub, 1) := by decide +kernel
theorem dX11_widen_63 : decode cX11_widen 63 = .ok (.invokestatic 120, 3) := by decide +kernel
theorem dX11_widen_66 : decode cX11_widen 66 = .ok (.istore_n 3, 1) := by decide +kernel
theorem dX11_widen_67 : decode cX11_widen 67 = .ok (.iload 4, 2) := by decide +kernel
theorem dX11_widen_69 : decode cX11_widen 69 = .ok (.iload 6, 2) := by decide +kernel
theorem dX11_widen_71 : decode cX11_widen 71 = .ok (.aload_n 0, 1) := by decide +kernel
theorem dX11_widen_72 : decode cX11_widen 72 = .ok (.getfield 19, 3) := by decide +kernel
theorem dX11_widen_75 : decode cX11_widen 75 = .ok (.getfield 103, 3) := by decide +kernel
theorem dX11_widen_78 : decode cX11_widen 78 = .ok (.bipush 41, 2) := by decide +kernel
theorem dX11_widen_80 : decode cX11_widen 80 = .ok (.iload_n 1, 1) := by decide +kernel
theorem dX11_widen_81 : decode cX11_widen 81 = .ok (.iadd, 1) := by decide +kernel
theorem dX11_widen_82 : decode cX11_widen 82 = .ok (.iaload, 1) := by decide +kernel
theorem dX11_widen_83 : decode cX11_widen 83 = .ok (.isub, 1) := by decide +kernel
theorem dX11_widen_84 : decode cX11_widen 84 = .ok (.invokestatic 120, 3) := by decide +kernel
theorem dX11_widen_87 : decode cX11_widen 87 = .ok (.istore 4, 2) := by decide +kernel
theorem dX11_widen_89 : decode cX11_widen 89 = .ok (.iinc 5 1, 3) := by decide +kernel
theorem dX11_widen_92 : decode cX11_widen 92 = .ok (.goto (-74), 3) := by decide +kernel
theorem dX11_widen_95 : decode cX11_widen 95 = .ok (.iload_n 3, 1) := by decide +kernel
theorem dX11_widen_96 : decode cX11_widen 96 = .ok (.iload 4, 2) := by decide +kernel
theorem dX11_widen_98 : decode cX11_widen 98 = .ok (.iadd, 1) := by decide +kernel
theorem dX11_widen_99 : decode cX11_widen 99 = .ok (.ireturn, 1) := by decide +kernel
theorem dX11_heaviest_0 : decode cX11_heaviest 0 = .ok (.aload_n 0, 1) := by decide +kernel
theorem dX11_heaviest_1 : decode cX11_heaviest 1 = .ok (.iload_n 1, 1) := by decide +kernel
theorem dX11_heaviest_2 : decode cX11_heaviest 2 = .ok (.invokevirtual 100, 3) := by decide +kernel
theorem dX11_heaviest_5 : decode cX11_heaviest 5 = .ok (.aload_n 0, 1) := by decide +kernel
theorem dX11_heaviest_6 : decode cX11_heaviest 6 = .ok (.invokevirtual 152, 3) := by decide +kernel
theorem dX11_heaviest_9 : decode cX11_heaviest 9 = .ok (.iload_n 1, 1) := by decide +kernel
theorem dX11_heaviest_10 : decode cX11_heaviest 10 = .ok (.invokevirtual 267, 3) := by decide +kernel
theorem dX11_heaviest_13 : decode cX11_heaviest 13 = .ok (.ireturn, 1) := by decide +kernel
theorem dX11_freeWay_0 : decode cX11_freeWay 0 = .ok (.aload_n 0, 1) := by decide +kernel
theorem dX11_freeWay_1 : decode cX11_freeWay 1 = .ok (.iload_n 1, 1) := by decide +kernel
theorem dX11_freeWay_2 : decode cX11_freeWay 2 = .ok (.iload_n 2, 1) := by decide +kernel
theorem dX11_freeWay_3 : decode cX11_freeWay 3 = .ok (.iload_n 3, 1) := by decide +kernel
theorem dX11_freeWay_4 : decode cX11_freeWay 4 = .ok (.invokevirtual 270, 3) := by decide +kernel
theorem dX11_freeWay_7 : decode cX11_freeWay 7 = .ok (.aload_n 0, 1) := by decide +kernel
theorem dX11_freeWay_8 : decode cX11_freeWay 8 = .ok (.iload_n 1, 1) := by decide +kernel
theorem dX11_freeWay_9 : decode cX11_freeWay 9 = .ok (.bipush 60, 2) := by decide +kernel
theorem dX11_freeWay_11 : decode cX11_freeWay 11 = .ok (.invokevirtual 273, 3) := by decide +kernel
theorem dX11_freeWay_14 : decode cX11_freeWay 14 = .ok (.iload_n 2, 1) := by decide +kernel
theorem dX11_freeWay_15 : decode cX11_freeWay 15 = .ok (.iload_n 3, 1) := by decide +kernel
theorem dX11_freeWay_16 : decode cX11_freeWay 16 = .ok (.iconst 0, 1) := by decide +kernel
theorem dX11_freeWay_17 : decode cX11_freeWay 17 = .ok (.invokevirtual 277, 3) := by decide +kernel
theorem dX11_freeWay_20 : decode cX11_freeWay 20 = .ok (.ireturn, 1) := by decide +kernel
theorem dX11_freeAt_0 : decode cX11_freeAt 0 = .ok (.aload_n 0, 1) := by decide +kernel
theorem dX11_freeAt_1 : decode cX11_freeAt 1 = .ok (.iload_n 1, 1) := by decide +kernel
theorem dX11_freeAt_2 : decode cX11_freeAt 2 = .ok (.iload_n 2, 1) := by decide +kernel
theorem dX11_freeAt_3 : decode cX11_freeAt 3 = .ok (.iload_n 3, 1) := by decide +kernel
theorem dX11_freeAt_4 : decode cX11_freeAt 4 = .ok (.invokevirtual 270, 3) := by decide +kernel
theorem dX11_freeAt_7 : decode cX11_freeAt 7 = .ok (.iload 4, 2) := by decide +kernel
theorem dX11_freeAt_9 : decode cX11_freeAt 9 = .ok (.invokestatic 282, 3) := by decide +kernel
theorem dX11_freeAt_12 : decode cX11_freeAt 12 = .ok (.aload_n 0, 1) := by decide +kernel
theorem dX11_freeAt_13 : decode cX11_freeAt 13 = .ok (.iload_n 1, 1) := by decide +kernel
theorem dX11_freeAt_14 : decode cX11_freeAt 14 = .ok (.bipush 60, 2) := by decide +kernel
theorem dX11_freeAt_16 : decode cX11_freeAt 16 = .ok (.invokevirtual 273, 3) := by decide +kernel
theorem dX11_freeAt_19 : decode cX11_freeAt 19 = .ok (.iload_n 2, 1) := by decide +kernel
theorem dX11_freeAt_20 : decode cX11_freeAt 20 = .ok (.iload_n 3, 1) := by decide +kernel
theorem dX11_freeAt_21 : decode cX11_freeAt 21 = .ok (.iload 4, 2) := by decide +kernel
theorem dX11_freeAt_23 : decode cX11_freeAt 23 = .ok (.invokevirtual 285, 3) := by decide +kernel
theorem dX11_freeAt_26 : decode cX11_freeAt 26 = .ok (.ireturn, 1) := by decide +kernel
theorem dX11_wayFine_0 : decode cX11_wayFine 0 = .ok (.aload_n 0, 1) := by decide +kernel
theorem dX11_wayFine_1 : decode cX11_wayFine 1 = .ok (.iload_n 1, 1) := by decide +kernel
theorem dX11_wayFine_2 : decode cX11_wayFine 2 = .ok (.iload_n 2, 1) := by decide +kernel
theorem dX11_wayFine_3 : decode cX11_wayFine 3 = .ok (.iload_n 3, 1) := by decide +kernel
theorem dX11_wayFine_4 : decode cX11_wayFine 4 = .ok (.invokevirtual 270, 3) := by decide +kernel
theorem dX11_wayFine_7 : decode cX11_wayFine 7 = .ok (.iload 4, 2) := by decide +kernel
theorem dX11_wayFine_9 : decode cX11_wayFine 9 = .ok (.iconst 0, 1) := by decide +kernel
theorem dX11_wayFine_10 : decode cX11_wayFine 10 = .ok (.bipush 60, 2) := by decide +kernel
theorem dX11_wayFine_12 : decode cX11_wayFine 12 = .ok (.invokestatic 74, 3) := by decide +kernel
theorem dX11_wayFine_15 : decode cX11_wayFine 15 = .ok (.aload_n 0, 1) := by decide +kernel
theorem dX11_wayFine_16 : decode cX11_wayFine 16 = .ok (.iload_n 1, 1) := by decide +kernel
theorem dX11_wayFine_17 : decode cX11_wayFine 17 = .ok (.iload 4, 2) := by decide +kernel
theorem dX11_wayFine_19 : decode cX11_wayFine 19 = .ok (.invokevirtual 273, 3) := by decide +kernel
theorem dX11_wayFine_22 : decode cX11_wayFine 22 = .ok (.iload_n 2, 1) := by decide +kernel
theorem dX11_wayFine_23 : decode cX11_wayFine 23 = .ok (.iload_n 3, 1) := by decide +kernel
theorem dX11_wayFine_24 : decode cX11_wayFine 24 = .ok (.iload 4, 2) := by decide +kernel
theorem dX11_wayFine_26 : decode cX11_wayFine 26 = .ok (.invokevirtual 288, 3) := by decide +kernel
theorem dX11_wayFine_29 : decode cX11_wayFine 29 = .ok (.ireturn, 1) := by decide +kernel
theorem dX11_freeWays_0 : decode cX11_freeWays 0 = .ok (.aload_n 0, 1) := by decide +kernel
theorem dX11_freeWays_1 : decode cX11_freeWays 1 = .ok (.iload_n 1, 1) := by decide +kernel
theorem dX11_freeWays_2 : decode cX11_freeWays 2 = .ok (.iload_n 2, 1) := by decide +kernel
theorem dX11_freeWays_3 : decode cX11_freeWays 3 = .ok (.iload_n 3, 1) := by decide +kernel
theorem dX11_freeWays_4 : decode cX11_freeWays 4 = .ok (.invokevirtual 270, 3) := by decide +kernel
theorem dX11_freeWays_7 : decode cX11_freeWays 7 = .ok (.iload 4, 2) := by decide +kernel
theorem dX11_freeWays_9 : decode cX11_freeWays 9 = .ok (.iconst 0, 1) := by decide +kernel
theorem dX11_freeWays_10 : decode cX11_freeWays 10 = .ok (.bipush 20, 2) := by decide +kernel
theorem dX11_freeWays_12 : decode cX11_freeWays 12 = .ok (.invokestatic 74, 3) := by decide +kernel
theorem dX11_freeWays_15 : decode cX11_freeWays 15 = .ok (.aload_n 0, 1) := by decide +kernel
theorem dX11_freeWays_16 : decode cX11_freeWays 16 = .ok (.iload_n 1, 1) := by decide +kernel
theorem dX11_freeWays_17 : decode cX11_freeWays 17 = .ok (.iload 4, 2) := by decide +kernel
theorem dX11_freeWays_19 : decode cX11_freeWays 19 = .ok (.invokevirtual 273, 3) := by decide +kernel
theorem dX11_freeWays_22 : decode cX11_freeWays 22 = .ok (.iload_n 2, 1) := by decide +kernel
theorem dX11_freeWays_23 : decode cX11_freeWays 23 = .ok (.iload_n 3, 1) := by decide +kernel
theorem dX11_freeWays_24 : decode cX11_freeWays 24 = .ok (.iload 4, 2) := by decide +kernel
theorem dX11_freeWays_26 : decode cX11_freeWays 26 = .ok (.invokevirtual 291, 3) := by decide +kernel
theorem dX11_freeWays_29 : decode cX11_freeWays 29 = .ok (.lreturn, 1) := by decide +kernel
theorem dX11_guard_0 : decode cX11_guard 0 = .ok (.aload_n 0, 1) := by decide +kernel
theorem dX11_guard_1 : decode cX11_guard 1 = .ok (.iload_n 1, 1) := by decide +kernel
theorem dX11_guard_2 : decode cX11_guard 2 = .ok (.iload_n 2, 1) := by decide +kernel
theorem dX11_guard_3 : decode cX11_guard 3 = .ok (.iload_n 3, 1) := by decide +kernel
theorem dX11_guard_4 : decode cX11_guard 4 = .ok (.invokevirtual 270, 3) := by decide +kernel
theorem dX11_guard_7 : decode cX11_guard 7 = .ok (.iload_n 2, 1) := by decide +kernel
theorem dX11_guard_8 : decode cX11_guard 8 = .ok (.iload_n 3, 1) := by decide +kernel
theorem dX11_guard_9 : decode cX11_guard 9 = .ok (.if_icmp .ne 14, 3) := by decide +kernel
theorem dX11_guard_12 : decode cX11_guard 12 = .ok (.new 294, 3) := by decide +kernel
theorem dX11_guard_15 : decode cX11_guard 15 = .ok (.dup, 1) := by decide +kernel
theorem dX11_guard_16 : decode cX11_guard 16 = .ok (.ldc_w 296, 3) := by decide +kernel
theorem dX11_guard_19 : decode cX11_guard 19 = .ok (.invokespecial 298, 3) := by decide +kernel
theorem dX11_guard_22 : decode cX11_guard 22 = .ok (.athrow, 1) := by decide +kernel
theorem dX11_guard_23 : decode cX11_guard 23 = .ok (.aload_n 0, 1) := by decide +kernel
theorem dX11_guard_24 : decode cX11_guard 24 = .ok (.iload_n 1, 1) := by decide +kernel
theorem dX11_guard_25 : decode cX11_guard 25 = .ok (.bipush 60, 2) := by decide +kernel
theorem dX11_guard_27 : decode cX11_guard 27 = .ok (.invokevirtual 273, 3) := by decide +kernel
theorem dX11_guard_30 : decode cX11_guard 30 = .ok (.iload_n 2, 1) := by decide +kernel
theorem dX11_guard_31 : decode cX11_guard 31 = .ok (.iload_n 3, 1) := by decide +kernel
theorem dX11_guard_32 : decode cX11_guard 32 = .ok (.invokevirtual 299, 3) := by decide +kernel
theorem dX11_guard_35 : decode cX11_guard 35 = .ok (.ireturn, 1) := by decide +kernel
theorem dX11_waysOf_0 : decode cX11_waysOf 0 = .ok (.aload_n 0, 1) := by decide +kernel
theorem dX11_waysOf_1 : decode cX11_waysOf 1 = .ok (.getfield 54, 3) := by decide +kernel
theorem dX11_waysOf_4 : decode cX11_waysOf 4 = .ok (.ifnonnull 18, 3) := by decide +kernel
theorem dX11_waysOf_7 : decode cX11_waysOf 7 = .ok (.aload_n 0, 1) := by decide +kernel
theorem dX11_waysOf_8 : decode cX11_waysOf 8 = .ok (.new 278, 3) := by decide +kernel
theorem dX11_waysOf_11 : decode cX11_waysOf 11 = .ok (.dup, 1) := by decide +kernel
theorem dX11_waysOf_12 : decode cX11_waysOf 12 = .ok (.aload_n 0, 1) := by decide +kernel
theorem dX11_waysOf_13 : decode cX11_waysOf 13 = .ok (.getfield 19, 3) := by decide +kernel
theorem dX11_waysOf_16 : decode cX11_waysOf 16 = .ok (.invokespecial 302, 3) := by decide +kernel
theorem dX11_waysOf_19 : decode cX11_waysOf 19 = .ok (.putfield 54, 3) := by decide +kernel
theorem dX11_waysOf_22 : decode cX11_waysOf 22 = .ok (.aload_n 0, 1) := by decide +kernel
theorem dX11_waysOf_23 : decode cX11_waysOf 23 = .ok (.getfield 54, 3) := by decide +kernel
theorem dX11_waysOf_26 : decode cX11_waysOf 26 = .ok (.iload_n 1, 1) := by decide +kernel
theorem dX11_waysOf_27 : decode cX11_waysOf 27 = .ok (.iload_n 2, 1) := by decide +kernel
theorem dX11_waysOf_28 : decode cX11_waysOf 28 = .ok (.invokevirtual 303, 3) := by decide +kernel
theorem dX11_waysOf_31 : decode cX11_waysOf 31 = .ok (.aload_n 0, 1) := by decide +kernel
theorem dX11_waysOf_32 : decode cX11_waysOf 32 = .ok (.getfield 54, 3) := by decide +kernel
theorem dX11_waysOf_35 : decode cX11_waysOf 35 = .ok (.areturn, 1) := by decide +kernel
theorem dX11_errands_0 : decode cX11_errands 0 = .ok (.aload_n 0, 1) := by decide +kernel
theorem dX11_errands_1 : decode cX11_errands 1 = .ok (.iload_n 1, 1) := by decide +kernel
theorem dX11_errands_2 : decode cX11_errands 2 = .ok (.invokevirtual 202, 3) := by decide +kernel
theorem dX11_errands_5 : decode cX11_errands 5 = .ok (.astore_n 2, 1) := by decide +kernel
theorem dX11_errands_6 : decode cX11_errands 6 = .ok (.aload_n 2, 1) := by decide +kernel
theorem dX11_errands_7 : decode cX11_errands 7 = .ok (.invokestatic 206, 3) := by decide +kernel
theorem dX11_errands_10 : decode cX11_errands 10 = .ok (.aload_n 0, 1) := by decide +kernel
theorem dX11_errands_11 : decode cX11_errands 11 = .ok (.aload_n 2, 1) := by decide +kernel
theorem dX11_errands_12 : decode cX11_errands 12 = .ok (.invokevirtual 307, 3) := by decide +kernel
theorem dX11_errands_15 : decode cX11_errands 15 = .ok (.aload_n 0, 1) := by decide +kernel
theorem dX11_errands_16 : decode cX11_errands 16 = .ok (.aload_n 2, 1) := by decide +kernel
theorem dX11_errands_17 : decode cX11_errands 17 = .ok (.invokevirtual 310, 3) := by decide +kernel
theorem dX11_errands_20 : decode cX11_errands 20 = .ok (.invokevirtual 314, 3) := by decide +kernel
theorem dX11_errands_23 : decode cX11_errands 23 = .ok (.ireturn, 1) := by decide +kernel
theorem dX11_bestOrder_0 : decode cX11_bestOrder 0 = .ok (.aload_n 0, 1) := by decide +kernel
theorem dX11_bestOrder_1 : decode cX11_bestOrder 1 = .ok (.iload_n 1, 1) := by decide +kernel
theorem dX11_bestOrder_2 : decode cX11_bestOrder 2 = .ok (.invokevirtual 202, 3) := by decide +kernel
theorem dX11_bestOrder_5 : decode cX11_bestOrder 5 = .ok (.astore_n 3, 1) := by decide +kernel
theorem dX11_bestOrder_6 : decode cX11_bestOrder 6 = .ok (.aload_n 3, 1) := by decide +kernel
theorem dX11_bestOrder_7 : decode cX11_bestOrder 7 = .ok (.invokestatic 206, 3) := by decide +kernel
theorem dX11_bestOrder_10 : decode cX11_bestOrder 10 = .ok (.aload_n 0, 1) := by decide +kernel
theorem dX11_bestOrder_11 : decode cX11_bestOrder 11 = .ok (.aload_n 3, 1) := by decide +kernel
theorem dX11_bestOrder_12 : decode cX11_bestOrder 12 = .ok (.invokevirtual 307, 3) := by decide +kernel
theorem dX11_bestOrder_15 : decode cX11_bestOrder 15 = .ok (.iload_n 2, 1) := by decide +kernel
theorem dX11_bestOrder_16 : decode cX11_bestOrder 16 = .ok (.ifCond .eq 11, 3) := by decide +kernel
theorem dX11_bestOrder_19 : decode cX11_bestOrder 19 = .ok (.iload_n 2, 1) := by decide +kernel
theorem dX11_bestOrder_20 : decode cX11_bestOrder 20 = .ok (.bipush 10, 2) := by decide +kernel
theorem dX11_bestOrder_22 : decode cX11_bestOrder 22 = .ok (.bipush 13, 2) := by decide +kernel
theorem dX11_bestOrder_24 : decode cX11_bestOrder 24 = .ok (.invokestatic 74, 3) := by decide +kernel
theorem dX11_bestOrder_27 : decode cX11_bestOrder 27 = .ok (.aload_n 0, 1) := by decide +kernel
theorem dX11_bestOrder_28 : decode cX11_bestOrder 28 = .ok (.aload_n 3, 1) := by decide +kernel
theorem dX11_bestOrder_29 : decode cX11_bestOrder 29 = .ok (.invokevirtual 310, 3) := by decide +kernel
theorem dX11_bestOrder_32 : decode cX11_bestOrder 32 = .ok (.astore 4, 2) := by decide +kernel
theorem dX11_bestOrder_34 : decode cX11_bestOrder 34 = .ok (.aload 4, 2) := by decide +kernel
theorem dX11_bestOrder_36 : decode cX11_bestOrder 36 = .ok (.iconst 0, 1) := by decide +kernel
theorem dX11_bestOrder_37 : decode cX11_bestOrder 37 = .ok (.iconst 0, 1) := by decide +kernel
theorem dX11_bestOrder_38 : decode cX11_bestOrder 38 = .ok (.iconst 0, 1) := by decide +kernel
theorem dX11_bestOrder_39 : decode cX11_bestOrder 39 = .ok (.invokevirtual 319, 3) := by decide +kernel
theorem dX11_bestOrder_42 : decode cX11_bestOrder 42 = .ok (.iload_n 2, 1) := by decide +kernel
theorem dX11_bestOrder_43 : decode cX11_bestOrder 43 = .ok (.ifCond .ne 11, 3) := by decide +kernel
theorem dX11_bestOrder_46 : decode cX11_bestOrder 46 = .ok (.aload 4, 2) := by decide +kernel
theorem dX11_bestOrder_48 : decode cX11_bestOrder 48 = .ok (.getfield 322, 3) := by decide +kernel
theorem dX11_bestOrder_51 : decode cX11_bestOrder 51 = .ok (.goto 12, 3) := by decide +kernel
theorem dX11_bestOrder_54 : decode cX11_bestOrder 54 = .ok (.aload 4, 2) := by decide +kernel
theorem dX11_bestOrder_56 : decode cX11_bestOrder 56 = .ok (.iload_n 2, 1) := by decide +kernel
theorem dX11_bestOrder_57 : decode cX11_bestOrder 57 = .ok (.bipush 10, 2) := by decide +kernel
theorem dX11_bestOrder_59 : decode cX11_bestOrder 59 = .ok (.isub, 1) := by decide +kernel
theorem dX11_bestOrder_60 : decode cX11_bestOrder 60 = .ok (.invokevirtual 325, 3) := by decide +kernel
theorem dX11_bestOrder_63 : decode cX11_bestOrder 63 = .ok (.ireturn, 1) := by decide +kernel
theorem dX11_agendaOf_0 : decode cX11_agendaOf 0 = .ok (.aload_n 0, 1) := by decide +kernel
theorem dX11_agendaOf_1 : decode cX11_agendaOf 1 = .ok (.getfield 58, 3) := by decide +kernel
theorem dX11_agendaOf_4 : decode cX11_agendaOf 4 = .ok (.ifnonnull 18, 3) := by decide +kernel
theorem dX11_agendaOf_7 : decode cX11_agendaOf 7 = .ok (.aload_n 0, 1) := by decide +kernel
theorem dX11_agendaOf_8 : decode cX11_agendaOf 8 = .ok (.new 315, 3) := by decide +kernel
theorem dX11_agendaOf_11 : decode cX11_agendaOf 11 = .ok (.dup, 1) := by decide +kernel
theorem dX11_agendaOf_12 : decode cX11_agendaOf 12 = .ok (.aload_n 0, 1) := by decide +kernel
theorem dX11_agendaOf_13 : decode cX11_agendaOf 13 = .ok (.getfield 19, 3) := by decide +kernel
theorem dX11_agendaOf_16 : decode cX11_agendaOf 16 = .ok (.invokespecial 328, 3) := by decide +kernel
theorem dX11_agendaOf_19 : decode cX11_agendaOf 19 = .ok (.putfield 58, 3) := by decide +kernel
theorem dX11_agendaOf_22 : decode cX11_agendaOf 22 = .ok (.aload_n 0, 1) := by decide +kernel
theorem dX11_agendaOf_23 : decode cX11_agendaOf 23 = .ok (.getfield 58, 3) := by decide +kernel
theorem dX11_agendaOf_26 : decode cX11_agendaOf 26 = .ok (.aload_n 1, 1) := by decide +kernel
theorem dX11_agendaOf_27 : decode cX11_agendaOf 27 = .ok (.invokevirtual 329, 3) := by decide +kernel
theorem dX11_agendaOf_30 : decode cX11_agendaOf 30 = .ok (.aload_n 0, 1) := by decide +kernel
theorem dX11_agendaOf_31 : decode cX11_agendaOf 31 = .ok (.getfield 58, 3) := by decide +kernel
theorem dX11_agendaOf_34 : decode cX11_agendaOf 34 = .ok (.areturn, 1) := by decide +kernel
theorem dX11_seen_0 : decode cX11_seen 0 = .ok (.aload_n 0, 1) := by decide +kernel
theorem dX11_seen_1 : decode cX11_seen 1 = .ok (.iload_n 1, 1) := by decide +kernel
theorem dX11_seen_2 : decode cX11_seen 2 = .ok (.iload_n 2, 1) := by decide +kernel
theorem dX11_seen_3 : decode cX11_seen 3 = .ok (.iload_n 3, 1) := by decide +kernel
theorem dX11_seen_4 : decode cX11_seen 4 = .ok (.invokevirtual 332, 3) := by decide +kernel
theorem dX11_seen_7 : decode cX11_seen 7 = .ok (.astore 4, 2) := by decide +kernel
theorem dX11_seen_9 : decode cX11_seen 9 = .ok (.aload_n 0, 1) := by decide +kernel
theorem dX11_seen_10 : decode cX11_seen 10 = .ok (.invokevirtual 336, 3) := by decide +kernel
theorem dX11_seen_13 : decode cX11_seen 13 = .ok (.astore 5, 2) := by decide +kernel
theorem dX11_seen_15 : decode cX11_seen 15 = .ok (.aload 5, 2) := by decide +kernel
theorem dX11_seen_17 : decode cX11_seen 17 = .ok (.aload 4, 2) := by decide +kernel
theorem dX11_seen_19 : decode cX11_seen 19 = .ok (.iload_n 2, 1) := by decide +kernel
theorem dX11_seen_20 : decode cX11_seen 20 = .ok (.iload_n 3, 1) := by decide +kernel
theorem dX11_seen_21 : decode cX11_seen 21 = .ok (.invokevirtual 340, 3) := by decide +kernel
theorem dX11_seen_24 : decode cX11_seen 24 = .ok (.aload 5, 2) := by decide +kernel
theorem dX11_seen_26 : decode cX11_seen 26 = .ok (.getfield 346, 3) := by decide +kernel
theorem dX11_seen_29 : decode cX11_seen 29 = .ok (.ireturn, 1) := by decide +kernel
theorem dX11_breath_0 : decode cX11_breath 0 = .ok (.aload_n 0, 1) := by decide +kernel
theorem dX11_breath_1 : decode cX11_breath 1 = .ok (.iload_n 1, 1) := by decide +kernel
theorem dX11_breath_2 : decode cX11_breath 2 = .ok (.iload_n 2, 1) := by decide +kernel
theorem dX11_breath_3 : decode cX11_breath 3 = .ok (.iload_n 3, 1) := by decide +kernel
theorem dX11_breath_4 : decode cX11_breath 4 = .ok (.invokevirtual 332, 3) := by decide +kernel
theorem dX11_breath_7 : decode cX11_breath 7 = .ok (.astore 5, 2) := by decide +kernel
theorem dX11_breath_9 : decode cX11_breath 9 = .ok (.iload 4, 2) := by decide +kernel
theorem dX11_breath_11 : decode cX11_breath 11 = .ok (.invokestatic 282, 3) := by decide +kernel
theorem dX11_breath_14 : decode cX11_breath 14 = .ok (.aload_n 0, 1) := by decide +kernel
theorem dX11_breath_15 : decode cX11_breath 15 = .ok (.invokevirtual 336, 3) := by decide +kernel
theorem dX11_breath_18 : decode cX11_breath 18 = .ok (.astore 6, 2) := by decide +kernel
theorem dX11_breath_20 : decode cX11_breath 20 = .ok (.aload 6, 2) := by decide +kernel
theorem dX11_breath_22 : decode cX11_breath 22 = .ok (.aload 5, 2) := by decide +kernel
theorem dX11_breath_24 : decode cX11_breath 24 = .ok (.iload_n 2, 1) := by decide +kernel
theorem dX11_breath_25 : decode cX11_breath 25 = .ok (.iload_n 3, 1) := by decide +kernel
theorem dX11_breath_26 : decode cX11_breath 26 = .ok (.invokevirtual 340, 3) := by decide +kernel
theorem dX11_breath_29 : decode cX11_breath 29 = .ok (.iload 4, 2) := by decide +kernel
theorem dX11_breath_31 : decode cX11_breath 31 = .ok (.aload 6, 2) := by decide +kernel
theorem dX11_breath_33 : decode cX11_breath 33 = .ok (.getfield 346, 3) := by decide +kernel
theorem dX11_breath_36 : decode cX11_breath 36 = .ok (.if_icmp .ge 14, 3) := by decide +kernel
theorem dX11_breath_39 : decode cX11_breath 39 = .ok (.aload 6, 2) := by decide +kernel
theorem dX11_breath_41 : decode cX11_breath 41 = .ok (.getfield 347, 3) := by decide +kernel
theorem dX11_breath_44 : decode cX11_breath 44 = .ok (.iload 4, 2) := by decide +kernel
theorem dX11_breath_46 : decode cX11_breath 46 = .ok (.iaload, 1) := by decide +kernel
theorem dX11_breath_47 : decode cX11_breath 47 = .ok (.goto 5, 3) := by decide +kernel
theorem dX11_breath_50 : decode cX11_breath 50 = .ok (.bipush 99, 2) := by decide +kernel
theorem dX11_breath_52 : decode cX11_breath 52 = .ok (.ireturn, 1) := by decide +kernel
theorem dX11_look_0 : decode cX11_look 0 = .ok (.aload_n 0, 1) := by decide +kernel
theorem dX11_look_1 : decode cX11_look 1 = .ok (.iload_n 1, 1) := by decide +kernel
theorem dX11_look_2 : decode cX11_look 2 = .ok (.iload_n 2, 1) := by decide +kernel
theorem dX11_look_3 : decode cX11_look 3 = .ok (.iload_n 3, 1) := by decide +kernel
theorem dX11_look_4 : decode cX11_look 4 = .ok (.invokevirtual 332, 3) := by decide +kernel
theorem dX11_look_7 : decode cX11_look 7 = .ok (.astore 4, 2) := by decide +kernel
theorem dX11_look_9 : decode cX11_look 9 = .ok (.aload_n 0, 1) := by decide +kernel
theorem dX11_look_10 : decode cX11_look 10 = .ok (.invokevirtual 336, 3) := by decide +kernel
theorem dX11_look_13 : decode cX11_look 13 = .ok (.astore 5, 2) := by decide +kernel
theorem dX11_look_15 : decode cX11_look 15 = .ok (.aload 5, 2) := by decide +kernel
theorem dX11_look_17 : decode cX11_look 17 = .ok (.aload 4, 2) := by decide +kernel
theorem dX11_look_19 : decode cX11_look 19 = .ok (.iload_n 2, 1) := by decide +kernel
theorem dX11_look_20 : decode cX11_look 20 = .ok (.iload_n 3, 1) := by decide +kernel
theorem dX11_look_21 : decode cX11_look 21 = .ok (.invokevirtual 340, 3) := by decide +kernel
theorem dX11_look_24 : decode cX11_look 24 = .ok (.aload 5, 2) := by decide +kernel
theorem dX11_look_26 : decode cX11_look 26 = .ok (.iload_n 2, 1) := by decide +kernel
theorem dX11_look_27 : decode cX11_look 27 = .ok (.iload_n 3, 1) := by decide +kernel
theorem dX11_look_28 : decode cX11_look 28 = .ok (.invokevirtual 350, 3) := by decide +kernel
theorem dX11_look_31 : decode cX11_look 31 = .ok (.ireturn, 1) := by decide +kernel
theorem dX11_glass_0 : decode cX11_glass 0 = .ok (.aload_n 0, 1) := by decide +kernel
theorem dX11_glass_1 : decode cX11_glass 1 = .ok (.getfield 62, 3) := by decide +kernel
theorem dX11_glass_4 : decode cX11_glass 4 = .ok (.ifnonnull 18, 3) := by decide +kernel
theorem dX11_glass_7 : decode cX11_glass 7 = .ok (.aload_n 0, 1) := by decide +kernel
theorem dX11_glass_8 : decode cX11_glass 8 = .ok (.new 341, 3) := by decide +kernel
theorem dX11_glass_11 : decode cX11_glass 11 = .ok (.dup, 1) := by decide +kernel
theorem dX11_glass_12 : decode cX11_glass 12 = .ok (.aload_n 0, 1) := by decide +kernel
theorem dX11_glass_13 : decode cX11_glass 13 = .ok (.getfield 19, 3) := by decide +kernel
theorem dX11_glass_16 : decode cX11_glass 16 = .ok (.invokespecial 353, 3) := by decide +kernel
theorem dX11_glass_19 : decode cX11_glass 19 = .ok (.putfield 62, 3) := by decide +kernel
theorem dX11_glass_22 : decode cX11_glass 22 = .ok (.aload_n 0, 1) := by decide +kernel
theorem dX11_glass_23 : decode cX11_glass 23 = .ok (.getfield 62, 3) := by decide +kernel
theorem dX11_glass_26 : decode cX11_glass 26 = .ok (.areturn, 1) := by decide +kernel
theorem dX11_tray_0 : decode cX11_tray 0 = .ok (.aload_n 0, 1) := by decide +kernel
theorem dX11_tray_1 : decode cX11_tray 1 = .ok (.iload_n 1, 1) := by decide +kernel
theorem dX11_tray_2 : decode cX11_tray 2 = .ok (.invokevirtual 202, 3) := by decide +kernel
theorem dX11_tray_5 : decode cX11_tray 5 = .ok (.astore 4, 2) := by decide +kernel
theorem dX11_tray_7 : decode cX11_tray 7 = .ok (.iload_n 2, 1) := by decide +kernel
theorem dX11_tray_8 : decode cX11_tray 8 = .ok (.iconst 0, 1) := by decide +kernel
theorem dX11_tray_9 : decode cX11_tray 9 = .ok (.iconst 3, 1) := by decide +kernel
theorem dX11_tray_10 : decode cX11_tray 10 = .ok (.invokestatic 74, 3) := by decide +kernel
theorem dX11_tray_13 : decode cX11_tray 13 = .ok (.iload_n 3, 1) := by decide +kernel
theorem dX11_tray_14 : decode cX11_tray 14 = .ok (.iconst 0, 1) := by decide +kernel
theorem dX11_tray_15 : decode cX11_tray 15 = .ok (.bipush 30, 2) := by decide +kernel
theorem dX11_tray_17 : decode cX11_tray 17 = .ok (.invokestatic 74, 3) := by decide +kernel
theorem dX11_tray_20 : decode cX11_tray 20 = .ok (.aload 4, 2) := by decide +kernel
theorem dX11_tray_22 : decode cX11_tray 22 = .ok (.iload_n 2, 1) := by decide +kernel
theorem dX11_tray_23 : decode cX11_tray 23 = .ok (.putfield 354, 3) := by decide +kernel
theorem dX11_tray_26 : decode cX11_tray 26 = .ok (.aload 4, 2) := by decide +kernel
theorem dX11_tray_28 : decode cX11_tray 28 = .ok (.iload_n 3, 1) := by decide +kernel
theorem dX11_tray_29 : decode cX11_tray 29 = .ok (.putfield 216, 3) := by decide +kernel
theorem dX11_tray_32 : decode cX11_tray 32 = .ok (.aload 4, 2) := by decide +kernel
theorem dX11_tray_34 : decode cX11_tray 34 = .ok (.getfield 217, 3) := by decide +kernel
theorem dX11_tray_37 : decode cX11_tray 37 = .ok (.lconst 0, 1) := by decide +kernel
theorem dX11_tray_38 : decode cX11_tray 38 = .ok (.invokestatic 357, 3) := by decide +kernel
theorem dX11_tray_41 : decode cX11_tray 41 = .ok (.return_, 1) := by decide +kernel
theorem dX11_write_0 : decode cX11_write 0 = .ok (.aload_n 0, 1) := by decide +kernel
theorem dX11_write_1 : decode cX11_write 1 = .ok (.iload_n 1, 1) := by decide +kernel
theorem dX11_write_2 : decode cX11_write 2 = .ok (.invokevirtual 202, 3) := by decide +kernel
theorem dX11_write_5 : decode cX11_write 5 = .ok (.astore 5, 2) := by decide +kernel
theorem dX11_write_7 : decode cX11_write 7 = .ok (.aload 5, 2) := by decide +kernel
theorem dX11_write_9 : decode cX11_write 9 = .ok (.invokestatic 206, 3) := by decide +kernel
theorem dX11_write_12 : decode cX11_write 12 = .ok (.iload_n 2, 1) := by decide +kernel
theorem dX11_write_13 : decode cX11_write 13 = .ok (.ifCond .lt 12, 3) := by decide +kernel
theorem dX11_write_16 : decode cX11_write 16 = .ok (.iload_n 2, 1) := by decide +kernel
theorem dX11_write_17 : decode cX11_write 17 = .ok (.aload 5, 2) := by decide +kernel
theorem dX11_write_19 : decode cX11_write 19 = .ok (.getfield 216, 3) := by decide +kernel
theorem dX11_write_22 : decode cX11_write 22 = .ok (.if_icmp .lt 14, 3) := by decide +kernel
theorem dX11_write_25 : decode cX11_write 25 = .ok (.new 363, 3) := by decide +kernel
theorem dX11_write_28 : decode cX11_write 28 = .ok (.dup, 1) := by decide +kernel
theorem dX11_write_29 : decode cX11_write 29 = .ok (.ldc_w 365, 3) := by decide +kernel
theorem dX11_write_32 : decode cX11_write 32 = .ok (.invokespecial 367, 3) := by decide +kernel
theorem dX11_write_35 : decode cX11_write 35 = .ok (.athrow, 1) := by decide +kernel
theorem dX11_write_36 : decode cX11_write 36 = .ok (.aload 5, 2) := by decide +kernel
theorem dX11_write_38 : decode cX11_write 38 = .ok (.getfield 217, 3) := by decide +kernel
theorem dX11_write_41 : decode cX11_write 41 = .ok (.iload_n 2, 1) := by decide +kernel
theorem dX11_write_42 : decode cX11_write 42 = .ok (.aload 5, 2) := by decide +kernel
theorem dX11_write_44 : decode cX11_write 44 = .ok (.lload_n 3, 1) := by decide +kernel
theorem dX11_write_45 : decode cX11_write 45 = .ok (.invokevirtual 368, 3) := by decide +kernel
theorem dX11_write_48 : decode cX11_write 48 = .ok (.lastore, 1) := by decide +kernel
theorem dX11_write_49 : decode cX11_write 49 = .ok (.aload 5, 2) := by decide +kernel
theorem dX11_write_51 : decode cX11_write 51 = .ok (.getfield 217, 3) := by decide +kernel
theorem dX11_write_54 : decode cX11_write 54 = .ok (.iload_n 2, 1) := by decide +kernel
theorem dX11_write_55 : decode cX11_write 55 = .ok (.laload, 1) := by decide +kernel
theorem dX11_write_56 : decode cX11_write 56 = .ok (.lreturn, 1) := by decide +kernel
theorem dX11_copy_0 : decode cX11_copy 0 = .ok (.aload_n 0, 1) := by decide +kernel
theorem dX11_copy_1 : decode cX11_copy 1 = .ok (.iload_n 1, 1) := by decide +kernel
theorem dX11_copy_2 : decode cX11_copy 2 = .ok (.invokevirtual 202, 3) := by decide +kernel
theorem dX11_copy_5 : decode cX11_copy 5 = .ok (.astore_n 3, 1) := by decide +kernel
theorem dX11_copy_6 : decode cX11_copy 6 = .ok (.aload_n 0, 1) := by decide +kernel
theorem dX11_copy_7 : decode cX11_copy 7 = .ok (.iload_n 2, 1) := by decide +kernel
theorem dX11_copy_8 : decode cX11_copy 8 = .ok (.invokevirtual 100, 3) := by decide +kernel
theorem dX11_copy_11 : decode cX11_copy 11 = .ok (.aload_n 3, 1) := by decide +kernel
theorem dX11_copy_12 : decode cX11_copy 12 = .ok (.invokestatic 206, 3) := by decide +kernel
theorem dX11_copy_15 : decode cX11_copy 15 = .ok (.iconst 0, 1) := by decide +kernel
theorem dX11_copy_16 : decode cX11_copy 16 = .ok (.istore 4, 2) := by decide +kernel
theorem dX11_copy_18 : decode cX11_copy 18 = .ok (.iload 4, 2) := by decide +kernel
theorem dX11_copy_20 : decode cX11_copy 20 = .ok (.aload_n 3, 1) := by decide +kernel
theorem dX11_copy_21 : decode cX11_copy 21 = .ok (.getfield 216, 3) := by decide +kernel
theorem dX11_copy_24 : decode cX11_copy 24 = .ok (.if_icmp .ge 37, 3) := by decide +kernel
theorem dX11_copy_27 : decode cX11_copy 27 = .ok (.aload_n 3, 1) := by decide +kernel
theorem dX11_copy_28 : decode cX11_copy 28 = .ok (.getfield 217, 3) := by decide +kernel
theorem dX11_copy_31 : decode cX11_copy 31 = .ok (.iload 4, 2) := by decide +kernel
theorem dX11_copy_33 : decode cX11_copy 33 = .ok (.aload_n 0, 1) := by decide +kernel
theorem dX11_copy_34 : decode cX11_copy 34 = .ok (.getfield 19, 3) := by decide +kernel
theorem dX11_copy_37 : decode cX11_copy 37 = .ok (.iload_n 2, 1) := by decide +kernel
theorem dX11_copy_38 : decode cX11_copy 38 = .ok (.aload_n 0, 1) := by decide +kernel
theorem dX11_copy_39 : decode cX11_copy 39 = .ok (.getfield 19, 3) := by decide +kernel
theorem dX11_copy_42 : decode cX11_copy 42 = .ok (.getfield 103, 3) := by decide +kernel
theorem dX11_copy_45 : decode cX11_copy 45 = .ok (.iconst 0, 1) := by decide +kernel
theorem dX11_copy_46 : decode cX11_copy 46 = .ok (.iaload, 1) := by decide +kernel
theorem dX11_copy_47 : decode cX11_copy 47 = .ok (.iload 4, 2) := by decide +kernel
theorem dX11_copy_49 : decode cX11_copy 49 = .ok (.iadd, 1) := by decide +kernel
theorem dX11_copy_50 : decode cX11_copy 50 = .ok (.invokevirtual 139, 3) := by decide +kernel
theorem dX11_copy_53 : decode cX11_copy 53 = .ok (.i2l, 1) := by decide +kernel
theorem dX11_copy_54 : decode cX11_copy 54 = .ok (.lastore, 1) := by decide +kernel
theorem dX11_copy_55 : decode cX11_copy 55 = .ok (.iinc 4 1, 3) := by decide +kernel
theorem dX11_copy_58 : decode cX11_copy 58 = .ok (.goto (-40), 3) := by decide +kernel
theorem dX11_copy_61 : decode cX11_copy 61 = .ok (.aload_n 3, 1) := by decide +kernel
theorem dX11_copy_62 : decode cX11_copy 62 = .ok (.getfield 216, 3) := by decide +kernel
theorem dX11_copy_65 : decode cX11_copy 65 = .ok (.ireturn, 1) := by decide +kernel
theorem dX11_image_0 : decode cX11_image 0 = .ok (.iload_n 1, 1) := by decide +kernel
theorem dX11_image_1 : decode cX11_image 1 = .ok (.invokestatic 372, 3) := by decide +kernel
theorem dX11_image_4 : decode cX11_image 4 = .ok (.aload_n 0, 1) := by decide +kernel
theorem dX11_image_5 : decode cX11_image 5 = .ok (.getfield 42, 3) := by decide +kernel
theorem dX11_image_8 : decode cX11_image 8 = .ok (.iload_n 1, 1) := by decide +kernel
theorem dX11_image_9 : decode cX11_image 9 = .ok (.aaload, 1) := by decide +kernel
theorem dX11_image_10 : decode cX11_image 10 = .ok (.ifnonnull 23, 3) := by decide +kernel
theorem dX11_image_13 : decode cX11_image 13 = .ok (.aload_n 0, 1) := by decide +kernel
theorem dX11_image_14 : decode cX11_image 14 = .ok (.getfield 42, 3) := by decide +kernel
theorem dX11_image_17 : decode cX11_image 17 = .ok (.iload_n 1, 1) := by decide +kernel
theorem dX11_image_18 : decode cX11_image 18 = .ok (.new 40, 3) := by decide +kernel
theorem dX11_image_21 : decode cX11_image 21 = .ok (.dup, 1) := by decide +kernel
theorem dX11_image_22 : decode cX11_image 22 = .ok (.aload_n 0, 1) := by decide +kernel
theorem dX11_image_23 : decode cX11_image 23 = .ok (.getfield 19, 3) := by decide +kernel
theorem dX11_image_26 : decode cX11_image 26 = .ok (.getfield 106, 3) := by decide +kernel
theorem dX11_image_29 : decode cX11_image 29 = .ok (.invokespecial 375, 3) := by decide +kernel
theorem dX11_image_32 : decode cX11_image 32 = .ok (.aastore, 1) := by decide +kernel
theorem dX11_image_33 : decode cX11_image 33 = .ok (.aload_n 0, 1) := by decide +kernel
theorem dX11_image_34 : decode cX11_image 34 = .ok (.getfield 42, 3) := by decide +kernel
theorem dX11_image_37 : decode cX11_image 37 = .ok (.iload_n 1, 1) := by decide +kernel
theorem dX11_image_38 : decode cX11_image 38 = .ok (.aaload, 1) := by decide +kernel
theorem dX11_image_39 : decode cX11_image 39 = .ok (.astore_n 2, 1) := by decide +kernel
theorem dX11_image_40 : decode cX11_image 40 = .ok (.aload_n 2, 1) := by decide +kernel
theorem dX11_image_41 : decode cX11_image 41 = .ok (.aload_n 0, 1) := by decide +kernel
theorem dX11_image_42 : decode cX11_image 42 = .ok (.getfield 19, 3) := by decide +kernel
theorem dX11_image_45 : decode cX11_image 45 = .ok (.getfield 106, 3) := by decide +kernel
theorem dX11_image_48 : decode cX11_image 48 = .ok (.putfield 377, 3) := by decide +kernel
theorem dX11_image_51 : decode cX11_image 51 = .ok (.aload_n 0, 1) := by decide +kernel
theorem dX11_image_52 : decode cX11_image 52 = .ok (.getfield 19, 3) := by decide +kernel
theorem dX11_image_55 : decode cX11_image 55 = .ok (.getfield 103, 3) := by decide +kernel
theorem dX11_image_58 : decode cX11_image 58 = .ok (.iconst 0, 1) := by decide +kernel
theorem dX11_image_59 : decode cX11_image 59 = .ok (.aload_n 2, 1) := by decide +kernel
theorem dX11_image_60 : decode cX11_image 60 = .ok (.getfield 378, 3) := by decide +kernel
theorem dX11_image_63 : decode cX11_image 63 = .ok (.iconst 0, 1) := by decide +kernel
theorem dX11_image_64 : decode cX11_image 64 = .ok (.bipush 49, 2) := by decide +kernel
theorem dX11_image_66 : decode cX11_image 66 = .ok (.invokestatic 210, 3) := by decide +kernel
theorem dX11_image_69 : decode cX11_image 69 = .ok (.aload_n 2, 1) := by decide +kernel
theorem dX11_image_70 : decode cX11_image 70 = .ok (.getfield 379, 3) := by decide +kernel
theorem dX11_image_73 : decode cX11_image 73 = .ok (.aload_n 0, 1) := by decide +kernel
theorem dX11_image_74 : decode cX11_image 74 = .ok (.getfield 26, 3) := by decide +kernel
theorem dX11_image_77 : decode cX11_image 77 = .ok (.invokevirtual 380, 3) := by decide +kernel
theorem dX11_image_80 : decode cX11_image 80 = .ok (.return_, 1) := by decide +kernel
theorem dX11_restore_0 : decode cX11_restore 0 = .ok (.iload_n 1, 1) := by decide +kernel
theorem dX11_restore_1 : decode cX11_restore 1 = .ok (.invokestatic 372, 3) := by decide +kernel
theorem dX11_restore_4 : decode cX11_restore 4 = .ok (.aload_n 0, 1) := by decide +kernel
theorem dX11_restore_5 : decode cX11_restore 5 = .ok (.getfield 42, 3) := by decide +kernel
theorem dX11_restore_8 : decode cX11_restore 8 = .ok (.iload_n 1, 1) := by decide +kernel
theorem dX11_restore_9 : decode cX11_restore 9 = .ok (.aaload, 1) := by decide +kernel
theorem dX11_restore_10 : decode cX11_restore 10 = .ok (.astore_n 2, 1) := by decide +kernel
theorem dX11_restore_11 : decode cX11_restore 11 = .ok (.aload_n 2, 1) := by decide +kernel
theorem dX11_restore_12 : decode cX11_restore 12 = .ok (.ifnonnull 14, 3) := by decide +kernel
theorem dX11_restore_15 : decode cX11_restore 15 = .ok (.new 178, 3) := by decide +kernel
theorem dX11_restore_18 : decode cX11_restore 18 = .ok (.dup, 1) := by decide +kernel
theorem dX11_restore_19 : decode cX11_restore 19 = .ok (.ldc_w 384, 3) := by decide +kernel
theorem dX11_restore_22 : decode cX11_restore 22 = .ok (.invokespecial 182, 3) := by decide +kernel
theorem dX11_restore_25 : decode cX11_restore 25 = .ok (.athrow, 1) := by decide +kernel
theorem dX11_restore_26 : decode cX11_restore 26 = .ok (.aload_n 0, 1) := by decide +kernel
theorem dX11_restore_27 : decode cX11_restore 27 = .ok (.getfield 19, 3) := by decide +kernel
theorem dX11_restore_30 : decode cX11_restore 30 = .ok (.aload_n 2, 1) := by decide +kernel
theorem dX11_restore_31 : decode cX11_restore 31 = .ok (.getfield 377, 3) := by decide +kernel
theorem dX11_restore_34 : decode cX11_restore 34 = .ok (.putfield 106, 3) := by decide +kernel
theorem dX11_restore_37 : decode cX11_restore 37 = .ok (.aload_n 2, 1) := by decide +kernel
theorem dX11_restore_38 : decode cX11_restore 38 = .ok (.getfield 378, 3) := by decide +kernel
theorem dX11_restore_41 : decode cX11_restore 41 = .ok (.iconst 0, 1) := by decide +kernel
theorem dX11_restore_42 : decode cX11_restore 42 = .ok (.aload_n 0, 1) := by decide +kernel
theorem dX11_restore_43 : decode cX11_restore 43 = .ok (.getfield 19, 3) := by decide +kernel
theorem dX11_restore_46 : decode cX11_restore 46 = .ok (.getfield 103, 3) := by decide +kernel
theorem dX11_restore_49 : decode cX11_restore 49 = .ok (.iconst 0, 1) := by decide +kernel
theorem dX11_restore_50 : decode cX11_restore 50 = .ok (.bipush 49, 2) := by decide +kernel
theorem dX11_restore_52 : decode cX11_restore 52 = .ok (.invokestatic 210, 3) := by decide +kernel
theorem dX11_restore_55 : decode cX11_restore 55 = .ok (.aload_n 0, 1) := by decide +kernel
theorem dX11_restore_56 : decode cX11_restore 56 = .ok (.getfield 26, 3) := by decide +kernel
theorem dX11_restore_59 : decode cX11_restore 59 = .ok (.aload_n 2, 1) := by decide +kernel
theorem dX11_restore_60 : decode cX11_restore 60 = .ok (.getfield 379, 3) := by decide +kernel
theorem dX11_restore_63 : decode cX11_restore 63 = .ok (.invokevirtual 380, 3) := by decide +kernel
theorem dX11_restore_66 : decode cX11_restore 66 = .ok (.aload_n 0, 1) := by decide +kernel
theorem dX11_restore_67 : decode cX11_restore 67 = .ok (.getfield 19, 3) := by decide +kernel
theorem dX11_restore_70 : decode cX11_restore 70 = .ok (.invokevirtual 172, 3) := by decide +kernel
theorem dX11_restore_73 : decode cX11_restore 73 = .ok (.return_, 1) := by decide +kernel
theorem dX11_count_0 : decode cX11_count 0 = .ok (.iload_n 1, 1) := by decide +kernel
theorem dX11_count_1 : decode cX11_count 1 = .ok (.tableswitch 150 0 8 #[51, 62, 73, 84, 95, 105, 115, 134, 142], 51) := by decide +kernel
theorem dX11_count_52 : decode cX11_count 52 = .ok (.aload_n 0, 1) := by decide +kernel
theorem dX11_count_53 : decode cX11_count 53 = .ok (.getfield 19, 3) := by decide +kernel
theorem dX11_count_56 : decode cX11_count 56 = .ok (.getfield 106, 3) := by decide +kernel
theorem dX11_count_59 : decode cX11_count 59 = .ok (.getfield 92, 3) := by decide +kernel
theorem dX11_count_62 : decode cX11_count 62 = .ok (.ireturn, 1) := by decide +kernel
theorem dX11_count_63 : decode cX11_count 63 = .ok (.aload_n 0, 1) := by decide +kernel
theorem dX11_count_64 : decode cX11_count 64 = .ok (.getfield 19, 3) := by decide +kernel
theorem dX11_count_67 : decode cX11_count 67 = .ok (.getfield 106, 3) := by decide +kernel
theorem dX11_count_70 : decode cX11_count 70 = .ok (.getfield 175, 3) := by decide +kernel
theorem dX11_count_73 : decode cX11_count 73 = .ok (.ireturn, 1) := by decide +kernel
theorem dX11_count_74 : decode cX11_count 74 = .ok (.aload_n 0, 1) := by decide +kernel
theorem dX11_count_75 : decode cX11_count 75 = .ok (.getfield 19, 3) := by decide +kernel
theorem dX11_count_78 : decode cX11_count 78 = .ok (.getfield 106, 3) := by decide +kernel
theorem dX11_count_81 : decode cX11_count 81 = .ok (.getfield 386, 3) := by decide +kernel
theorem dX11_count_84 : decode cX11_count 84 = .ok (.ireturn, 1) := by decide +kernel
theorem dX11_count_85 : decode cX11_count 85 = .ok (.aload_n 0, 1) := by decide +kernel
theorem dX11_count_86 : decode cX11_count 86 = .ok (.getfield 19, 3) := by decide +kernel
theorem dX11_count_89 : decode cX11_count 89 = .ok (.invokevirtual 185, 3) := by decide +kernel
theorem dX11_count_92 : decode cX11_count 92 = .ok (.invokestatic 189, 3) := by decide +kernel
theorem dX11_count_95 : decode cX11_count 95 = .ok (.ireturn, 1) := by decide +kernel
theorem dX11_count_96 : decode cX11_count 96 = .ok (.aload_n 0, 1) := by decide +kernel
theorem dX11_count_97 : decode cX11_count 97 = .ok (.getfield 19, 3) := by decide +kernel
theorem dX11_count_100 : decode cX11_count 100 = .ok (.getfield 103, 3) := by decide +kernel
theorem dX11_count_103 : decode cX11_count 103 = .ok (.iconst 0, 1) := by decide +kernel
theorem dX11_count_104 : decode cX11_count 104 = .ok (.iaload, 1) := by decide +kernel
theorem dX11_count_105 : decode cX11_count 105 = .ok (.ireturn, 1) := by decide +kernel
theorem dX11_count_106 : decode cX11_count 106 = .ok (.aload_n 0, 1) := by decide +kernel
theorem dX11_count_107 : decode cX11_count 107 = .ok (.getfield 19, 3) := by decide +kernel
theorem dX11_count_110 : decode cX11_count 110 = .ok (.getfield 103, 3) := by decide +kernel
theorem dX11_count_113 : decode cX11_count 113 = .ok (.iconst 1, 1) := by decide +kernel
theorem dX11_count_114 : decode cX11_count 114 = .ok (.iaload, 1) := by decide +kernel
theorem dX11_count_115 : decode cX11_count 115 = .ok (.ireturn, 1) := by decide +kernel
theorem dX11_count_116 : decode cX11_count 116 = .ok (.aload_n 0, 1) := by decide +kernel
theorem dX11_count_117 : decode cX11_count 117 = .ok (.getfield 19, 3) := by decide +kernel
theorem dX11_count_120 : decode cX11_count 120 = .ok (.getfield 106, 3) := by decide +kernel
theorem dX11_count_123 : decode cX11_count 123 = .ok (.getfield 389, 3) := by decide +kernel
theorem dX11_count_126 : decode cX11_count 126 = .ok (.ifCond .eq 7, 3) := by decide +kernel
theorem dX11_count_129 : decode cX11_count 129 = .ok (.iconst 1, 1) := by decide +kernel
theorem dX11_count_130 : decode cX11_count 130 = .ok (.goto 4, 3) := by decide +kernel
theorem dX11_count_133 : decode cX11_count 133 = .ok (.iconst 0, 1) := by decide +kernel
theorem dX11_count_134 : decode cX11_count 134 = .ok (.ireturn, 1) := by decide +kernel
theorem dX11_count_135 : decode cX11_count 135 = .ok (.aload_n 0, 1) := by decide +kernel
theorem dX11_count_136 : decode cX11_count 136 = .ok (.getfield 26, 3) := by decide +kernel
theorem dX11_count_139 : decode cX11_count 139 = .ok (.getfield 89, 3) := by decide +kernel
theorem dX11_count_142 : decode cX11_count 142 = .ok (.ireturn, 1) := by decide +kernel
theorem dX11_count_143 : decode cX11_count 143 = .ok (.aload_n 0, 1) := by decide +kernel
theorem dX11_count_144 : decode cX11_count 144 = .ok (.getfield 12, 3) := by decide +kernel
theorem dX11_count_147 : decode cX11_count 147 = .ok (.getfield 67, 3) := by decide +kernel
theorem dX11_count_150 : decode cX11_count 150 = .ok (.ireturn, 1) := by decide +kernel
theorem dX11_count_151 : decode cX11_count 151 = .ok (.iconst (-1), 1) := by decide +kernel
theorem dX11_count_152 : decode cX11_count 152 = .ok (.ireturn, 1) := by decide +kernel
theorem dX11_needWard_0 : decode cX11_needWard 0 = .ok (.iload_n 1, 1) := by decide +kernel
theorem dX11_needWard_1 : decode cX11_needWard 1 = .ok (.ifCond .lt 17, 3) := by decide +kernel
theorem dX11_needWard_4 : decode cX11_needWard 4 = .ok (.iload_n 1, 1) := by decide +kernel
theorem dX11_needWard_5 : decode cX11_needWard 5 = .ok (.aload_n 0, 1) := by decide +kernel
theorem dX11_needWard_6 : decode cX11_needWard 6 = .ok (.getfield 19, 3) := by decide +kernel
theorem dX11_needWard_9 : decode cX11_needWard 9 = .ok (.getfield 106, 3) := by decide +kernel
theorem dX11_needWard_12 : decode cX11_needWard 12 = .ok (.getfield 175, 3) := by decide +kernel
theorem dX11_needWard_15 : decode cX11_needWard 15 = .ok (.if_icmp .lt 14, 3) := by decide +kernel
theorem dX11_needWard_18 : decode cX11_needWard 18 = .ok (.new 393, 3) := by decide +kernel
theorem dX11_needWard_21 : decode cX11_needWard 21 = .ok (.dup, 1) := by decide +kernel
theorem dX11_needWard_22 : decode cX11_needWard 22 = .ok (.ldc_w 395, 3) := by decide +kernel
theorem dX11_needWard_25 : decode cX11_needWard 25 = .ok (.invokespecial 397, 3) := by decide +kernel
theorem dX11_needWard_28 : decode cX11_needWard 28 = .ok (.athrow, 1) := by decide +kernel
theorem dX11_needWard_29 : decode cX11_needWard 29 = .ok (.return_, 1) := by decide +kernel
theorem dX11_needAct_0 : decode cX11_needAct 0 = .ok (.iload_n 1, 1) := by decide +kernel
theorem dX11_needAct_1 : decode cX11_needAct 1 = .ok (.ifCond .lt 17, 3) := by decide +kernel
theorem dX11_needAct_4 : decode cX11_needAct 4 = .ok (.iload_n 1, 1) := by decide +kernel
theorem dX11_needAct_5 : decode cX11_needAct 5 = .ok (.aload_n 0, 1) := by decide +kernel
theorem dX11_needAct_6 : decode cX11_needAct 6 = .ok (.getfield 19, 3) := by decide +kernel
theorem dX11_needAct_9 : decode cX11_needAct 9 = .ok (.getfield 106, 3) := by decide +kernel
theorem dX11_needAct_12 : decode cX11_needAct 12 = .ok (.getfield 386, 3) := by decide +kernel
theorem dX11_needAct_15 : decode cX11_needAct 15 = .ok (.if_icmp .lt 14, 3) := by decide +kernel
theorem dX11_needAct_18 : decode cX11_needAct 18 = .ok (.new 393, 3) := by decide +kernel
theorem dX11_needAct_21 : decode cX11_needAct 21 = .ok (.dup, 1) := by decide +kernel
theorem dX11_needAct_22 : decode cX11_needAct 22 = .ok (.ldc_w 398, 3) := by decide +kernel
theorem dX11_needAct_25 : decode cX11_needAct 25 = .ok (.invokespecial 397, 3) := by decide +kernel
theorem dX11_needAct_28 : decode cX11_needAct 28 = .ok (.athrow, 1) := by decide +kernel
theorem dX11_needAct_29 : decode cX11_needAct 29 = .ok (.return_, 1) := by decide +kernel
theorem dX11_needImage_0 : decode cX11_needImage 0 = .ok (.iload_n 0, 1) := by decide +kernel
theorem dX11_needImage_1 : decode cX11_needImage 1 = .ok (.ifCond .lt 8, 3) := by decide +kernel
theorem dX11_needImage_4 : decode cX11_needImage 4 = .ok (.iload_n 0, 1) := by decide +kernel
theorem dX11_needImage_5 : decode cX11_needImage 5 = .ok (.iconst 3, 1) := by decide +kernel
theorem dX11_needImage_6 : decode cX11_needImage 6 = .ok (.if_icmp .lt 14, 3) := by decide +kernel
theorem dX11_needImage_9 : decode cX11_needImage 9 = .ok (.new 393, 3) := by decide +kernel
theorem dX11_needImage_12 : decode cX11_needImage 12 = .ok (.dup, 1) := by decide +kernel
theorem dX11_needImage_13 : decode cX11_needImage 13 = .ok (.ldc_w 400, 3) := by decide +kernel
theorem dX11_needImage_16 : decode cX11_needImage 16 = .ok (.invokespecial 397, 3) := by decide +kernel
theorem dX11_needImage_19 : decode cX11_needImage 19 = .ok (.athrow, 1) := by decide +kernel
theorem dX11_needImage_20 : decode cX11_needImage 20 = .ok (.return_, 1) := by decide +kernel
theorem dX11_trayAt_0 : decode cX11_trayAt 0 = .ok (.iload_n 1, 1) := by decide +kernel
theorem dX11_trayAt_1 : decode cX11_trayAt 1 = .ok (.ifCond .lt 8, 3) := by decide +kernel
theorem dX11_trayAt_4 : decode cX11_trayAt 4 = .ok (.iload_n 1, 1) := by decide +kernel
theorem dX11_trayAt_5 : decode cX11_trayAt 5 = .ok (.iconst 4, 1) := by decide +kernel
theorem dX11_trayAt_6 : decode cX11_trayAt 6 = .ok (.if_icmp .lt 14, 3) := by decide +kernel
theorem dX11_trayAt_9 : decode cX11_trayAt 9 = .ok (.new 393, 3) := by decide +kernel
theorem dX11_trayAt_12 : decode cX11_trayAt 12 = .ok (.dup, 1) := by decide +kernel
theorem dX11_trayAt_13 : decode cX11_trayAt 13 = .ok (.ldc_w 402, 3) := by decide +kernel
theorem dX11_trayAt_16 : decode cX11_trayAt 16 = .ok (.invokespecial 397, 3) := by decide +kernel
theorem dX11_trayAt_19 : decode cX11_trayAt 19 = .ok (.athrow, 1) := by decide +kernel
theorem dX11_trayAt_20 : decode cX11_trayAt 20 = .ok (.aload_n 0, 1) := by decide +kernel
theorem dX11_trayAt_21 : decode cX11_trayAt 21 = .ok (.getfield 36, 3) := by decide +kernel
theorem dX11_trayAt_24 : decode cX11_trayAt 24 = .ok (.iload_n 1, 1) := by decide +kernel
theorem dX11_trayAt_25 : decode cX11_trayAt 25 = .ok (.aaload, 1) := by decide +kernel
theorem dX11_trayAt_26 : decode cX11_trayAt 26 = .ok (.areturn, 1) := by decide +kernel
theorem dX11_needPlaced_0 : decode cX11_needPlaced 0 = .ok (.aload_n 0, 1) := by decide +kernel
theorem dX11_needPlaced_1 : decode cX11_needPlaced 1 = .ok (.getfield 216, 3) := by decide +kernel
theorem dX11_needPlaced_4 : decode cX11_needPlaced 4 = .ok (.iconst (-1), 1) := by decide +kernel
theorem dX11_needPlaced_5 : decode cX11_needPlaced 5 = .ok (.if_icmp .ne 14, 3) := by decide +kernel
theorem dX11_needPlaced_8 : decode cX11_needPlaced 8 = .ok (.new 178, 3) := by decide +kernel
theorem dX11_needPlaced_11 : decode cX11_needPlaced 11 = .ok (.dup, 1) := by decide +kernel
theorem dX11_needPlaced_12 : decode cX11_needPlaced 12 = .ok (.ldc_w 404, 3) := by decide +kernel
theorem dX11_needPlaced_15 : decode cX11_needPlaced 15 = .ok (.invokespecial 182, 3) := by decide +kernel
theorem dX11_needPlaced_18 : decode cX11_needPlaced 18 = .ok (.athrow, 1) := by decide +kernel
theorem dX11_needPlaced_19 : decode cX11_needPlaced 19 = .ok (.return_, 1) := by decide +kernel
theorem dX11_needWithin_0 : decode cX11_needWithin 0 = .ok (.iload_n 0, 1) := by decide +kernel
theorem dX11_needWithin_1 : decode cX11_needWithin 1 = .ok (.iload_n 1, 1) := by decide +kernel
theorem dX11_needWithin_2 : decode cX11_needWithin 2 = .ok (.if_icmp .lt 8, 3) := by decide +kernel
theorem dX11_needWithin_5 : decode cX11_needWithin 5 = .ok (.iload_n 0, 1) := by decide +kernel
theorem dX11_needWithin_6 : decode cX11_needWithin 6 = .ok (.iload_n 2, 1) := by decide +kernel
theorem dX11_needWithin_7 : decode cX11_needWithin 7 = .ok (.if_icmp .le 14, 3) := by decide +kernel
theorem dX11_needWithin_10 : decode cX11_needWithin 10 = .ok (.new 294, 3) := by decide +kernel
theorem dX11_needWithin_13 : decode cX11_needWithin 13 = .ok (.dup, 1) := by decide +kernel
theorem dX11_needWithin_14 : decode cX11_needWithin 14 = .ok (.ldc_w 406, 3) := by decide +kernel
theorem dX11_needWithin_17 : decode cX11_needWithin 17 = .ok (.invokespecial 298, 3) := by decide +kernel
theorem dX11_needWithin_20 : decode cX11_needWithin 20 = .ok (.athrow, 1) := by decide +kernel
theorem dX11_needWithin_21 : decode cX11_needWithin 21 = .ok (.return_, 1) := by decide +kernel
theorem dX11_needNotBelowZero_0 : decode cX11_needNotBelowZero 0 = .ok (.iload_n 0, 1) := by decide +kernel
theorem dX11_needNotBelowZero_1 : decode cX11_needNotBelowZero 1 = .ok (.ifCond .ge 14, 3) := by decide +kernel
theorem dX11_needNotBelowZero_4 : decode cX11_needNotBelowZero 4 = .ok (.new 294, 3) := by decide +kernel
theorem dX11_needNotBelowZero_7 : decode cX11_needNotBelowZero 7 = .ok (.dup, 1) := by decide +kernel
theorem dX11_needNotBelowZero_8 : decode cX11_needNotBelowZero 8 = .ok (.ldc_w 408, 3) := by decide +kernel
theorem dX11_needNotBelowZero_11 : decode cX11_needNotBelowZero 11 = .ok (.invokespecial 298, 3) := by decide +kernel
theorem dX11_needNotBelowZero_14 : decode cX11_needNotBelowZero 14 = .ok (.athrow, 1) := by decide +kernel
theorem dX11_needNotBelowZero_15 : decode cX11_needNotBelowZero 15 = .ok (.return_, 1) := by decide +kernel
theorem dX11_needKind_0 : decode cX11_needKind 0 = .ok (.iload_n 0, 1) := by decide +kernel
theorem dX11_needKind_1 : decode cX11_needKind 1 = .ok (.iconst 0, 1) := by decide +kernel
theorem dX11_needKind_2 : decode cX11_needKind 2 = .ok (.bipush 9, 2) := by decide +kernel
theorem dX11_needKind_4 : decode cX11_needKind 4 = .ok (.invokestatic 74, 3) := by decide +kernel
theorem dX11_needKind_7 : decode cX11_needKind 7 = .ok (.return_, 1) := by decide +kernel
theorem dX11_needDeed_0 : decode cX11_needDeed 0 = .ok (.aload_n 0, 1) := by decide +kernel
theorem dX11_needDeed_1 : decode cX11_needDeed 1 = .ok (.iload_n 2, 1) := by decide +kernel
theorem dX11_needDeed_2 : decode cX11_needDeed 2 = .ok (.invokevirtual 100, 3) := by decide +kernel
theorem dX11_needDeed_5 : decode cX11_needDeed 5 = .ok (.iload_n 1, 1) := by decide +kernel
theorem dX11_needDeed_6 : decode cX11_needDeed 6 = .ok (.invokestatic 242, 3) := by decide +kernel
theorem dX11_needDeed_9 : decode cX11_needDeed 9 = .ok (.iload_n 3, 1) := by decide +kernel
theorem dX11_needDeed_10 : decode cX11_needDeed 10 = .ok (.iconst 1, 1) := by decide +kernel
theorem dX11_needDeed_11 : decode cX11_needDeed 11 = .ok (.bipush 24, 2) := by decide +kernel
theorem dX11_needDeed_13 : decode cX11_needDeed 13 = .ok (.invokestatic 74, 3) := by decide +kernel
theorem dX11_needDeed_16 : decode cX11_needDeed 16 = .ok (.return_, 1) := by decide +kernel
theorem dX11_needWay_0 : decode cX11_needWay 0 = .ok (.aload_n 0, 1) := by decide +kernel
theorem dX11_needWay_1 : decode cX11_needWay 1 = .ok (.iload_n 2, 1) := by decide +kernel
theorem dX11_needWay_2 : decode cX11_needWay 2 = .ok (.invokevirtual 100, 3) := by decide +kernel
theorem dX11_needWay_5 : decode cX11_needWay 5 = .ok (.aload_n 0, 1) := by decide +kernel
theorem dX11_needWay_6 : decode cX11_needWay 6 = .ok (.iload_n 3, 1) := by decide +kernel
theorem dX11_needWay_7 : decode cX11_needWay 7 = .ok (.invokevirtual 100, 3) := by decide +kernel
theorem dX11_needWay_10 : decode cX11_needWay 10 = .ok (.iload_n 1, 1) := by decide +kernel
theorem dX11_needWay_11 : decode cX11_needWay 11 = .ok (.invokestatic 242, 3) := by decide +kernel
theorem dX11_needWay_14 : decode cX11_needWay 14 = .ok (.return_, 1) := by decide +kernel
theorem dX11_needErrands_0 : decode cX11_needErrands 0 = .ok (.aload_n 1, 1) := by decide +kernel
theorem dX11_needErrands_1 : decode cX11_needErrands 1 = .ok (.getfield 216, 3) := by decide +kernel
theorem dX11_needErrands_4 : decode cX11_needErrands 4 = .ok (.iconst 1, 1) := by decide +kernel
theorem dX11_needErrands_5 : decode cX11_needErrands 5 = .ok (.iconst 4, 1) := by decide +kernel
theorem dX11_needErrands_6 : decode cX11_needErrands 6 = .ok (.invokestatic 74, 3) := by decide +kernel
theorem dX11_needErrands_9 : decode cX11_needErrands 9 = .ok (.iconst 0, 1) := by decide +kernel
theorem dX11_needErrands_10 : decode cX11_needErrands 10 = .ok (.istore_n 2, 1) := by decide +kernel
theorem dX11_needErrands_11 : decode cX11_needErrands 11 = .ok (.iload_n 2, 1) := by decide +kernel
theorem dX11_needErrands_12 : decode cX11_needErrands 12 = .ok (.aload_n 1, 1) := by decide +kernel
theorem dX11_needErrands_13 : decode cX11_needErrands 13 = .ok (.getfield 216, 3) := by decide +kernel
theorem dX11_needErrands_16 : decode cX11_needErrands 16 = .ok (.if_icmp .ge 36, 3) := by decide +kernel
theorem dX11_needErrands_19 : decode cX11_needErrands 19 = .ok (.aload_n 0, 1) := by decide +kernel
theorem dX11_needErrands_20 : decode cX11_needErrands 20 = .ok (.getfield 19, 3) := by decide +kernel
theorem dX11_needErrands_23 : decode cX11_needErrands 23 = .ok (.aload_n 1, 1) := by decide +kernel
theorem dX11_needErrands_24 : decode cX11_needErrands 24 = .ok (.getfield 217, 3) := by decide +kernel
theorem dX11_needErrands_27 : decode cX11_needErrands 27 = .ok (.iload_n 2, 1) := by decide +kernel
theorem dX11_needErrands_28 : decode cX11_needErrands 28 = .ok (.laload, 1) := by decide +kernel
theorem dX11_needErrands_29 : decode cX11_needErrands 29 = .ok (.invokevirtual 410, 3) := by decide +kernel
theorem dX11_needErrands_32 : decode cX11_needErrands 32 = .ok (.ifCond .ne 14, 3) := by decide +kernel
theorem dX11_needErrands_35 : decode cX11_needErrands 35 = .ok (.new 294, 3) := by decide +kernel
theorem dX11_needErrands_38 : decode cX11_needErrands 38 = .ok (.dup, 1) := by decide +kernel
theorem dX11_needErrands_39 : decode cX11_needErrands 39 = .ok (.ldc_w 414, 3) := by decide +kernel
theorem dX11_needErrands_42 : decode cX11_needErrands 42 = .ok (.invokespecial 298, 3) := by decide +kernel
theorem dX11_needErrands_45 : decode cX11_needErrands 45 = .ok (.athrow, 1) := by decide +kernel
theorem dX11_needErrands_46 : decode cX11_needErrands 46 = .ok (.iinc 2 1, 3) := by decide +kernel
theorem dX11_needErrands_49 : decode cX11_needErrands 49 = .ok (.goto (-38), 3) := by decide +kernel
theorem dX11_needErrands_52 : decode cX11_needErrands 52 = .ok (.return_, 1) := by decide +kernel
theorem dX11_needSeen_0 : decode cX11_needSeen 0 = .ok (.aload_n 0, 1) := by decide +kernel
theorem dX11_needSeen_1 : decode cX11_needSeen 1 = .ok (.iload_n 1, 1) := by decide +kernel
theorem dX11_needSeen_2 : decode cX11_needSeen 2 = .ok (.invokevirtual 202, 3) := by decide +kernel
theorem dX11_needSeen_5 : decode cX11_needSeen 5 = .ok (.astore 4, 2) := by decide +kernel
theorem dX11_needSeen_7 : decode cX11_needSeen 7 = .ok (.aload_n 0, 1) := by decide +kernel
theorem dX11_needSeen_8 : decode cX11_needSeen 8 = .ok (.iload_n 3, 1) := by decide +kernel
theorem dX11_needSeen_9 : decode cX11_needSeen 9 = .ok (.invokevirtual 100, 3) := by decide +kernel
theorem dX11_needSeen_12 : decode cX11_needSeen 12 = .ok (.aload 4, 2) := by decide +kernel
theorem dX11_needSeen_14 : decode cX11_needSeen 14 = .ok (.invokestatic 206, 3) := by decide +kernel
theorem dX11_needSeen_17 : decode cX11_needSeen 17 = .ok (.iload_n 2, 1) := by decide +kernel
theorem dX11_needSeen_18 : decode cX11_needSeen 18 = .ok (.invokestatic 242, 3) := by decide +kernel
theorem dX11_needSeen_21 : decode cX11_needSeen 21 = .ok (.aload 4, 2) := by decide +kernel
theorem dX11_needSeen_23 : decode cX11_needSeen 23 = .ok (.getfield 216, 3) := by decide +kernel
theorem dX11_needSeen_26 : decode cX11_needSeen 26 = .ok (.iconst 1, 1) := by decide +kernel
theorem dX11_needSeen_27 : decode cX11_needSeen 27 = .ok (.bipush 24, 2) := by decide +kernel
theorem dX11_needSeen_29 : decode cX11_needSeen 29 = .ok (.invokestatic 74, 3) := by decide +kernel
theorem dX11_needSeen_32 : decode cX11_needSeen 32 = .ok (.iconst 0, 1) := by decide +kernel
theorem dX11_needSeen_33 : decode cX11_needSeen 33 = .ok (.istore 5, 2) := by decide +kernel
theorem dX11_needSeen_35 : decode cX11_needSeen 35 = .ok (.iload 5, 2) := by decide +kernel
theorem dX11_needSeen_37 : decode cX11_needSeen 37 = .ok (.aload 4, 2) := by decide +kernel
theorem dX11_needSeen_39 : decode cX11_needSeen 39 = .ok (.getfield 216, 3) := by decide +kernel
theorem dX11_needSeen_42 : decode cX11_needSeen 42 = .ok (.if_icmp .ge 81, 3) := by decide +kernel
theorem dX11_needSeen_45 : decode cX11_needSeen 45 = .ok (.aload 4, 2) := by decide +kernel
theorem dX11_needSeen_47 : decode cX11_needSeen 47 = .ok (.getfield 217, 3) := by decide +kernel
theorem dX11_needSeen_50 : decode cX11_needSeen 50 = .ok (.iload 5, 2) := by decide +kernel
theorem dX11_needSeen_52 : decode cX11_needSeen 52 = .ok (.laload, 1) := by decide +kernel
theorem dX11_needSeen_53 : decode cX11_needSeen 53 = .ok (.lstore 6, 2) := by decide +kernel
theorem dX11_needSeen_55 : decode cX11_needSeen 55 = .ok (.iload 5, 2) := by decide +kernel
theorem dX11_needSeen_57 : decode cX11_needSeen 57 = .ok (.aload_n 0, 1) := by decide +kernel
theorem dX11_needSeen_58 : decode cX11_needSeen 58 = .ok (.getfield 19, 3) := by decide +kernel
theorem dX11_needSeen_61 : decode cX11_needSeen 61 = .ok (.getfield 103, 3) := by decide +kernel
theorem dX11_needSeen_64 : decode cX11_needSeen 64 = .ok (.iconst 0, 1) := by decide +kernel
theorem dX11_needSeen_65 : decode cX11_needSeen 65 = .ok (.iaload, 1) := by decide +kernel
theorem dX11_needSeen_66 : decode cX11_needSeen 66 = .ok (.if_icmp .ge 7, 3) := by decide +kernel
theorem dX11_needSeen_69 : decode cX11_needSeen 69 = .ok (.iconst 1, 1) := by decide +kernel
theorem dX11_needSeen_70 : decode cX11_needSeen 70 = .ok (.goto 4, 3) := by decide +kernel
theorem dX11_needSeen_73 : decode cX11_needSeen 73 = .ok (.iconst 0, 1) := by decide +kernel
theorem dX11_needSeen_74 : decode cX11_needSeen 74 = .ok (.istore 8, 2) := by decide +kernel
theorem dX11_needSeen_76 : decode cX11_needSeen 76 = .ok (.lload 6, 2) := by decide +kernel
theorem dX11_needSeen_78 : decode cX11_needSeen 78 = .ok (.ldc2_w 416, 3) := by decide +kernel
theorem dX11_needSeen_81 : decode cX11_needSeen 81 = .ok (.lcmp, 1) := by decide +kernel
theorem dX11_needSeen_82 : decode cX11_needSeen 82 = .ok (.ifCond .eq 35, 3) := by decide +kernel
theorem dX11_needSeen_85 : decode cX11_needSeen 85 = .ok (.iload 8, 2) := by decide +kernel
theorem dX11_needSeen_87 : decode cX11_needSeen 87 = .ok (.ifCond .eq 19, 3) := by decide +kernel
theorem dX11_needSeen_90 : decode cX11_needSeen 90 = .ok (.lload 6, 2) := by decide +kernel
theorem dX11_needSeen_92 : decode cX11_needSeen 92 = .ok (.lconst 0, 1) := by decide +kernel
theorem dX11_needSeen_93 : decode cX11_needSeen 93 = .ok (.lcmp, 1) := by decide +kernel
theorem dX11_needSeen_94 : decode cX11_needSeen 94 = .ok (.ifCond .lt 12, 3) := by decide +kernel
theorem dX11_needSeen_97 : decode cX11_needSeen 97 = .ok (.lload 6, 2) := by decide +kernel
theorem dX11_needSeen_99 : decode cX11_needSeen 99 = .ok (.ldc2_w 418, 3) := by decide +kernel
theorem dX11_needSeen_102 : decode cX11_needSeen 102 = .ok (.lcmp, 1) := by decide +kernel
theorem dX11_needSeen_103 : decode cX11_needSeen 103 = .ok (.ifCond .le 14, 3) := by decide +kernel
theorem dX11_needSeen_106 : decode cX11_needSeen 106 = .ok (.new 294, 3) := by decide +kernel
theorem dX11_needSeen_109 : decode cX11_needSeen 109 = .ok (.dup, 1) := by decide +kernel
theorem dX11_needSeen_110 : decode cX11_needSeen 110 = .ok (.ldc_w 420, 3) := by decide +kernel
theorem dX11_needSeen_113 : decode cX11_needSeen 113 = .ok (.invokespecial 298, 3) := by decide +kernel
theorem dX11_needSeen_116 : decode cX11_needSeen 116 = .ok (.athrow, 1) := by decide +kernel
theorem dX11_needSeen_117 : decode cX11_needSeen 117 = .ok (.iinc 5 1, 3) := by decide +kernel
theorem dX11_needSeen_120 : decode cX11_needSeen 120 = .ok (.goto (-85), 3) := by decide +kernel
theorem dX11_needSeen_123 : decode cX11_needSeen 123 = .ok (.aload 4, 2) := by decide +kernel
theorem dX11_needSeen_125 : decode cX11_needSeen 125 = .ok (.areturn, 1) := by decide +kernel
