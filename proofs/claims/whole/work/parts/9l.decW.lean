theorem dL_land_0 : decode cL_land 0 = .ok (.aload_n 2, 1) := by decide +kernel
theorem dL_land_1 : decode cL_land 1 = .ok (.iconst 0, 1) := by decide +kernel
theorem dL_land_2 : decode cL_land 2 = .ok (.aload_n 0, 1) := by decide +kernel
theorem dL_land_3 : decode cL_land 3 = .ok (.iload_n 1, 1) := by decide +kernel
theorem dL_land_4 : decode cL_land 4 = .ok (.invokevirtual 7, 3) := by decide +kernel
theorem dL_land_7 : decode cL_land 7 = .ok (.i2l, 1) := by decide +kernel
theorem dL_land_8 : decode cL_land 8 = .ok (.lastore, 1) := by decide +kernel
theorem dL_land_9 : decode cL_land 9 = .ok (.goto 6, 3) := by decide +kernel
theorem dL_land_12 : decode cL_land 12 = .ok (.astore_n 3, 1) := by decide +kernel
theorem dL_land_13 : decode cL_land 13 = .ok (.iconst 1, 1) := by decide +kernel
theorem dL_land_14 : decode cL_land 14 = .ok (.ireturn, 1) := by decide +kernel
theorem dL_land_15 : decode cL_land 15 = .ok (.iconst 0, 1) := by decide +kernel
theorem dL_land_16 : decode cL_land 16 = .ok (.ireturn, 1) := by decide +kernel
theorem dL_ward_0 : decode cL_ward 0 = .ok (.aload_n 3, 1) := by decide +kernel
theorem dL_ward_1 : decode cL_ward 1 = .ok (.iconst 0, 1) := by decide +kernel
theorem dL_ward_2 : decode cL_ward 2 = .ok (.aload_n 0, 1) := by decide +kernel
theorem dL_ward_3 : decode cL_ward 3 = .ok (.iload_n 1, 1) := by decide +kernel
theorem dL_ward_4 : decode cL_ward 4 = .ok (.iload_n 2, 1) := by decide +kernel
theorem dL_ward_5 : decode cL_ward 5 = .ok (.invokevirtual 15, 3) := by decide +kernel
theorem dL_ward_8 : decode cL_ward 8 = .ok (.i2l, 1) := by decide +kernel
theorem dL_ward_9 : decode cL_ward 9 = .ok (.lastore, 1) := by decide +kernel
theorem dL_ward_10 : decode cL_ward 10 = .ok (.goto 11, 3) := by decide +kernel
theorem dL_ward_13 : decode cL_ward 13 = .ok (.astore 4, 2) := by decide +kernel
theorem dL_ward_15 : decode cL_ward 15 = .ok (.iconst 1, 1) := by decide +kernel
theorem dL_ward_16 : decode cL_ward 16 = .ok (.ireturn, 1) := by decide +kernel
theorem dL_ward_17 : decode cL_ward 17 = .ok (.astore 4, 2) := by decide +kernel
theorem dL_ward_19 : decode cL_ward 19 = .ok (.iconst 2, 1) := by decide +kernel
theorem dL_ward_20 : decode cL_ward 20 = .ok (.ireturn, 1) := by decide +kernel
theorem dL_ward_21 : decode cL_ward 21 = .ok (.iconst 0, 1) := by decide +kernel
theorem dL_ward_22 : decode cL_ward 22 = .ok (.ireturn, 1) := by decide +kernel
theorem dL_act_0 : decode cL_act 0 = .ok (.aload_n 3, 1) := by decide +kernel
theorem dL_act_1 : decode cL_act 1 = .ok (.iconst 0, 1) := by decide +kernel
theorem dL_act_2 : decode cL_act 2 = .ok (.aload_n 0, 1) := by decide +kernel
theorem dL_act_3 : decode cL_act 3 = .ok (.iload_n 1, 1) := by decide +kernel
theorem dL_act_4 : decode cL_act 4 = .ok (.iload_n 2, 1) := by decide +kernel
theorem dL_act_5 : decode cL_act 5 = .ok (.invokevirtual 21, 3) := by decide +kernel
theorem dL_act_8 : decode cL_act 8 = .ok (.i2l, 1) := by decide +kernel
theorem dL_act_9 : decode cL_act 9 = .ok (.lastore, 1) := by decide +kernel
theorem dL_act_10 : decode cL_act 10 = .ok (.goto 11, 3) := by decide +kernel
theorem dL_act_13 : decode cL_act 13 = .ok (.astore 4, 2) := by decide +kernel
theorem dL_act_15 : decode cL_act 15 = .ok (.iconst 1, 1) := by decide +kernel
theorem dL_act_16 : decode cL_act 16 = .ok (.ireturn, 1) := by decide +kernel
theorem dL_act_17 : decode cL_act 17 = .ok (.astore 4, 2) := by decide +kernel
theorem dL_act_19 : decode cL_act 19 = .ok (.iconst 2, 1) := by decide +kernel
theorem dL_act_20 : decode cL_act 20 = .ok (.ireturn, 1) := by decide +kernel
theorem dL_act_21 : decode cL_act 21 = .ok (.iconst 0, 1) := by decide +kernel
theorem dL_act_22 : decode cL_act 22 = .ok (.ireturn, 1) := by decide +kernel
theorem dL_degree_0 : decode cL_degree 0 = .ok (.aload_n 3, 1) := by decide +kernel
theorem dL_degree_1 : decode cL_degree 1 = .ok (.iconst 0, 1) := by decide +kernel
theorem dL_degree_2 : decode cL_degree 2 = .ok (.aload_n 0, 1) := by decide +kernel
theorem dL_degree_3 : decode cL_degree 3 = .ok (.iload_n 1, 1) := by decide +kernel
theorem dL_degree_4 : decode cL_degree 4 = .ok (.iload_n 2, 1) := by decide +kernel
theorem dL_degree_5 : decode cL_degree 5 = .ok (.invokevirtual 24, 3) := by decide +kernel
theorem dL_degree_8 : decode cL_degree 8 = .ok (.i2l, 1) := by decide +kernel
theorem dL_degree_9 : decode cL_degree 9 = .ok (.lastore, 1) := by decide +kernel
theorem dL_degree_10 : decode cL_degree 10 = .ok (.goto 11, 3) := by decide +kernel
theorem dL_degree_13 : decode cL_degree 13 = .ok (.astore 4, 2) := by decide +kernel
theorem dL_degree_15 : decode cL_degree 15 = .ok (.iconst 1, 1) := by decide +kernel
theorem dL_degree_16 : decode cL_degree 16 = .ok (.ireturn, 1) := by decide +kernel
theorem dL_degree_17 : decode cL_degree 17 = .ok (.astore 4, 2) := by decide +kernel
theorem dL_degree_19 : decode cL_degree 19 = .ok (.iconst 2, 1) := by decide +kernel
theorem dL_degree_20 : decode cL_degree 20 = .ok (.ireturn, 1) := by decide +kernel
theorem dL_degree_21 : decode cL_degree 21 = .ok (.iconst 0, 1) := by decide +kernel
theorem dL_degree_22 : decode cL_degree 22 = .ok (.ireturn, 1) := by decide +kernel
theorem dL_code_0 : decode cL_code 0 = .ok (.aload_n 3, 1) := by decide +kernel
theorem dL_code_1 : decode cL_code 1 = .ok (.iconst 0, 1) := by decide +kernel
theorem dL_code_2 : decode cL_code 2 = .ok (.aload_n 0, 1) := by decide +kernel
theorem dL_code_3 : decode cL_code 3 = .ok (.iload_n 1, 1) := by decide +kernel
theorem dL_code_4 : decode cL_code 4 = .ok (.iload_n 2, 1) := by decide +kernel
theorem dL_code_5 : decode cL_code 5 = .ok (.invokevirtual 27, 3) := by decide +kernel
theorem dL_code_8 : decode cL_code 8 = .ok (.i2l, 1) := by decide +kernel
theorem dL_code_9 : decode cL_code 9 = .ok (.lastore, 1) := by decide +kernel
theorem dL_code_10 : decode cL_code 10 = .ok (.goto 11, 3) := by decide +kernel
theorem dL_code_13 : decode cL_code 13 = .ok (.astore 4, 2) := by decide +kernel
theorem dL_code_15 : decode cL_code 15 = .ok (.iconst 1, 1) := by decide +kernel
theorem dL_code_16 : decode cL_code 16 = .ok (.ireturn, 1) := by decide +kernel
theorem dL_code_17 : decode cL_code 17 = .ok (.astore 4, 2) := by decide +kernel
theorem dL_code_19 : decode cL_code 19 = .ok (.iconst 2, 1) := by decide +kernel
theorem dL_code_20 : decode cL_code 20 = .ok (.ireturn, 1) := by decide +kernel
theorem dL_code_21 : decode cL_code 21 = .ok (.iconst 0, 1) := by decide +kernel
theorem dL_code_22 : decode cL_code 22 = .ok (.ireturn, 1) := by decide +kernel
theorem dL_fine_0 : decode cL_fine 0 = .ok (.aload 5, 2) := by decide +kernel
theorem dL_fine_2 : decode cL_fine 2 = .ok (.iconst 0, 1) := by decide +kernel
theorem dL_fine_3 : decode cL_fine 3 = .ok (.aload_n 0, 1) := by decide +kernel
theorem dL_fine_4 : decode cL_fine 4 = .ok (.iload_n 1, 1) := by decide +kernel
theorem dL_fine_5 : decode cL_fine 5 = .ok (.iload_n 2, 1) := by decide +kernel
theorem dL_fine_6 : decode cL_fine 6 = .ok (.iload_n 3, 1) := by decide +kernel
theorem dL_fine_7 : decode cL_fine 7 = .ok (.iload 4, 2) := by decide +kernel
theorem dL_fine_9 : decode cL_fine 9 = .ok (.invokevirtual 30, 3) := by decide +kernel
theorem dL_fine_12 : decode cL_fine 12 = .ok (.i2l, 1) := by decide +kernel
theorem dL_fine_13 : decode cL_fine 13 = .ok (.lastore, 1) := by decide +kernel
theorem dL_fine_14 : decode cL_fine 14 = .ok (.goto 11, 3) := by decide +kernel
theorem dL_fine_17 : decode cL_fine 17 = .ok (.astore 6, 2) := by decide +kernel
theorem dL_fine_19 : decode cL_fine 19 = .ok (.iconst 1, 1) := by decide +kernel
theorem dL_fine_20 : decode cL_fine 20 = .ok (.ireturn, 1) := by decide +kernel
theorem dL_fine_21 : decode cL_fine 21 = .ok (.astore 6, 2) := by decide +kernel
theorem dL_fine_23 : decode cL_fine 23 = .ok (.iconst 2, 1) := by decide +kernel
theorem dL_fine_24 : decode cL_fine 24 = .ok (.ireturn, 1) := by decide +kernel
theorem dL_fine_25 : decode cL_fine 25 = .ok (.iconst 0, 1) := by decide +kernel
theorem dL_fine_26 : decode cL_fine 26 = .ok (.ireturn, 1) := by decide +kernel
theorem dL_lawful_0 : decode cL_lawful 0 = .ok (.aload 5, 2) := by decide +kernel
theorem dL_lawful_2 : decode cL_lawful 2 = .ok (.iconst 0, 1) := by decide +kernel
theorem dL_lawful_3 : decode cL_lawful 3 = .ok (.aload_n 0, 1) := by decide +kernel
theorem dL_lawful_4 : decode cL_lawful 4 = .ok (.iload_n 1, 1) := by decide +kernel
theorem dL_lawful_5 : decode cL_lawful 5 = .ok (.iload_n 2, 1) := by decide +kernel
theorem dL_lawful_6 : decode cL_lawful 6 = .ok (.iload_n 3, 1) := by decide +kernel
theorem dL_lawful_7 : decode cL_lawful 7 = .ok (.iload 4, 2) := by decide +kernel
theorem dL_lawful_9 : decode cL_lawful 9 = .ok (.invokevirtual 34, 3) := by decide +kernel
theorem dL_lawful_12 : decode cL_lawful 12 = .ok (.ifCond .eq 7, 3) := by decide +kernel
theorem dL_lawful_15 : decode cL_lawful 15 = .ok (.lconst 1, 1) := by decide +kernel
theorem dL_lawful_16 : decode cL_lawful 16 = .ok (.goto 4, 3) := by decide +kernel
theorem dL_lawful_19 : decode cL_lawful 19 = .ok (.lconst 0, 1) := by decide +kernel
theorem dL_lawful_20 : decode cL_lawful 20 = .ok (.lastore, 1) := by decide +kernel
theorem dL_lawful_21 : decode cL_lawful 21 = .ok (.goto 11, 3) := by decide +kernel
theorem dL_lawful_24 : decode cL_lawful 24 = .ok (.astore 6, 2) := by decide +kernel
theorem dL_lawful_26 : decode cL_lawful 26 = .ok (.iconst 1, 1) := by decide +kernel
theorem dL_lawful_27 : decode cL_lawful 27 = .ok (.ireturn, 1) := by decide +kernel
theorem dL_lawful_28 : decode cL_lawful 28 = .ok (.astore 6, 2) := by decide +kernel
theorem dL_lawful_30 : decode cL_lawful 30 = .ok (.iconst 2, 1) := by decide +kernel
theorem dL_lawful_31 : decode cL_lawful 31 = .ok (.ireturn, 1) := by decide +kernel
theorem dL_lawful_32 : decode cL_lawful 32 = .ok (.iconst 0, 1) := by decide +kernel
theorem dL_lawful_33 : decode cL_lawful 33 = .ok (.ireturn, 1) := by decide +kernel
theorem dL_fire_0 : decode cL_fire 0 = .ok (.aload 4, 2) := by decide +kernel
theorem dL_fire_2 : decode cL_fire 2 = .ok (.iconst 0, 1) := by decide +kernel
theorem dL_fire_3 : decode cL_fire 3 = .ok (.aload_n 0, 1) := by decide +kernel
theorem dL_fire_4 : decode cL_fire 4 = .ok (.iload_n 1, 1) := by decide +kernel
theorem dL_fire_5 : decode cL_fire 5 = .ok (.iload_n 2, 1) := by decide +kernel
theorem dL_fire_6 : decode cL_fire 6 = .ok (.iload_n 3, 1) := by decide +kernel
theorem dL_fire_7 : decode cL_fire 7 = .ok (.invokevirtual 38, 3) := by decide +kernel
theorem dL_fire_10 : decode cL_fire 10 = .ok (.i2l, 1) := by decide +kernel
theorem dL_fire_11 : decode cL_fire 11 = .ok (.lastore, 1) := by decide +kernel
theorem dL_fire_12 : decode cL_fire 12 = .ok (.goto 11, 3) := by decide +kernel
theorem dL_fire_15 : decode cL_fire 15 = .ok (.astore 5, 2) := by decide +kernel
theorem dL_fire_17 : decode cL_fire 17 = .ok (.iconst 1, 1) := by decide +kernel
theorem dL_fire_18 : decode cL_fire 18 = .ok (.ireturn, 1) := by decide +kernel
theorem dL_fire_19 : decode cL_fire 19 = .ok (.astore 5, 2) := by decide +kernel
theorem dL_fire_21 : decode cL_fire 21 = .ok (.iconst 2, 1) := by decide +kernel
theorem dL_fire_22 : decode cL_fire 22 = .ok (.ireturn, 1) := by decide +kernel
theorem dL_fire_23 : decode cL_fire 23 = .ok (.iconst 0, 1) := by decide +kernel
theorem dL_fire_24 : decode cL_fire 24 = .ok (.ireturn, 1) := by decide +kernel
theorem dL_ice_0 : decode cL_ice 0 = .ok (.aload 4, 2) := by decide +kernel
theorem dL_ice_2 : decode cL_ice 2 = .ok (.iconst 0, 1) := by decide +kernel
theorem dL_ice_3 : decode cL_ice 3 = .ok (.aload_n 0, 1) := by decide +kernel
theorem dL_ice_4 : decode cL_ice 4 = .ok (.iload_n 1, 1) := by decide +kernel
theorem dL_ice_5 : decode cL_ice 5 = .ok (.iload_n 2, 1) := by decide +kernel
theorem dL_ice_6 : decode cL_ice 6 = .ok (.iload_n 3, 1) := by decide +kernel
theorem dL_ice_7 : decode cL_ice 7 = .ok (.invokevirtual 42, 3) := by decide +kernel
theorem dL_ice_10 : decode cL_ice 10 = .ok (.i2l, 1) := by decide +kernel
theorem dL_ice_11 : decode cL_ice 11 = .ok (.lastore, 1) := by decide +kernel
theorem dL_ice_12 : decode cL_ice 12 = .ok (.goto 11, 3) := by decide +kernel
theorem dL_ice_15 : decode cL_ice 15 = .ok (.astore 5, 2) := by decide +kernel
theorem dL_ice_17 : decode cL_ice 17 = .ok (.iconst 1, 1) := by decide +kernel
theorem dL_ice_18 : decode cL_ice 18 = .ok (.ireturn, 1) := by decide +kernel
theorem dL_ice_19 : decode cL_ice 19 = .ok (.astore 5, 2) := by decide +kernel
theorem dL_ice_21 : decode cL_ice 21 = .ok (.iconst 2, 1) := by decide +kernel
theorem dL_ice_22 : decode cL_ice 22 = .ok (.ireturn, 1) := by decide +kernel
theorem dL_ice_23 : decode cL_ice 23 = .ok (.iconst 0, 1) := by decide +kernel
theorem dL_ice_24 : decode cL_ice 24 = .ok (.ireturn, 1) := by decide +kernel
theorem dL_amend_0 : decode cL_amend 0 = .ok (.aload 4, 2) := by decide +kernel
theorem dL_amend_2 : decode cL_amend 2 = .ok (.iconst 0, 1) := by decide +kernel
theorem dL_amend_3 : decode cL_amend 3 = .ok (.aload_n 0, 1) := by decide +kernel
theorem dL_amend_4 : decode cL_amend 4 = .ok (.iload_n 1, 1) := by decide +kernel
theorem dL_amend_5 : decode cL_amend 5 = .ok (.iload_n 2, 1) := by decide +kernel
theorem dL_amend_6 : decode cL_amend 6 = .ok (.iload_n 3, 1) := by decide +kernel
theorem dL_amend_7 : decode cL_amend 7 = .ok (.invokevirtual 45, 3) := by decide +kernel
theorem dL_amend_10 : decode cL_amend 10 = .ok (.i2l, 1) := by decide +kernel
theorem dL_amend_11 : decode cL_amend 11 = .ok (.lastore, 1) := by decide +kernel
theorem dL_amend_12 : decode cL_amend 12 = .ok (.goto 11, 3) := by decide +kernel
theorem dL_amend_15 : decode cL_amend 15 = .ok (.astore 5, 2) := by decide +kernel
theorem dL_amend_17 : decode cL_amend 17 = .ok (.iconst 1, 1) := by decide +kernel
theorem dL_amend_18 : decode cL_amend 18 = .ok (.ireturn, 1) := by decide +kernel
theorem dL_amend_19 : decode cL_amend 19 = .ok (.astore 5, 2) := by decide +kernel
theorem dL_amend_21 : decode cL_amend 21 = .ok (.iconst 2, 1) := by decide +kernel
theorem dL_amend_22 : decode cL_amend 22 = .ok (.ireturn, 1) := by decide +kernel
theorem dL_amend_23 : decode cL_amend 23 = .ok (.iconst 0, 1) := by decide +kernel
theorem dL_amend_24 : decode cL_amend 24 = .ok (.ireturn, 1) := by decide +kernel
theorem dL_repeal_0 : decode cL_repeal 0 = .ok (.aload_n 2, 1) := by decide +kernel
theorem dL_repeal_1 : decode cL_repeal 1 = .ok (.iconst 0, 1) := by decide +kernel
theorem dL_repeal_2 : decode cL_repeal 2 = .ok (.aload_n 0, 1) := by decide +kernel
theorem dL_repeal_3 : decode cL_repeal 3 = .ok (.iload_n 1, 1) := by decide +kernel
theorem dL_repeal_4 : decode cL_repeal 4 = .ok (.invokevirtual 48, 3) := by decide +kernel
theorem dL_repeal_7 : decode cL_repeal 7 = .ok (.i2l, 1) := by decide +kernel
theorem dL_repeal_8 : decode cL_repeal 8 = .ok (.lastore, 1) := by decide +kernel
theorem dL_repeal_9 : decode cL_repeal 9 = .ok (.goto 9, 3) := by decide +kernel
theorem dL_repeal_12 : decode cL_repeal 12 = .ok (.astore_n 3, 1) := by decide +kernel
theorem dL_repeal_13 : decode cL_repeal 13 = .ok (.iconst 1, 1) := by decide +kernel
theorem dL_repeal_14 : decode cL_repeal 14 = .ok (.ireturn, 1) := by decide +kernel
theorem dL_repeal_15 : decode cL_repeal 15 = .ok (.astore_n 3, 1) := by decide +kernel
theorem dL_repeal_16 : decode cL_repeal 16 = .ok (.iconst 2, 1) := by decide +kernel
theorem dL_repeal_17 : decode cL_repeal 17 = .ok (.ireturn, 1) := by decide +kernel
theorem dL_repeal_18 : decode cL_repeal 18 = .ok (.iconst 0, 1) := by decide +kernel
theorem dL_repeal_19 : decode cL_repeal 19 = .ok (.ireturn, 1) := by decide +kernel
theorem dL_hours_0 : decode cL_hours 0 = .ok (.aload_n 2, 1) := by decide +kernel
theorem dL_hours_1 : decode cL_hours 1 = .ok (.iconst 0, 1) := by decide +kernel
theorem dL_hours_2 : decode cL_hours 2 = .ok (.aload_n 0, 1) := by decide +kernel
theorem dL_hours_3 : decode cL_hours 3 = .ok (.iload_n 1, 1) := by decide +kernel
theorem dL_hours_4 : decode cL_hours 4 = .ok (.invokevirtual 53, 3) := by decide +kernel
theorem dL_hours_7 : decode cL_hours 7 = .ok (.i2l, 1) := by decide +kernel
theorem dL_hours_8 : decode cL_hours 8 = .ok (.lastore, 1) := by decide +kernel
theorem dL_hours_9 : decode cL_hours 9 = .ok (.goto 6, 3) := by decide +kernel
theorem dL_hours_12 : decode cL_hours 12 = .ok (.astore_n 3, 1) := by decide +kernel
theorem dL_hours_13 : decode cL_hours 13 = .ok (.iconst 1, 1) := by decide +kernel
theorem dL_hours_14 : decode cL_hours 14 = .ok (.ireturn, 1) := by decide +kernel
theorem dL_hours_15 : decode cL_hours 15 = .ok (.iconst 0, 1) := by decide +kernel
theorem dL_hours_16 : decode cL_hours 16 = .ok (.ireturn, 1) := by decide +kernel
theorem dL_done_0 : decode cL_done 0 = .ok (.aload 4, 2) := by decide +kernel
theorem dL_done_2 : decode cL_done 2 = .ok (.iconst 0, 1) := by decide +kernel
theorem dL_done_3 : decode cL_done 3 = .ok (.aload_n 0, 1) := by decide +kernel
theorem dL_done_4 : decode cL_done 4 = .ok (.iload_n 1, 1) := by decide +kernel
theorem dL_done_5 : decode cL_done 5 = .ok (.iload_n 2, 1) := by decide +kernel
theorem dL_done_6 : decode cL_done 6 = .ok (.iload_n 3, 1) := by decide +kernel
theorem dL_done_7 : decode cL_done 7 = .ok (.invokevirtual 56, 3) := by decide +kernel
theorem dL_done_10 : decode cL_done 10 = .ok (.i2l, 1) := by decide +kernel
theorem dL_done_11 : decode cL_done 11 = .ok (.lastore, 1) := by decide +kernel
theorem dL_done_12 : decode cL_done 12 = .ok (.goto 11, 3) := by decide +kernel
theorem dL_done_15 : decode cL_done 15 = .ok (.astore 5, 2) := by decide +kernel
theorem dL_done_17 : decode cL_done 17 = .ok (.iconst 1, 1) := by decide +kernel
theorem dL_done_18 : decode cL_done 18 = .ok (.ireturn, 1) := by decide +kernel
theorem dL_done_19 : decode cL_done 19 = .ok (.astore 5, 2) := by decide +kernel
theorem dL_done_21 : decode cL_done 21 = .ok (.iconst 2, 1) := by decide +kernel
theorem dL_done_22 : decode cL_done 22 = .ok (.ireturn, 1) := by decide +kernel
theorem dL_done_23 : decode cL_done 23 = .ok (.iconst 0, 1) := by decide +kernel
theorem dL_done_24 : decode cL_done 24 = .ok (.ireturn, 1) := by decide +kernel
theorem dL_undo_0 : decode cL_undo 0 = .ok (.aload_n 2, 1) := by decide +kernel
theorem dL_undo_1 : decode cL_undo 1 = .ok (.iconst 0, 1) := by decide +kernel
theorem dL_undo_2 : decode cL_undo 2 = .ok (.aload_n 0, 1) := by decide +kernel
theorem dL_undo_3 : decode cL_undo 3 = .ok (.iload_n 1, 1) := by decide +kernel
theorem dL_undo_4 : decode cL_undo 4 = .ok (.invokevirtual 59, 3) := by decide +kernel
theorem dL_undo_7 : decode cL_undo 7 = .ok (.i2l, 1) := by decide +kernel
theorem dL_undo_8 : decode cL_undo 8 = .ok (.lastore, 1) := by decide +kernel
theorem dL_undo_9 : decode cL_undo 9 = .ok (.goto 6, 3) := by decide +kernel
theorem dL_undo_12 : decode cL_undo 12 = .ok (.astore_n 3, 1) := by decide +kernel
theorem dL_undo_13 : decode cL_undo 13 = .ok (.iconst 1, 1) := by decide +kernel
theorem dL_undo_14 : decode cL_undo 14 = .ok (.ireturn, 1) := by decide +kernel
theorem dL_undo_15 : decode cL_undo 15 = .ok (.iconst 0, 1) := by decide +kernel
theorem dL_undo_16 : decode cL_undo 16 = .ok (.ireturn, 1) := by decide +kernel
theorem dL_judge_0 : decode cL_judge 0 = .ok (.aload_n 3, 1) := by decide +kernel
theorem dL_judge_1 : decode cL_judge 1 = .ok (.iconst 0, 1) := by decide +kernel
theorem dL_judge_2 : decode cL_judge 2 = .ok (.aload_n 0, 1) := by decide +kernel
theorem dL_judge_3 : decode cL_judge 3 = .ok (.iload_n 1, 1) := by decide +kernel
theorem dL_judge_4 : decode cL_judge 4 = .ok (.iload_n 2, 1) := by decide +kernel
theorem dL_judge_5 : decode cL_judge 5 = .ok (.invokevirtual 62, 3) := by decide +kernel
theorem dL_judge_8 : decode cL_judge 8 = .ok (.i2l, 1) := by decide +kernel
theorem dL_judge_9 : decode cL_judge 9 = .ok (.lastore, 1) := by decide +kernel
theorem dL_judge_10 : decode cL_judge 10 = .ok (.goto 15, 3) := by decide +kernel
theorem dL_judge_13 : decode cL_judge 13 = .ok (.astore 4, 2) := by decide +kernel
theorem dL_judge_15 : decode cL_judge 15 = .ok (.iconst 1, 1) := by decide +kernel
theorem dL_judge_16 : decode cL_judge 16 = .ok (.ireturn, 1) := by decide +kernel
theorem dL_judge_17 : decode cL_judge 17 = .ok (.astore 4, 2) := by decide +kernel
theorem dL_judge_19 : decode cL_judge 19 = .ok (.iconst 2, 1) := by decide +kernel
theorem dL_judge_20 : decode cL_judge 20 = .ok (.ireturn, 1) := by decide +kernel
theorem dL_judge_21 : decode cL_judge 21 = .ok (.astore 4, 2) := by decide +kernel
theorem dL_judge_23 : decode cL_judge 23 = .ok (.iconst 3, 1) := by decide +kernel
theorem dL_judge_24 : decode cL_judge 24 = .ok (.ireturn, 1) := by decide +kernel
theorem dL_judge_25 : decode cL_judge 25 = .ok (.iconst 0, 1) := by decide +kernel
theorem dL_judge_26 : decode cL_judge 26 = .ok (.ireturn, 1) := by decide +kernel
theorem dL_perform_0 : decode cL_perform 0 = .ok (.aload_n 2, 1) := by decide +kernel
theorem dL_perform_1 : decode cL_perform 1 = .ok (.iconst 0, 1) := by decide +kernel
theorem dL_perform_2 : decode cL_perform 2 = .ok (.aload_n 0, 1) := by decide +kernel
theorem dL_perform_3 : decode cL_perform 3 = .ok (.iload_n 1, 1) := by decide +kernel
theorem dL_perform_4 : decode cL_perform 4 = .ok (.invokevirtual 65, 3) := by decide +kernel
theorem dL_perform_7 : decode cL_perform 7 = .ok (.i2l, 1) := by decide +kernel
theorem dL_perform_8 : decode cL_perform 8 = .ok (.lastore, 1) := by decide +kernel
theorem dL_perform_9 : decode cL_perform 9 = .ok (.goto 9, 3) := by decide +kernel
theorem dL_perform_12 : decode cL_perform 12 = .ok (.astore_n 3, 1) := by decide +kernel
theorem dL_perform_13 : decode cL_perform 13 = .ok (.iconst 1, 1) := by decide +kernel
theorem dL_perform_14 : decode cL_perform 14 = .ok (.ireturn, 1) := by decide +kernel
theorem dL_perform_15 : decode cL_perform 15 = .ok (.astore_n 3, 1) := by decide +kernel
theorem dL_perform_16 : decode cL_perform 16 = .ok (.iconst 2, 1) := by decide +kernel
theorem dL_perform_17 : decode cL_perform 17 = .ok (.ireturn, 1) := by decide +kernel
theorem dL_perform_18 : decode cL_perform 18 = .ok (.iconst 0, 1) := by decide +kernel
theorem dL_perform_19 : decode cL_perform 19 = .ok (.ireturn, 1) := by decide +kernel
theorem dL_season_0 : decode cL_season 0 = .ok (.aload_n 3, 1) := by decide +kernel
theorem dL_season_1 : decode cL_season 1 = .ok (.iconst 0, 1) := by decide +kernel
theorem dL_season_2 : decode cL_season 2 = .ok (.aload_n 0, 1) := by decide +kernel
theorem dL_season_3 : decode cL_season 3 = .ok (.iload_n 1, 1) := by decide +kernel
theorem dL_season_4 : decode cL_season 4 = .ok (.iload_n 2, 1) := by decide +kernel
theorem dL_season_5 : decode cL_season 5 = .ok (.invokevirtual 68, 3) := by decide +kernel
theorem dL_season_8 : decode cL_season 8 = .ok (.i2l, 1) := by decide +kernel
theorem dL_season_9 : decode cL_season 9 = .ok (.lastore, 1) := by decide +kernel
theorem dL_season_10 : decode cL_season 10 = .ok (.goto 7, 3) := by decide +kernel
theorem dL_season_13 : decode cL_season 13 = .ok (.astore 4, 2) := by decide +kernel
theorem dL_season_15 : decode cL_season 15 = .ok (.iconst 1, 1) := by decide +kernel
theorem dL_season_16 : decode cL_season 16 = .ok (.ireturn, 1) := by decide +kernel
theorem dL_season_17 : decode cL_season 17 = .ok (.iconst 0, 1) := by decide +kernel
theorem dL_season_18 : decode cL_season 18 = .ok (.ireturn, 1) := by decide +kernel
theorem dL_soonest_0 : decode cL_soonest 0 = .ok (.aload 4, 2) := by decide +kernel
theorem dL_soonest_2 : decode cL_soonest 2 = .ok (.iconst 0, 1) := by decide +kernel
theorem dL_soonest_3 : decode cL_soonest 3 = .ok (.aload_n 0, 1) := by decide +kernel
theorem dL_soonest_4 : decode cL_soonest 4 = .ok (.iload_n 1, 1) := by decide +kernel
theorem dL_soonest_5 : decode cL_soonest 5 = .ok (.iload_n 2, 1) := by decide +kernel
theorem dL_soonest_6 : decode cL_soonest 6 = .ok (.iload_n 3, 1) := by decide +kernel
theorem dL_soonest_7 : decode cL_soonest 7 = .ok (.invokevirtual 71, 3) := by decide +kernel
theorem dL_soonest_10 : decode cL_soonest 10 = .ok (.i2l, 1) := by decide +kernel
theorem dL_soonest_11 : decode cL_soonest 11 = .ok (.lastore, 1) := by decide +kernel
theorem dL_soonest_12 : decode cL_soonest 12 = .ok (.goto 11, 3) := by decide +kernel
theorem dL_soonest_15 : decode cL_soonest 15 = .ok (.astore 5, 2) := by decide +kernel
theorem dL_soonest_17 : decode cL_soonest 17 = .ok (.iconst 1, 1) := by decide +kernel
theorem dL_soonest_18 : decode cL_soonest 18 = .ok (.ireturn, 1) := by decide +kernel
theorem dL_soonest_19 : decode cL_soonest 19 = .ok (.astore 5, 2) := by decide +kernel
theorem dL_soonest_21 : decode cL_soonest 21 = .ok (.iconst 2, 1) := by decide +kernel
theorem dL_soonest_22 : decode cL_soonest 22 = .ok (.ireturn, 1) := by decide +kernel
theorem dL_soonest_23 : decode cL_soonest 23 = .ok (.iconst 0, 1) := by decide +kernel
theorem dL_soonest_24 : decode cL_soonest 24 = .ok (.ireturn, 1) := by decide +kernel
theorem dL_where_0 : decode cL_where 0 = .ok (.aload_n 3, 1) := by decide +kernel
theorem dL_where_1 : decode cL_where 1 = .ok (.iconst 0, 1) := by decide +kernel
theorem dL_where_2 : decode cL_where 2 = .ok (.aload_n 0, 1) := by decide +kernel
theorem dL_where_3 : decode cL_where 3 = .ok (.iload_n 1, 1) := by decide +kernel
theorem dL_where_4 : decode cL_where 4 = .ok (.iload_n 2, 1) := by decide +kernel
theorem dL_where_5 : decode cL_where 5 = .ok (.invokevirtual 74, 3) := by decide +kernel
theorem dL_where_8 : decode cL_where 8 = .ok (.i2l, 1) := by decide +kernel
theorem dL_where_9 : decode cL_where 9 = .ok (.lastore, 1) := by decide +kernel
theorem dL_where_10 : decode cL_where 10 = .ok (.goto 7, 3) := by decide +kernel
theorem dL_where_13 : decode cL_where 13 = .ok (.astore 4, 2) := by decide +kernel
theorem dL_where_15 : decode cL_where 15 = .ok (.iconst 1, 1) := by decide +kernel
theorem dL_where_16 : decode cL_where 16 = .ok (.ireturn, 1) := by decide +kernel
theorem dL_where_17 : decode cL_where 17 = .ok (.iconst 0, 1) := by decide +kernel
theorem dL_where_18 : decode cL_where 18 = .ok (.ireturn, 1) := by decide +kernel
theorem dL_cheapest_0 : decode cL_cheapest 0 = .ok (.aload 4, 2) := by decide +kernel
theorem dL_cheapest_2 : decode cL_cheapest 2 = .ok (.iconst 0, 1) := by decide +kernel
theorem dL_cheapest_3 : decode cL_cheapest 3 = .ok (.aload_n 0, 1) := by decide +kernel
theorem dL_cheapest_4 : decode cL_cheapest 4 = .ok (.iload_n 1, 1) := by decide +kernel
theorem dL_cheapest_5 : decode cL_cheapest 5 = .ok (.iload_n 2, 1) := by decide +kernel
theorem dL_cheapest_6 : decode cL_cheapest 6 = .ok (.iload_n 3, 1) := by decide +kernel
theorem dL_cheapest_7 : decode cL_cheapest 7 = .ok (.invokevirtual 77, 3) := by decide +kernel
theorem dL_cheapest_10 : decode cL_cheapest 10 = .ok (.i2l, 1) := by decide +kernel
theorem dL_cheapest_11 : decode cL_cheapest 11 = .ok (.lastore, 1) := by decide +kernel
theorem dL_cheapest_12 : decode cL_cheapest 12 = .ok (.goto 11, 3) := by decide +kernel
theorem dL_cheapest_15 : decode cL_cheapest 15 = .ok (.astore 5, 2) := by decide +kernel
theorem dL_cheapest_17 : decode cL_cheapest 17 = .ok (.iconst 1, 1) := by decide +kernel
theorem dL_cheapest_18 : decode cL_cheapest 18 = .ok (.ireturn, 1) := by decide +kernel
theorem dL_cheapest_19 : decode cL_cheapest 19 = .ok (.astore 5, 2) := by decide +kernel
theorem dL_cheapest_21 : decode cL_cheapest 21 = .ok (.iconst 2, 1) := by decide +kernel
theorem dL_cheapest_22 : decode cL_cheapest 22 = .ok (.ireturn, 1) := by decide +kernel
theorem dL_cheapest_23 : decode cL_cheapest 23 = .ok (.iconst 0, 1) := by decide +kernel
theorem dL_cheapest_24 : decode cL_cheapest 24 = .ok (.ireturn, 1) := by decide +kernel
theorem dL_freeHours_0 : decode cL_freeHours 0 = .ok (.aload 4, 2) := by decide +kernel
theorem dL_freeHours_2 : decode cL_freeHours 2 = .ok (.iconst 0, 1) := by decide +kernel
theorem dL_freeHours_3 : decode cL_freeHours 3 = .ok (.aload_n 0, 1) := by decide +kernel
theorem dL_freeHours_4 : decode cL_freeHours 4 = .ok (.iload_n 1, 1) := by decide +kernel
theorem dL_freeHours_5 : decode cL_freeHours 5 = .ok (.iload_n 2, 1) := by decide +kernel
theorem dL_freeHours_6 : decode cL_freeHours 6 = .ok (.iload_n 3, 1) := by decide +kernel
theorem dL_freeHours_7 : decode cL_freeHours 7 = .ok (.invokevirtual 80, 3) := by decide +kernel
theorem dL_freeHours_10 : decode cL_freeHours 10 = .ok (.i2l, 1) := by decide +kernel
theorem dL_freeHours_11 : decode cL_freeHours 11 = .ok (.lastore, 1) := by decide +kernel
theorem dL_freeHours_12 : decode cL_freeHours 12 = .ok (.goto 11, 3) := by decide +kernel
theorem dL_freeHours_15 : decode cL_freeHours 15 = .ok (.astore 5, 2) := by decide +kernel
theorem dL_freeHours_17 : decode cL_freeHours 17 = .ok (.iconst 1, 1) := by decide +kernel
theorem dL_freeHours_18 : decode cL_freeHours 18 = .ok (.ireturn, 1) := by decide +kernel
theorem dL_freeHours_19 : decode cL_freeHours 19 = .ok (.astore 5, 2) := by decide +kernel
theorem dL_freeHours_21 : decode cL_freeHours 21 = .ok (.iconst 2, 1) := by decide +kernel
theorem dL_freeHours_22 : decode cL_freeHours 22 = .ok (.ireturn, 1) := by decide +kernel
theorem dL_freeHours_23 : decode cL_freeHours 23 = .ok (.iconst 0, 1) := by decide +kernel
theorem dL_freeHours_24 : decode cL_freeHours 24 = .ok (.ireturn, 1) := by decide +kernel
theorem dL_spell_0 : decode cL_spell 0 = .ok (.aload 5, 2) := by decide +kernel
theorem dL_spell_2 : decode cL_spell 2 = .ok (.iconst 0, 1) := by decide +kernel
theorem dL_spell_3 : decode cL_spell 3 = .ok (.aload_n 0, 1) := by decide +kernel
theorem dL_spell_4 : decode cL_spell 4 = .ok (.iload_n 1, 1) := by decide +kernel
theorem dL_spell_5 : decode cL_spell 5 = .ok (.iload_n 2, 1) := by decide +kernel
theorem dL_spell_6 : decode cL_spell 6 = .ok (.iload_n 3, 1) := by decide +kernel
theorem dL_spell_7 : decode cL_spell 7 = .ok (.iload 4, 2) := by decide +kernel
theorem dL_spell_9 : decode cL_spell 9 = .ok (.invokevirtual 83, 3) := by decide +kernel
theorem dL_spell_12 : decode cL_spell 12 = .ok (.i2l, 1) := by decide +kernel
theorem dL_spell_13 : decode cL_spell 13 = .ok (.lastore, 1) := by decide +kernel
theorem dL_spell_14 : decode cL_spell 14 = .ok (.goto 11, 3) := by decide +kernel
theorem dL_spell_17 : decode cL_spell 17 = .ok (.astore 6, 2) := by decide +kernel
theorem dL_spell_19 : decode cL_spell 19 = .ok (.iconst 1, 1) := by decide +kernel
theorem dL_spell_20 : decode cL_spell 20 = .ok (.ireturn, 1) := by decide +kernel
theorem dL_spell_21 : decode cL_spell 21 = .ok (.astore 6, 2) := by decide +kernel
theorem dL_spell_23 : decode cL_spell 23 = .ok (.iconst 2, 1) := by decide +kernel
theorem dL_spell_24 : decode cL_spell 24 = .ok (.ireturn, 1) := by decide +kernel
theorem dL_spell_25 : decode cL_spell 25 = .ok (.iconst 0, 1) := by decide +kernel
theorem dL_spell_26 : decode cL_spell 26 = .ok (.ireturn, 1) := by decide +kernel
theorem dL_lawless_0 : decode cL_lawless 0 = .ok (.aload_n 2, 1) := by decide +kernel
theorem dL_lawless_1 : decode cL_lawless 1 = .ok (.iconst 0, 1) := by decide +kernel
theorem dL_lawless_2 : decode cL_lawless 2 = .ok (.aload_n 0, 1) := by decide +kernel
theorem dL_lawless_3 : decode cL_lawless 3 = .ok (.iload_n 1, 1) := by decide +kernel
theorem dL_lawless_4 : decode cL_lawless 4 = .ok (.invokevirtual 86, 3) := by decide +kernel
theorem dL_lawless_7 : decode cL_lawless 7 = .ok (.i2l, 1) := by decide +kernel
theorem dL_lawless_8 : decode cL_lawless 8 = .ok (.lastore, 1) := by decide +kernel
theorem dL_lawless_9 : decode cL_lawless 9 = .ok (.goto 6, 3) := by decide +kernel
theorem dL_lawless_12 : decode cL_lawless 12 = .ok (.astore_n 3, 1) := by decide +kernel
theorem dL_lawless_13 : decode cL_lawless 13 = .ok (.iconst 1, 1) := by decide +kernel
theorem dL_lawless_14 : decode cL_lawless 14 = .ok (.ireturn, 1) := by decide +kernel
theorem dL_lawless_15 : decode cL_lawless 15 = .ok (.iconst 0, 1) := by decide +kernel
theorem dL_lawless_16 : decode cL_lawless 16 = .ok (.ireturn, 1) := by decide +kernel
theorem dL_heat_0 : decode cL_heat 0 = .ok (.aload 5, 2) := by decide +kernel
theorem dL_heat_2 : decode cL_heat 2 = .ok (.iconst 0, 1) := by decide +kernel
theorem dL_heat_3 : decode cL_heat 3 = .ok (.aload_n 0, 1) := by decide +kernel
theorem dL_heat_4 : decode cL_heat 4 = .ok (.iload_n 1, 1) := by decide +kernel
theorem dL_heat_5 : decode cL_heat 5 = .ok (.iload_n 2, 1) := by decide +kernel
theorem dL_heat_6 : decode cL_heat 6 = .ok (.iload_n 3, 1) := by decide +kernel
theorem dL_heat_7 : decode cL_heat 7 = .ok (.iload 4, 2) := by decide +kernel
theorem dL_heat_9 : decode cL_heat 9 = .ok (.invokevirtual 89, 3) := by decide +kernel
theorem dL_heat_12 : decode cL_heat 12 = .ok (.i2l, 1) := by decide +kernel
theorem dL_heat_13 : decode cL_heat 13 = .ok (.lastore, 1) := by decide +kernel
theorem dL_heat_14 : decode cL_heat 14 = .ok (.goto 11, 3) := by decide +kernel
theorem dL_heat_17 : decode cL_heat 17 = .ok (.astore 6, 2) := by decide +kernel
theorem dL_heat_19 : decode cL_heat 19 = .ok (.iconst 1, 1) := by decide +kernel
theorem dL_heat_20 : decode cL_heat 20 = .ok (.ireturn, 1) := by decide +kernel
theorem dL_heat_21 : decode cL_heat 21 = .ok (.astore 6, 2) := by decide +kernel
theorem dL_heat_23 : decode cL_heat 23 = .ok (.iconst 2, 1) := by decide +kernel
theorem dL_heat_24 : decode cL_heat 24 = .ok (.ireturn, 1) := by decide +kernel
theorem dL_heat_25 : decode cL_heat 25 = .ok (.iconst 0, 1) := by decide +kernel
theorem dL_heat_26 : decode cL_heat 26 = .ok (.ireturn, 1) := by decide +kernel
theorem dL_leastHeat_0 : decode cL_leastHeat 0 = .ok (.aload 4, 2) := by decide +kernel
theorem dL_leastHeat_2 : decode cL_leastHeat 2 = .ok (.iconst 0, 1) := by decide +kernel
theorem dL_leastHeat_3 : decode cL_leastHeat 3 = .ok (.aload_n 0, 1) := by decide +kernel
theorem dL_leastHeat_4 : decode cL_leastHeat 4 = .ok (.iload_n 1, 1) := by decide +kernel
theorem dL_leastHeat_5 : decode cL_leastHeat 5 = .ok (.iload_n 2, 1) := by decide +kernel
theorem dL_leastHeat_6 : decode cL_leastHeat 6 = .ok (.iload_n 3, 1) := by decide +kernel
theorem dL_leastHeat_7 : decode cL_leastHeat 7 = .ok (.invokevirtual 92, 3) := by decide +kernel
theorem dL_leastHeat_10 : decode cL_leastHeat 10 = .ok (.i2l, 1) := by decide +kernel
theorem dL_leastHeat_11 : decode cL_leastHeat 11 = .ok (.lastore, 1) := by decide +kernel
theorem dL_leastHeat_12 : decode cL_leastHeat 12 = .ok (.goto 11, 3) := by decide +kernel
theorem dL_leastHeat_15 : decode cL_leastHeat 15 = .ok (.astore 5, 2) := by decide +kernel
theorem dL_leastHeat_17 : decode cL_leastHeat 17 = .ok (.iconst 1, 1) := by decide +kernel
theorem dL_leastHeat_18 : decode cL_leastHeat 18 = .ok (.ireturn, 1) := by decide +kernel
theorem dL_leastHeat_19 : decode cL_leastHeat 19 = .ok (.astore 5, 2) := by decide +kernel
theorem dL_leastHeat_21 : decode cL_leastHeat 21 = .ok (.iconst 2, 1) := by decide +kernel
theorem dL_leastHeat_22 : decode cL_leastHeat 22 = .ok (.ireturn, 1) := by decide +kernel
theorem dL_leastHeat_23 : decode cL_leastHeat 23 = .ok (.iconst 0, 1) := by decide +kernel
theorem dL_leastHeat_24 : decode cL_leastHeat 24 = .ok (.ireturn, 1) := by decide +kernel
theorem dL_cover_0 : decode cL_cover 0 = .ok (.aload 4, 2) := by decide +kernel
theorem dL_cover_2 : decode cL_cover 2 = .ok (.iconst 0, 1) := by decide +kernel
theorem dL_cover_3 : decode cL_cover 3 = .ok (.aload_n 0, 1) := by decide +kernel
theorem dL_cover_4 : decode cL_cover 4 = .ok (.iload_n 1, 1) := by decide +kernel
theorem dL_cover_5 : decode cL_cover 5 = .ok (.iload_n 2, 1) := by decide +kernel
theorem dL_cover_6 : decode cL_cover 6 = .ok (.iload_n 3, 1) := by decide +kernel
theorem dL_cover_7 : decode cL_cover 7 = .ok (.invokevirtual 95, 3) := by decide +kernel
theorem dL_cover_10 : decode cL_cover 10 = .ok (.i2l, 1) := by decide +kernel
theorem dL_cover_11 : decode cL_cover 11 = .ok (.lastore, 1) := by decide +kernel
theorem dL_cover_12 : decode cL_cover 12 = .ok (.goto 11, 3) := by decide +kernel
theorem dL_cover_15 : decode cL_cover 15 = .ok (.astore 5, 2) := by decide +kernel
theorem dL_cover_17 : decode cL_cover 17 = .ok (.iconst 1, 1) := by decide +kernel
theorem dL_cover_18 : decode cL_cover 18 = .ok (.ireturn, 1) := by decide +kernel
theorem dL_cover_19 : decode cL_cover 19 = .ok (.astore 5, 2) := by decide +kernel
theorem dL_cover_21 : decode cL_cover 21 = .ok (.iconst 2, 1) := by decide +kernel
theorem dL_cover_22 : decode cL_cover 22 = .ok (.ireturn, 1) := by decide +kernel
theorem dL_cover_23 : decode cL_cover 23 = .ok (.iconst 0, 1) := by decide +kernel
theorem dL_cover_24 : decode cL_cover 24 = .ok (.ireturn, 1) := by decide +kernel
theorem dL_widen_0 : decode cL_widen 0 = .ok (.aload_n 3, 1) := by decide +kernel
theorem dL_widen_1 : decode cL_widen 1 = .ok (.iconst 0, 1) := by decide +kernel
theorem dL_widen_2 : decode cL_widen 2 = .ok (.aload_n 0, 1) := by decide +kernel
theorem dL_widen_3 : decode cL_widen 3 = .ok (.iload_n 1, 1) := by decide +kernel
theorem dL_widen_4 : decode cL_widen 4 = .ok (.iload_n 2, 1) := by decide +kernel
theorem dL_widen_5 : decode cL_widen 5 = .ok (.invokevirtual 98, 3) := by decide +kernel
theorem dL_widen_8 : decode cL_widen 8 = .ok (.i2l, 1) := by decide +kernel
theorem dL_widen_9 : decode cL_widen 9 = .ok (.lastore, 1) := by decide +kernel
theorem dL_widen_10 : decode cL_widen 10 = .ok (.goto 7, 3) := by decide +kernel
theorem dL_widen_13 : decode cL_widen 13 = .ok (.astore 4, 2) := by decide +kernel
theorem dL_widen_15 : decode cL_widen 15 = .ok (.iconst 1, 1) := by decide +kernel
theorem dL_widen_16 : decode cL_widen 16 = .ok (.ireturn, 1) := by decide +kernel
theorem dL_widen_17 : decode cL_widen 17 = .ok (.iconst 0, 1) := by decide +kernel
theorem dL_widen_18 : decode cL_widen 18 = .ok (.ireturn, 1) := by decide +kernel
theorem dL_heaviest_0 : decode cL_heaviest 0 = .ok (.aload_n 2, 1) := by decide +kernel
theorem dL_heaviest_1 : decode cL_heaviest 1 = .ok (.iconst 0, 1) := by decide +kernel
theorem dL_heaviest_2 : decode cL_heaviest 2 = .ok (.aload_n 0, 1) := by decide +kernel
theorem dL_heaviest_3 : decode cL_heaviest 3 = .ok (.iload_n 1, 1) := by decide +kernel
theorem dL_heaviest_4 : decode cL_heaviest 4 = .ok (.invokevirtual 101, 3) := by decide +kernel
theorem dL_heaviest_7 : decode cL_heaviest 7 = .ok (.i2l, 1) := by decide +kernel
theorem dL_heaviest_8 : decode cL_heaviest 8 = .ok (.lastore, 1) := by decide +kernel
theorem dL_heaviest_9 : decode cL_heaviest 9 = .ok (.goto 6, 3) := by decide +kernel
theorem dL_heaviest_12 : decode cL_heaviest 12 = .ok (.astore_n 3, 1) := by decide +kernel
theorem dL_heaviest_13 : decode cL_heaviest 13 = .ok (.iconst 1, 1) := by decide +kernel
theorem dL_heaviest_14 : decode cL_heaviest 14 = .ok (.ireturn, 1) := by decide +kernel
theorem dL_heaviest_15 : decode cL_heaviest 15 = .ok (.iconst 0, 1) := by decide +kernel
theorem dL_heaviest_16 : decode cL_heaviest 16 = .ok (.ireturn, 1) := by decide +kernel
theorem dL_freeWay_0 : decode cL_freeWay 0 = .ok (.aload 4, 2) := by decide +kernel
theorem dL_freeWay_2 : decode cL_freeWay 2 = .ok (.iconst 0, 1) := by decide +kernel
theorem dL_freeWay_3 : decode cL_freeWay 3 = .ok (.aload_n 0, 1) := by decide +kernel
theorem dL_freeWay_4 : decode cL_freeWay 4 = .ok (.iload_n 1, 1) := by decide +kernel
theorem dL_freeWay_5 : decode cL_freeWay 5 = .ok (.iload_n 2, 1) := by decide +kernel
theorem dL_freeWay_6 : decode cL_freeWay 6 = .ok (.iload_n 3, 1) := by decide +kernel
theorem dL_freeWay_7 : decode cL_freeWay 7 = .ok (.invokevirtual 104, 3) := by decide +kernel
theorem dL_freeWay_10 : decode cL_freeWay 10 = .ok (.i2l, 1) := by decide +kernel
theorem dL_freeWay_11 : decode cL_freeWay 11 = .ok (.lastore, 1) := by decide +kernel
theorem dL_freeWay_12 : decode cL_freeWay 12 = .ok (.goto 11, 3) := by decide +kernel
theorem dL_freeWay_15 : decode cL_freeWay 15 = .ok (.astore 5, 2) := by decide +kernel
theorem dL_freeWay_17 : decode cL_freeWay 17 = .ok (.iconst 1, 1) := by decide +kernel
theorem dL_freeWay_18 : decode cL_freeWay 18 = .ok (.ireturn, 1) := by decide +kernel
theorem dL_freeWay_19 : decode cL_freeWay 19 = .ok (.astore 5, 2) := by decide +kernel
theorem dL_freeWay_21 : decode cL_freeWay 21 = .ok (.iconst 2, 1) := by decide +kernel
theorem dL_freeWay_22 : decode cL_freeWay 22 = .ok (.ireturn, 1) := by decide +kernel
theorem dL_freeWay_23 : decode cL_freeWay 23 = .ok (.iconst 0, 1) := by decide +kernel
theorem dL_freeWay_24 : decode cL_freeWay 24 = .ok (.ireturn, 1) := by decide +kernel
theorem dL_freeAt_0 : decode cL_freeAt 0 = .ok (.aload 5, 2) := by decide +kernel
theorem dL_freeAt_2 : decode cL_freeAt 2 = .ok (.iconst 0, 1) := by decide +kernel
theorem dL_freeAt_3 : decode cL_freeAt 3 = .ok (.aload_n 0, 1) := by decide +kernel
theorem dL_freeAt_4 : decode cL_freeAt 4 = .ok (.iload_n 1, 1) := by decide +kernel
theorem dL_freeAt_5 : decode cL_freeAt 5 = .ok (.iload_n 2, 1) := by decide +kernel
theorem dL_freeAt_6 : decode cL_freeAt 6 = .ok (.iload_n 3, 1) := by decide +kernel
theorem dL_freeAt_7 : decode cL_freeAt 7 = .ok (.iload 4, 2) := by decide +kernel
theorem dL_freeAt_9 : decode cL_freeAt 9 = .ok (.invokevirtual 107, 3) := by decide +kernel
theorem dL_freeAt_12 : decode cL_freeAt 12 = .ok (.i2l, 1) := by decide +kernel
theorem dL_freeAt_13 : decode cL_freeAt 13 = .ok (.lastore, 1) := by decide +kernel
theorem dL_freeAt_14 : decode cL_freeAt 14 = .ok (.goto 11, 3) := by decide +kernel
theorem dL_freeAt_17 : decode cL_freeAt 17 = .ok (.astore 6, 2) := by decide +kernel
theorem dL_freeAt_19 : decode cL_freeAt 19 = .ok (.iconst 1, 1) := by decide +kernel
theorem dL_freeAt_20 : decode cL_freeAt 20 = .ok (.ireturn, 1) := by decide +kernel
theorem dL_freeAt_21 : decode cL_freeAt 21 = .ok (.astore 6, 2) := by decide +kernel
theorem dL_freeAt_23 : decode cL_freeAt 23 = .ok (.iconst 2, 1) := by decide +kernel
theorem dL_freeAt_24 : decode cL_freeAt 24 = .ok (.ireturn, 1) := by decide +kernel
theorem dL_freeAt_25 : decode cL_freeAt 25 = .ok (.iconst 0, 1) := by decide +kernel
theorem dL_freeAt_26 : decode cL_freeAt 26 = .ok (.ireturn, 1) := by decide +kernel
theorem dL_wayFine_0 : decode cL_wayFine 0 = .ok (.aload 5, 2) := by decide +kernel
theorem dL_wayFine_2 : decode cL_wayFine 2 = .ok (.iconst 0, 1) := by decide +kernel
theorem dL_wayFine_3 : decode cL_wayFine 3 = .ok (.aload_n 0, 1) := by decide +kernel
theorem dL_wayFine_4 : decode cL_wayFine 4 = .ok (.iload_n 1, 1) := by decide +kernel
theorem dL_wayFine_5 : decode cL_wayFine 5 = .ok (.iload_n 2, 1) := by decide +kernel
theorem dL_wayFine_6 : decode cL_wayFine 6 = .ok (.iload_n 3, 1) := by decide +kernel
theorem dL_wayFine_7 : decode cL_wayFine 7 = .ok (.iload 4, 2) := by decide +kernel
theorem dL_wayFine_9 : decode cL_wayFine 9 = .ok (.invokevirtual 110, 3) := by decide +kernel
theorem dL_wayFine_12 : decode cL_wayFine 12 = .ok (.i2l, 1) := by decide +kernel
theorem dL_wayFine_13 : decode cL_wayFine 13 = .ok (.lastore, 1) := by decide +kernel
theorem dL_wayFine_14 : decode cL_wayFine 14 = .ok (.goto 11, 3) := by decide +kernel
theorem dL_wayFine_17 : decode cL_wayFine 17 = .ok (.astore 6, 2) := by decide +kernel
theorem dL_wayFine_19 : decode cL_wayFine 19 = .ok (.iconst 1, 1) := by decide +kernel
theorem dL_wayFine_20 : decode cL_wayFine 20 = .ok (.ireturn, 1) := by decide +kernel
theorem dL_wayFine_21 : decode cL_wayFine 21 = .ok (.astore 6, 2) := by decide +kernel
theorem dL_wayFine_23 : decode cL_wayFine 23 = .ok (.iconst 2, 1) := by decide +kernel
theorem dL_wayFine_24 : decode cL_wayFine 24 = .ok (.ireturn, 1) := by decide +kernel
theorem dL_wayFine_25 : decode cL_wayFine 25 = .ok (.iconst 0, 1) := by decide +kernel
theorem dL_wayFine_26 : decode cL_wayFine 26 = .ok (.ireturn, 1) := by decide +kernel
theorem dL_freeWays_0 : decode cL_freeWays 0 = .ok (.aload 5, 2) := by decide +kernel
theorem dL_freeWays_2 : decode cL_freeWays 2 = .ok (.iconst 0, 1) := by decide +kernel
theorem dL_freeWays_3 : decode cL_freeWays 3 = .ok (.aload_n 0, 1) := by decide +kernel
theorem dL_freeWays_4 : decode cL_freeWays 4 = .ok (.iload_n 1, 1) := by decide +kernel
theorem dL_freeWays_5 : decode cL_freeWays 5 = .ok (.iload_n 2, 1) := by decide +kernel
theorem dL_freeWays_6 : decode cL_freeWays 6 = .ok (.iload_n 3, 1) := by decide +kernel
theorem dL_freeWays_7 : decode cL_freeWays 7 = .ok (.iload 4, 2) := by decide +kernel
theorem dL_freeWays_9 : decode cL_freeWays 9 = .ok (.invokevirtual 113, 3) := by decide +kernel
theorem dL_freeWays_12 : decode cL_freeWays 12 = .ok (.lastore, 1) := by decide +kernel
theorem dL_freeWays_13 : decode cL_freeWays 13 = .ok (.goto 11, 3) := by decide +kernel
theorem dL_freeWays_16 : decode cL_freeWays 16 = .ok (.astore 6, 2) := by decide +kernel
theorem dL_freeWays_18 : decode cL_freeWays 18 = .ok (.iconst 1, 1) := by decide +kernel
theorem dL_freeWays_19 : decode cL_freeWays 19 = .ok (.ireturn, 1) := by decide +kernel
theorem dL_freeWays_20 : decode cL_freeWays 20 = .ok (.astore 6, 2) := by decide +kernel
theorem dL_freeWays_22 : decode cL_freeWays 22 = .ok (.iconst 2, 1) := by decide +kernel
theorem dL_freeWays_23 : decode cL_freeWays 23 = .ok (.ireturn, 1) := by decide +kernel
theorem dL_freeWays_24 : decode cL_freeWays 24 = .ok (.iconst 0, 1) := by decide +kernel
theorem dL_freeWays_25 : decode cL_freeWays 25 = .ok (.ireturn, 1) := by decide +kernel
theorem dL_guard_0 : decode cL_guard 0 = .ok (.aload 4, 2) := by decide +kernel
theorem dL_guard_2 : decode cL_guard 2 = .ok (.iconst 0, 1) := by decide +kernel
theorem dL_guard_3 : decode cL_guard 3 = .ok (.aload_n 0, 1) := by decide +kernel
theorem dL_guard_4 : decode cL_guard 4 = .ok (.iload_n 1, 1) := by decide +kernel
theorem dL_guard_5 : decode cL_guard 5 = .ok (.iload_n 2, 1) := by decide +kernel
theorem dL_guard_6 : decode cL_guard 6 = .ok (.iload_n 3, 1) := by decide +kernel
theorem dL_guard_7 : decode cL_guard 7 = .ok (.invokevirtual 117, 3) := by decide +kernel
theorem dL_guard_10 : decode cL_guard 10 = .ok (.i2l, 1) := by decide +kernel
theorem dL_guard_11 : decode cL_guard 11 = .ok (.lastore, 1) := by decide +kernel
theorem dL_guard_12 : decode cL_guard 12 = .ok (.goto 11, 3) := by decide +kernel
theorem dL_guard_15 : decode cL_guard 15 = .ok (.astore 5, 2) := by decide +kernel
theorem dL_guard_17 : decode cL_guard 17 = .ok (.iconst 1, 1) := by decide +kernel
theorem dL_guard_18 : decode cL_guard 18 = .ok (.ireturn, 1) := by decide +kernel
theorem dL_guard_19 : decode cL_guard 19 = .ok (.astore 5, 2) := by decide +kernel
theorem dL_guard_21 : decode cL_guard 21 = .ok (.iconst 2, 1) := by decide +kernel
theorem dL_guard_22 : decode cL_guard 22 = .ok (.ireturn, 1) := by decide +kernel
theorem dL_guard_23 : decode cL_guard 23 = .ok (.iconst 0, 1) := by decide +kernel
theorem dL_guard_24 : decode cL_guard 24 = .ok (.ireturn, 1) := by decide +kernel
theorem dL_errands_0 : decode cL_errands 0 = .ok (.aload_n 2, 1) := by decide +kernel
theorem dL_errands_1 : decode cL_errands 1 = .ok (.iconst 0, 1) := by decide +kernel
theorem dL_errands_2 : decode cL_errands 2 = .ok (.aload_n 0, 1) := by decide +kernel
theorem dL_errands_3 : decode cL_errands 3 = .ok (.iload_n 1, 1) := by decide +kernel
theorem dL_errands_4 : decode cL_errands 4 = .ok (.invokevirtual 120, 3) := by decide +kernel
theorem dL_errands_7 : decode cL_errands 7 = .ok (.i2l, 1) := by decide +kernel
theorem dL_errands_8 : decode cL_errands 8 = .ok (.lastore, 1) := by decide +kernel
theorem dL_errands_9 : decode cL_errands 9 = .ok (.goto 12, 3) := by decide +kernel
theorem dL_errands_12 : decode cL_errands 12 = .ok (.astore_n 3, 1) := by decide +kernel
theorem dL_errands_13 : decode cL_errands 13 = .ok (.iconst 1, 1) := by decide +kernel
theorem dL_errands_14 : decode cL_errands 14 = .ok (.ireturn, 1) := by decide +kernel
theorem dL_errands_15 : decode cL_errands 15 = .ok (.astore_n 3, 1) := by decide +kernel
theorem dL_errands_16 : decode cL_errands 16 = .ok (.iconst 2, 1) := by decide +kernel
theorem dL_errands_17 : decode cL_errands 17 = .ok (.ireturn, 1) := by decide +kernel
theorem dL_errands_18 : decode cL_errands 18 = .ok (.astore_n 3, 1) := by decide +kernel
theorem dL_errands_19 : decode cL_errands 19 = .ok (.iconst 3, 1) := by decide +kernel
theorem dL_errands_20 : decode cL_errands 20 = .ok (.ireturn, 1) := by decide +kernel
theorem dL_errands_21 : decode cL_errands 21 = .ok (.iconst 0, 1) := by decide +kernel
theorem dL_errands_22 : decode cL_errands 22 = .ok (.ireturn, 1) := by decide +kernel
theorem dL_bestOrder_0 : decode cL_bestOrder 0 = .ok (.aload_n 3, 1) := by decide +kernel
theorem dL_bestOrder_1 : decode cL_bestOrder 1 = .ok (.iconst 0, 1) := by decide +kernel
theorem dL_bestOrder_2 : decode cL_bestOrder 2 = .ok (.aload_n 0, 1) := by decide +kernel
theorem dL_bestOrder_3 : decode cL_bestOrder 3 = .ok (.iload_n 1, 1) := by decide +kernel
theorem dL_bestOrder_4 : decode cL_bestOrder 4 = .ok (.iload_n 2, 1) := by decide +kernel
theorem dL_bestOrder_5 : decode cL_bestOrder 5 = .ok (.invokevirtual 123, 3) := by decide +kernel
theorem dL_bestOrder_8 : decode cL_bestOrder 8 = .ok (.i2l, 1) := by decide +kernel
theorem dL_bestOrder_9 : decode cL_bestOrder 9 = .ok (.lastore, 1) := by decide +kernel
theorem dL_bestOrder_10 : decode cL_bestOrder 10 = .ok (.goto 15, 3) := by decide +kernel
theorem dL_bestOrder_13 : decode cL_bestOrder 13 = .ok (.astore 4, 2) := by decide +kernel
theorem dL_bestOrder_15 : decode cL_bestOrder 15 = .ok (.iconst 1, 1) := by decide +kernel
theorem dL_bestOrder_16 : decode cL_bestOrder 16 = .ok (.ireturn, 1) := by decide +kernel
theorem dL_bestOrder_17 : decode cL_bestOrder 17 = .ok (.astore 4, 2) := by decide +kernel
theorem dL_bestOrder_19 : decode cL_bestOrder 19 = .ok (.iconst 2, 1) := by decide +kernel
theorem dL_bestOrder_20 : decode cL_bestOrder 20 = .ok (.ireturn, 1) := by decide +kernel
theorem dL_bestOrder_21 : decode cL_bestOrder 21 = .ok (.astore 4, 2) := by decide +kernel
theorem dL_bestOrder_23 : decode cL_bestOrder 23 = .ok (.iconst 3, 1) := by decide +kernel
theorem dL_bestOrder_24 : decode cL_bestOrder 24 = .ok (.ireturn, 1) := by decide +kernel
theorem dL_bestOrder_25 : decode cL_bestOrder 25 = .ok (.iconst 0, 1) := by decide +kernel
theorem dL_bestOrder_26 : decode cL_bestOrder 26 = .ok (.ireturn, 1) := by decide +kernel
theorem dL_seen_0 : decode cL_seen 0 = .ok (.aload 4, 2) := by decide +kernel
theorem dL_seen_2 : decode cL_seen 2 = .ok (.iconst 0, 1) := by decide +kernel
theorem dL_seen_3 : decode cL_seen 3 = .ok (.aload_n 0, 1) := by decide +kernel
theorem dL_seen_4 : decode cL_seen 4 = .ok (.iload_n 1, 1) := by decide +kernel
theorem dL_seen_5 : decode cL_seen 5 = .ok (.iload_n 2, 1) := by decide +kernel
theorem dL_seen_6 : decode cL_seen 6 = .ok (.iload_n 3, 1) := by decide +kernel
theorem dL_seen_7 : decode cL_seen 7 = .ok (.invokevirtual 126, 3) := by decide +kernel
theorem dL_seen_10 : decode cL_seen 10 = .ok (.i2l, 1) := by decide +kernel
theorem dL_seen_11 : decode cL_seen 11 = .ok (.lastore, 1) := by decide +kernel
theorem dL_seen_12 : decode cL_seen 12 = .ok (.goto 15, 3) := by decide +kernel
theorem dL_seen_15 : decode cL_seen 15 = .ok (.astore 5, 2) := by decide +kernel
theorem dL_seen_17 : decode cL_seen 17 = .ok (.iconst 1, 1) := by decide +kernel
theorem dL_seen_18 : decode cL_seen 18 = .ok (.ireturn, 1) := by decide +kernel
theorem dL_seen_19 : decode cL_seen 19 = .ok (.astore 5, 2) := by decide +kernel
theorem dL_seen_21 : decode cL_seen 21 = .ok (.iconst 2, 1) := by decide +kernel
theorem dL_seen_22 : decode cL_seen 22 = .ok (.ireturn, 1) := by decide +kernel
theorem dL_seen_23 : decode cL_seen 23 = .ok (.astore 5, 2) := by decide +kernel
theorem dL_seen_25 : decode cL_seen 25 = .ok (.iconst 3, 1) := by decide +kernel
theorem dL_seen_26 : decode cL_seen 26 = .ok (.ireturn, 1) := by decide +kernel
theorem dL_seen_27 : decode cL_seen 27 = .ok (.iconst 0, 1) := by decide +kernel
theorem dL_seen_28 : decode cL_seen 28 = .ok (.ireturn, 1) := by decide +kernel
theorem dL_breath_0 : decode cL_breath 0 = .ok (.aload 5, 2) := by decide +kernel
theorem dL_breath_2 : decode cL_breath 2 = .ok (.iconst 0, 1) := by decide +kernel
theorem dL_breath_3 : decode cL_breath 3 = .ok (.aload_n 0, 1) := by decide +kernel
theorem dL_breath_4 : decode cL_breath 4 = .ok (.iload_n 1, 1) := by decide +kernel
theorem dL_breath_5 : decode cL_breath 5 = .ok (.iload_n 2, 1) := by decide +kernel
theorem dL_breath_6 : decode cL_breath 6 = .ok (.iload_n 3, 1) := by decide +kernel
theorem dL_breath_7 : decode cL_breath 7 = .ok (.iload 4, 2) := by decide +kernel
theorem dL_breath_9 : decode cL_breath 9 = .ok (.invokevirtual 129, 3) := by decide +kernel
theorem dL_breath_12 : decode cL_breath 12 = .ok (.i2l, 1) := by decide +kernel
theorem dL_breath_13 : decode cL_breath 13 = .ok (.lastore, 1) := by decide +kernel
theorem dL_breath_14 : decode cL_breath 14 = .ok (.goto 15, 3) := by decide +kernel
theorem dL_breath_17 : decode cL_breath 17 = .ok (.astore 6, 2) := by decide +kernel
theorem dL_breath_19 : decode cL_breath 19 = .ok (.iconst 1, 1) := by decide +kernel
theorem dL_breath_20 : decode cL_breath 20 = .ok (.ireturn, 1) := by decide +kernel
theorem dL_breath_21 : decode cL_breath 21 = .ok (.astore 6, 2) := by decide +kernel
theorem dL_breath_23 : decode cL_breath 23 = .ok (.iconst 2, 1) := by decide +kernel
theorem dL_breath_24 : decode cL_breath 24 = .ok (.ireturn, 1) := by decide +kernel
theorem dL_breath_25 : decode cL_breath 25 = .ok (.astore 6, 2) := by decide +kernel
theorem dL_breath_27 : decode cL_breath 27 = .ok (.iconst 3, 1) := by decide +kernel
theorem dL_breath_28 : decode cL_breath 28 = .ok (.ireturn, 1) := by decide +kernel
theorem dL_breath_29 : decode cL_breath 29 = .ok (.iconst 0, 1) := by decide +kernel
theorem dL_breath_30 : decode cL_breath 30 = .ok (.ireturn, 1) := by decide +kernel
theorem dL_look_0 : decode cL_look 0 = .ok (.aload 4, 2) := by decide +kernel
theorem dL_look_2 : decode cL_look 2 = .ok (.iconst 0, 1) := by decide +kernel
theorem dL_look_3 : decode cL_look 3 = .ok (.aload_n 0, 1) := by decide +kernel
theorem dL_look_4 : decode cL_look 4 = .ok (.iload_n 1, 1) := by decide +kernel
theorem dL_look_5 : decode cL_look 5 = .ok (.iload_n 2, 1) := by decide +kernel
theorem dL_look_6 : decode cL_look 6 = .ok (.iload_n 3, 1) := by decide +kernel
theorem dL_look_7 : decode cL_look 7 = .ok (.invokevirtual 132, 3) := by decide +kernel
theorem dL_look_10 : decode cL_look 10 = .ok (.i2l, 1) := by decide +kernel
theorem dL_look_11 : decode cL_look 11 = .ok (.lastore, 1) := by decide +kernel
theorem dL_look_12 : decode cL_look 12 = .ok (.goto 15, 3) := by decide +kernel
theorem dL_look_15 : decode cL_look 15 = .ok (.astore 5, 2) := by decide +kernel
theorem dL_look_17 : decode cL_look 17 = .ok (.iconst 1, 1) := by decide +kernel
theorem dL_look_18 : decode cL_look 18 = .ok (.ireturn, 1) := by decide +kernel
theorem dL_look_19 : decode cL_look 19 = .ok (.astore 5, 2) := by decide +kernel
theorem dL_look_21 : decode cL_look 21 = .ok (.iconst 2, 1) := by decide +kernel
theorem dL_look_22 : decode cL_look 22 = .ok (.ireturn, 1) := by decide +kernel
theorem dL_look_23 : decode cL_look 23 = .ok (.astore 5, 2) := by decide +kernel
theorem dL_look_25 : decode cL_look 25 = .ok (.iconst 3, 1) := by decide +kernel
theorem dL_look_26 : decode cL_look 26 = .ok (.ireturn, 1) := by decide +kernel
theorem dL_look_27 : decode cL_look 27 = .ok (.iconst 0, 1) := by decide +kernel
theorem dL_look_28 : decode cL_look 28 = .ok (.ireturn, 1) := by decide +kernel
theorem dL_tray_0 : decode cL_tray 0 = .ok (.aload_n 0, 1) := by decide +kernel
theorem dL_tray_1 : decode cL_tray 1 = .ok (.iload_n 1, 1) := by decide +kernel
theorem dL_tray_2 : decode cL_tray 2 = .ok (.iload_n 2, 1) := by decide +kernel
theorem dL_tray_3 : decode cL_tray 3 = .ok (.iload_n 3, 1) := by decide +kernel
theorem dL_tray_4 : decode cL_tray 4 = .ok (.invokevirtual 135, 3) := by decide +kernel
theorem dL_tray_7 : decode cL_tray 7 = .ok (.goto 11, 3) := by decide +kernel
theorem dL_tray_10 : decode cL_tray 10 = .ok (.astore 4, 2) := by decide +kernel
theorem dL_tray_12 : decode cL_tray 12 = .ok (.iconst 1, 1) := by decide +kernel
theorem dL_tray_13 : decode cL_tray 13 = .ok (.ireturn, 1) := by decide +kernel
theorem dL_tray_14 : decode cL_tray 14 = .ok (.astore 4, 2) := by decide +kernel
theorem dL_tray_16 : decode cL_tray 16 = .ok (.iconst 2, 1) := by decide +kernel
theorem dL_tray_17 : decode cL_tray 17 = .ok (.ireturn, 1) := by decide +kernel
theorem dL_tray_18 : decode cL_tray 18 = .ok (.iconst 0, 1) := by decide +kernel
theorem dL_tray_19 : decode cL_tray 19 = .ok (.ireturn, 1) := by decide +kernel
theorem dL_write_0 : decode cL_write 0 = .ok (.aload 5, 2) := by decide +kernel
theorem dL_write_2 : decode cL_write 2 = .ok (.iconst 0, 1) := by decide +kernel
theorem dL_write_3 : decode cL_write 3 = .ok (.aload_n 0, 1) := by decide +kernel
theorem dL_write_4 : decode cL_write 4 = .ok (.iload_n 1, 1) := by decide +kernel
theorem dL_write_5 : decode cL_write 5 = .ok (.iload_n 2, 1) := by decide +kernel
theorem dL_write_6 : decode cL_write 6 = .ok (.lload_n 3, 1) := by decide +kernel
theorem dL_write_7 : decode cL_write 7 = .ok (.invokevirtual 139, 3) := by decide +kernel
theorem dL_write_10 : decode cL_write 10 = .ok (.lastore, 1) := by decide +kernel
theorem dL_write_11 : decode cL_write 11 = .ok (.goto 15, 3) := by decide +kernel
theorem dL_write_14 : decode cL_write 14 = .ok (.astore 6, 2) := by decide +kernel
theorem dL_write_16 : decode cL_write 16 = .ok (.iconst 1, 1) := by decide +kernel
theorem dL_write_17 : decode cL_write 17 = .ok (.ireturn, 1) := by decide +kernel
theorem dL_write_18 : decode cL_write 18 = .ok (.astore 6, 2) := by decide +kernel
theorem dL_write_20 : decode cL_write 20 = .ok (.iconst 2, 1) := by decide +kernel
theorem dL_write_21 : decode cL_write 21 = .ok (.ireturn, 1) := by decide +kernel
theorem dL_write_22 : decode cL_write 22 = .ok (.astore 6, 2) := by decide +kernel
theorem dL_write_24 : decode cL_write 24 = .ok (.iconst 3, 1) := by decide +kernel
theorem dL_write_25 : decode cL_write 25 = .ok (.ireturn, 1) := by decide +kernel
theorem dL_write_26 : decode cL_write 26 = .ok (.iconst 0, 1) := by decide +kernel
theorem dL_write_27 : decode cL_write 27 = .ok (.ireturn, 1) := by decide +kernel
theorem dL_copy_0 : decode cL_copy 0 = .ok (.aload_n 3, 1) := by decide +kernel
theorem dL_copy_1 : decode cL_copy 1 = .ok (.iconst 0, 1) := by decide +kernel
theorem dL_copy_2 : decode cL_copy 2 = .ok (.aload_n 0, 1) := by decide +kernel
theorem dL_copy_3 : decode cL_copy 3 = .ok (.iload_n 1, 1) := by decide +kernel
theorem dL_copy_4 : decode cL_copy 4 = .ok (.iload_n 2, 1) := by decide +kernel
theorem dL_copy_5 : decode cL_copy 5 = .ok (.invokevirtual 145, 3) := by decide +kernel
theorem dL_copy_8 : decode cL_copy 8 = .ok (.i2l, 1) := by decide +kernel
theorem dL_copy_9 : decode cL_copy 9 = .ok (.lastore, 1) := by decide +kernel
theorem dL_copy_10 : decode cL_copy 10 = .ok (.goto 11, 3) := by decide +kernel
theorem dL_copy_13 : decode cL_copy 13 = .ok (.astore 4, 2) := by decide +kernel
theorem dL_copy_15 : decode cL_copy 15 = .ok (.iconst 1, 1) := by decide +kernel
theorem dL_copy_16 : decode cL_copy 16 = .ok (.ireturn, 1) := by decide +kernel
theorem dL_copy_17 : decode cL_copy 17 = .ok (.astore 4, 2) := by decide +kernel
theorem dL_copy_19 : decode cL_copy 19 = .ok (.iconst 2, 1) := by decide +kernel
theorem dL_copy_20 : decode cL_copy 20 = .ok (.ireturn, 1) := by decide +kernel
theorem dL_copy_21 : decode cL_copy 21 = .ok (.iconst 0, 1) := by decide +kernel
theorem dL_copy_22 : decode cL_copy 22 = .ok (.ireturn, 1) := by decide +kernel
theorem dL_image_0 : decode cL_image 0 = .ok (.aload_n 0, 1) := by decide +kernel
theorem dL_image_1 : decode cL_image 1 = .ok (.iload_n 1, 1) := by decide +kernel
theorem dL_image_2 : decode cL_image 2 = .ok (.invokevirtual 148, 3) := by decide +kernel
theorem dL_image_5 : decode cL_image 5 = .ok (.goto 6, 3) := by decide +kernel
theorem dL_image_8 : decode cL_image 8 = .ok (.astore_n 2, 1) := by decide +kernel
theorem dL_image_9 : decode cL_image 9 = .ok (.iconst 1, 1) := by decide +kernel
theorem dL_image_10 : decode cL_image 10 = .ok (.ireturn, 1) := by decide +kernel
theorem dL_image_11 : decode cL_image 11 = .ok (.iconst 0, 1) := by decide +kernel
theorem dL_image_12 : decode cL_image 12 = .ok (.ireturn, 1) := by decide +kernel
theorem dL_restore_0 : decode cL_restore 0 = .ok (.aload_n 0, 1) := by decide +kernel
theorem dL_restore_1 : decode cL_restore 1 = .ok (.iload_n 1, 1) := by decide +kernel
theorem dL_restore_2 : decode cL_restore 2 = .ok (.invokevirtual 152, 3) := by decide +kernel
theorem dL_restore_5 : decode cL_restore 5 = .ok (.goto 9, 3) := by decide +kernel
theorem dL_restore_8 : decode cL_restore 8 = .ok (.astore_n 2, 1) := by decide +kernel
theorem dL_restore_9 : decode cL_restore 9 = .ok (.iconst 1, 1) := by decide +kernel
theorem dL_restore_10 : decode cL_restore 10 = .ok (.ireturn, 1) := by decide +kernel
theorem dL_restore_11 : decode cL_restore 11 = .ok (.astore_n 2, 1) := by decide +kernel
theorem dL_restore_12 : decode cL_restore 12 = .ok (.iconst 2, 1) := by decide +kernel
theorem dL_restore_13 : decode cL_restore 13 = .ok (.ireturn, 1) := by decide +kernel
theorem dL_restore_14 : decode cL_restore 14 = .ok (.iconst 0, 1) := by decide +kernel
theorem dL_restore_15 : decode cL_restore 15 = .ok (.ireturn, 1) := by decide +kernel
