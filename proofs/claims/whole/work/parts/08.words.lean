/-! the words of the tables, by their places; links; the methods -/
theorem tt_1 {w : Cond} (h : w ∈ tables_1_1) : w ∈ lw_tbl := List.mem_append_right _ (List.mem_append_left _ h)
theorem tt_2 {w : Cond} (h : w ∈ tables_1_2) : w ∈ lw_tbl := List.mem_append_right _ (List.mem_append_right _ (List.mem_append_left _ h))
theorem tt_3 {w : Cond} (h : w ∈ tables_1_3) : w ∈ lw_tbl := List.mem_append_right _ (List.mem_append_right _ (List.mem_append_right _ (List.mem_append_left _ h)))
theorem tt_4 {w : Cond} (h : w ∈ tables_1_4) : w ∈ lw_tbl := List.mem_append_right _ (List.mem_append_right _ (List.mem_append_right _ (List.mem_append_right _ (List.mem_append_left _ h))))
theorem tt_5 {w : Cond} (h : w ∈ tables_1_5) : w ∈ lw_tbl := List.mem_append_right _ (List.mem_append_right _ (List.mem_append_right _ (List.mem_append_right _ (List.mem_append_right _ (List.mem_append_left _ h)))))
theorem tt_6 {w : Cond} (h : w ∈ tables_1_6) : w ∈ lw_tbl := List.mem_append_right _ (List.mem_append_right _ (List.mem_append_right _ (List.mem_append_right _ (List.mem_append_right _ (List.mem_append_right _ (List.mem_append_left _ h))))))
theorem tt_7 {w : Cond} (h : w ∈ tables_1_7) : w ∈ lw_tbl := List.mem_append_right _ (List.mem_append_right _ (List.mem_append_right _ (List.mem_append_right _ (List.mem_append_right _ (List.mem_append_right _ (List.mem_append_right _ (List.mem_append_left _ h)))))))
theorem tt_8 {w : Cond} (h : w ∈ tables_1_8) : w ∈ lw_tbl := List.mem_append_right _ (List.mem_append_right _ (List.mem_append_right _ (List.mem_append_right _ (List.mem_append_right _ (List.mem_append_right _ (List.mem_append_right _ (List.mem_append_right _ (List.mem_append_left _ h))))))))
theorem tt_9 {w : Cond} (h : w ∈ tables_1_9) : w ∈ lw_tbl := List.mem_append_right _ (List.mem_append_right _ (List.mem_append_right _ (List.mem_append_right _ (List.mem_append_right _ (List.mem_append_right _ (List.mem_append_right _ (List.mem_append_right _ (List.mem_append_right _ (List.mem_append_left _ h)))))))))
theorem tt_10 {w : Cond} (h : w ∈ tables_1_10) : w ∈ lw_tbl := List.mem_append_right _ (List.mem_append_right _ (List.mem_append_right _ (List.mem_append_right _ (List.mem_append_right _ (List.mem_append_right _ (List.mem_append_right _ (List.mem_append_right _ (List.mem_append_right _ (List.mem_append_right _ (h))))))))))
theorem tp_1 {q : MethodName × Nat} (h : q ∈ lw_privs_1) : Cond.selects q.1.cls q.1 q.1 ∈ lw_tbl := List.mem_append_left _ (List.mem_map.mpr ⟨q, List.mem_append_left _ h, rfl⟩)
theorem tp_2 {q : MethodName × Nat} (h : q ∈ lw_privs_2) : Cond.selects q.1.cls q.1 q.1 ∈ lw_tbl := List.mem_append_left _ (List.mem_map.mpr ⟨q, List.mem_append_right _ (List.mem_append_left _ h), rfl⟩)
theorem tp_3 {q : MethodName × Nat} (h : q ∈ lw_privs_3) : Cond.selects q.1.cls q.1 q.1 ∈ lw_tbl := List.mem_append_left _ (List.mem_map.mpr ⟨q, List.mem_append_right _ (List.mem_append_right _ (List.mem_append_left _ h)), rfl⟩)
theorem tp_4 {q : MethodName × Nat} (h : q ∈ lw_privs_4) : Cond.selects q.1.cls q.1 q.1 ∈ lw_tbl := List.mem_append_left _ (List.mem_map.mpr ⟨q, List.mem_append_right _ (List.mem_append_right _ (List.mem_append_right _ (List.mem_append_left _ h))), rfl⟩)
theorem tp_5 {q : MethodName × Nat} (h : q ∈ lw_privs_5) : Cond.selects q.1.cls q.1 q.1 ∈ lw_tbl := List.mem_append_left _ (List.mem_map.mpr ⟨q, List.mem_append_right _ (List.mem_append_right _ (List.mem_append_right _ (List.mem_append_right _ (List.mem_append_left _ h)))), rfl⟩)
theorem tp_6 {q : MethodName × Nat} (h : q ∈ lw_privs_6) : Cond.selects q.1.cls q.1 q.1 ∈ lw_tbl := List.mem_append_left _ (List.mem_map.mpr ⟨q, List.mem_append_right _ (List.mem_append_right _ (List.mem_append_right _ (List.mem_append_right _ (List.mem_append_right _ (List.mem_append_left _ h))))), rfl⟩)
theorem tp_7 {q : MethodName × Nat} (h : q ∈ lw_privs_7) : Cond.selects q.1.cls q.1 q.1 ∈ lw_tbl := List.mem_append_left _ (List.mem_map.mpr ⟨q, List.mem_append_right _ (List.mem_append_right _ (List.mem_append_right _ (List.mem_append_right _ (List.mem_append_right _ (List.mem_append_right _ (List.mem_append_left _ h)))))), rfl⟩)
theorem tp_8 {q : MethodName × Nat} (h : q ∈ lw_privs_8) : Cond.selects q.1.cls q.1 q.1 ∈ lw_tbl := List.mem_append_left _ (List.mem_map.mpr ⟨q, List.mem_append_right _ (List.mem_append_right _ (List.mem_append_right _ (List.mem_append_right _ (List.mem_append_right _ (List.mem_append_right _ (List.mem_append_right _ (List.mem_append_left _ h))))))), rfl⟩)
theorem tp_9 {q : MethodName × Nat} (h : q ∈ lw_privs_9) : Cond.selects q.1.cls q.1 q.1 ∈ lw_tbl := List.mem_append_left _ (List.mem_map.mpr ⟨q, List.mem_append_right _ (List.mem_append_right _ (List.mem_append_right _ (List.mem_append_right _ (List.mem_append_right _ (List.mem_append_right _ (List.mem_append_right _ (List.mem_append_right _ (h)))))))), rfl⟩)
theorem in_RL : Cond.initialized RL ∈ TW := List.mem_filter.mpr ⟨tt_1 (List.mem_of_getElem? (i := 0) rfl), rfl⟩
theorem in_RX11 : Cond.initialized RX11 ∈ TW := List.mem_filter.mpr ⟨tt_1 (List.mem_of_getElem? (i := 1) rfl), rfl⟩
theorem in_RX6 : Cond.initialized RX6 ∈ TW := List.mem_filter.mpr ⟨tt_1 (List.mem_of_getElem? (i := 2) rfl), rfl⟩
theorem in_RX2 : Cond.initialized RX2 ∈ TW := List.mem_filter.mpr ⟨tt_1 (List.mem_of_getElem? (i := 3) rfl), rfl⟩
theorem in_RX7 : Cond.initialized RX7 ∈ TW := List.mem_filter.mpr ⟨tt_1 (List.mem_of_getElem? (i := 4) rfl), rfl⟩
theorem in_RX3 : Cond.initialized RX3 ∈ TW := List.mem_filter.mpr ⟨tt_1 (List.mem_of_getElem? (i := 5) rfl), rfl⟩
theorem in_RX5 : Cond.initialized RX5 ∈ TW := List.mem_filter.mpr ⟨tt_1 (List.mem_of_getElem? (i := 6) rfl), rfl⟩
theorem in_RX9 : Cond.initialized RX9 ∈ TW := List.mem_filter.mpr ⟨tt_1 (List.mem_of_getElem? (i := 7) rfl), rfl⟩
theorem in_RX12 : Cond.initialized RX12 ∈ TW := List.mem_filter.mpr ⟨tt_1 (List.mem_of_getElem? (i := 8) rfl), rfl⟩
theorem in_Exception : Cond.initialized "java/lang/Exception" ∈ TW := List.mem_filter.mpr ⟨tt_1 (List.mem_of_getElem? (i := 10) rfl), rfl⟩
theorem in_RuntimeException : Cond.initialized "java/lang/RuntimeException" ∈ TW := List.mem_filter.mpr ⟨tt_1 (List.mem_of_getElem? (i := 11) rfl), rfl⟩
theorem in_IllegalArgumentException : Cond.initialized "java/lang/IllegalArgumentException" ∈ TW := List.mem_filter.mpr ⟨tt_1 (List.mem_of_getElem? (i := 12) rfl), rfl⟩
theorem in_RJ9 : Cond.initialized RJ9 ∈ TW := List.mem_filter.mpr ⟨tt_1 (List.mem_of_getElem? (i := 13) rfl), rfl⟩
theorem in_Math : Cond.initialized "java/lang/Math" ∈ TW := List.mem_filter.mpr ⟨tt_1 (List.mem_of_getElem? (i := 13) rfl), rfl⟩
theorem in_RJ0 : Cond.initialized RJ0 ∈ TW := List.mem_filter.mpr ⟨tt_1 (List.mem_of_getElem? (i := 14) rfl), rfl⟩
theorem in_RJ1 : Cond.initialized RJ1 ∈ TW := List.mem_filter.mpr ⟨tt_1 (List.mem_of_getElem? (i := 15) rfl), rfl⟩
theorem in_RJ3 : Cond.initialized RJ3 ∈ TW := List.mem_filter.mpr ⟨tt_1 (List.mem_of_getElem? (i := 16) rfl), rfl⟩
theorem in_RJ2 : Cond.initialized RJ2 ∈ TW := List.mem_filter.mpr ⟨tt_1 (List.mem_of_getElem? (i := 17) rfl), rfl⟩
theorem in_RJ7 : Cond.initialized RJ7 ∈ TW := List.mem_filter.mpr ⟨tt_1 (List.mem_of_getElem? (i := 18) rfl), rfl⟩
theorem in_RJ10 : Cond.initialized RJ10 ∈ TW := List.mem_filter.mpr ⟨tt_1 (List.mem_of_getElem? (i := 19) rfl), rfl⟩
theorem in_System : Cond.initialized "java/lang/System" ∈ TW := List.mem_filter.mpr ⟨tt_1 (List.mem_of_getElem? (i := 19) rfl), rfl⟩
theorem in_NoSuchElementException : Cond.initialized "java/util/NoSuchElementException" ∈ TW := List.mem_filter.mpr ⟨tt_1 (List.mem_of_getElem? (i := 20) rfl), rfl⟩
theorem in_RJ6 : Cond.initialized RJ6 ∈ TW := List.mem_filter.mpr ⟨tt_1 (List.mem_of_getElem? (i := 21) rfl), rfl⟩
theorem in_RX4 : Cond.initialized RX4 ∈ TW := List.mem_filter.mpr ⟨tt_1 (List.mem_of_getElem? (i := 22) rfl), rfl⟩
theorem in_IllegalStateException : Cond.initialized "java/lang/IllegalStateException" ∈ TW := List.mem_filter.mpr ⟨tt_1 (List.mem_of_getElem? (i := 23) rfl), rfl⟩
theorem in_RX10 : Cond.initialized RX10 ∈ TW := List.mem_filter.mpr ⟨tt_1 (List.mem_of_getElem? (i := 24) rfl), rfl⟩
theorem in_RX0 : Cond.initialized RX0 ∈ TW := List.mem_filter.mpr ⟨tt_1 (List.mem_of_getElem? (i := 25) rfl), rfl⟩
theorem in_RX8 : Cond.initialized RX8 ∈ TW := List.mem_filter.mpr ⟨tt_1 (List.mem_of_getElem? (i := 26) rfl), rfl⟩
theorem in_IndexOutOfBoundsException : Cond.initialized "java/lang/IndexOutOfBoundsException" ∈ TW := List.mem_filter.mpr ⟨tt_1 (List.mem_of_getElem? (i := 27) rfl), rfl⟩
theorem in_RX1 : Cond.initialized RX1 ∈ TW := List.mem_filter.mpr ⟨tt_1 (List.mem_of_getElem? (i := 28) rfl), rfl⟩
theorem cl_RL_8 : Cond.classLink RL 8 RX11 ∈ TW := List.mem_filter.mpr ⟨tt_1 (List.mem_of_getElem? (i := 29) rfl), rfl⟩
theorem ib_RX11 : Cond.instantiable RX11 11 ∈ TW := List.mem_filter.mpr ⟨tt_1 (List.mem_of_getElem? (i := 30) rfl), rfl⟩
theorem ml_RL_155 : Cond.methodLink RL 155 yX11_init ∈ TW := List.mem_filter.mpr ⟨tt_1 (List.mem_of_getElem? (i := 31) rfl), rfl⟩
theorem im_X11_init : Cond.instanceMethod yX11_init ∈ TW := List.mem_filter.mpr ⟨tt_1 (List.mem_of_getElem? (i := 32) rfl), rfl⟩
theorem cd_X11_init : Cond.code yX11_init cX11_init 2 none ∈ TW := List.mem_filter.mpr ⟨tt_1 (List.mem_of_getElem? (i := 33) rfl), rfl⟩
theorem ml_RX11_3 : Cond.methodLink RX11 3 Lib.objectInit ∈ TW := List.mem_filter.mpr ⟨tt_1 (List.mem_of_getElem? (i := 34) rfl), rfl⟩
theorem im_objInit : Cond.instanceMethod Lib.objectInit ∈ TW := List.mem_filter.mpr ⟨tt_1 (List.mem_of_getElem? (i := 35) rfl), rfl⟩
theorem cd_objInit : Cond.code Lib.objectInit ⟨#[0xb1]⟩ 1 none ∈ TW := List.mem_filter.mpr ⟨tt_1 (List.mem_of_getElem? (i := 36) rfl), rfl⟩
theorem cl_RX11_9 : Cond.classLink RX11 9 RX6 ∈ TW := List.mem_filter.mpr ⟨tt_1 (List.mem_of_getElem? (i := 37) rfl), rfl⟩
theorem ib_RX6 : Cond.instantiable RX6 13 ∈ TW := List.mem_filter.mpr ⟨tt_1 (List.mem_of_getElem? (i := 38) rfl), rfl⟩
theorem im_X6_init : Cond.instanceMethod yX6_init ∈ TW := List.mem_filter.mpr ⟨tt_1 (List.mem_of_getElem? (i := 40) rfl), rfl⟩
theorem cd_X6_init : Cond.code yX6_init cX6_init 1 none ∈ TW := List.mem_filter.mpr ⟨tt_1 (List.mem_of_getElem? (i := 41) rfl), rfl⟩
theorem ml_RX6_5 : Cond.methodLink RX6 5 Lib.objectInit ∈ TW := List.mem_filter.mpr ⟨tt_1 (List.mem_of_getElem? (i := 42) rfl), rfl⟩
theorem cl_RX6_34 : Cond.classLink RX6 34 RX2 ∈ TW := List.mem_filter.mpr ⟨tt_1 (List.mem_of_getElem? (i := 43) rfl), rfl⟩
theorem ib_RX2 : Cond.instantiable RX2 14 ∈ TW := List.mem_filter.mpr ⟨tt_1 (List.mem_of_getElem? (i := 44) rfl), rfl⟩
theorem im_X2_init : Cond.instanceMethod yX2_init ∈ TW := List.mem_filter.mpr ⟨tt_1 (List.mem_of_getElem? (i := 46) rfl), rfl⟩
theorem cd_X2_init : Cond.code yX2_init cX2_init 1 none ∈ TW := List.mem_filter.mpr ⟨tt_1 (List.mem_of_getElem? (i := 47) rfl), rfl⟩
theorem ml_RX2_3 : Cond.methodLink RX2 3 Lib.objectInit ∈ TW := List.mem_filter.mpr ⟨tt_1 (List.mem_of_getElem? (i := 48) rfl), rfl⟩
theorem fl_RX2_9 : flk RX2 9 2 0 := ⟨by decide, (RX2, TX2, 14), rfl, by decide, List.mem_filter.mpr ⟨tt_1 (List.mem_of_getElem? (i := 49) rfl), rfl⟩⟩
theorem fl_RX11_92 : flk RX11 92 2 0 := ⟨by decide, (RX2, TX2, 14), rfl, by decide, List.mem_filter.mpr ⟨tt_1 (List.mem_of_getElem? (i := 50) rfl), rfl⟩⟩
theorem fl_RX6_111 : flk RX6 111 2 0 := ⟨by decide, (RX2, TX2, 14), rfl, by decide, List.mem_filter.mpr ⟨tt_1 (List.mem_of_getElem? (i := 51) rfl), rfl⟩⟩
theorem fl_RX2_15 : flk RX2 15 2 1 := ⟨by decide, (RX2, TX2, 14), rfl, by decide, List.mem_filter.mpr ⟨tt_1 (List.mem_of_getElem? (i := 52) rfl), rfl⟩⟩
theorem fl_RX10_51 : flk RX10 51 2 1 := ⟨by decide, (RX2, TX2, 14), rfl, by decide, List.mem_filter.mpr ⟨tt_1 (List.mem_of_getElem? (i := 53) rfl), rfl⟩⟩
theorem fl_RX6_114 : flk RX6 114 2 1 := ⟨by decide, (RX2, TX2, 14), rfl, by decide, List.mem_filter.mpr ⟨tt_1 (List.mem_of_getElem? (i := 54) rfl), rfl⟩⟩
theorem fl_RX11_175 : flk RX11 175 2 1 := ⟨by decide, (RX2, TX2, 14), rfl, by decide, List.mem_filter.mpr ⟨tt_1 (List.mem_of_getElem? (i := 55) rfl), rfl⟩⟩
theorem fl_RX7_146 : flk RX7 146 2 1 := ⟨by decide, (RX2, TX2, 14), rfl, by decide, List.mem_filter.mpr ⟨tt_1 (List.mem_of_getElem? (i := 56) rfl), rfl⟩⟩
theorem fl_RX2_18 : flk RX2 18 2 2 := ⟨by decide, (RX2, TX2, 14), rfl, by decide, List.mem_filter.mpr ⟨tt_1 (List.mem_of_getElem? (i := 57) rfl), rfl⟩⟩
theorem fl_RX7_51 : flk RX7 51 2 2 := ⟨by decide, (RX2, TX2, 14), rfl, by decide, List.mem_filter.mpr ⟨tt_1 (List.mem_of_getElem? (i := 58) rfl), rfl⟩⟩
theorem fl_RX6_129 : flk RX6 129 2 2 := ⟨by decide, (RX2, TX2, 14), rfl, by decide, List.mem_filter.mpr ⟨tt_1 (List.mem_of_getElem? (i := 59) rfl), rfl⟩⟩
theorem fl_RX4_99 : flk RX4 99 2 2 := ⟨by decide, (RX2, TX2, 14), rfl, by decide, List.mem_filter.mpr ⟨tt_1 (List.mem_of_getElem? (i := 60) rfl), rfl⟩⟩
theorem fl_RX11_386 : flk RX11 386 2 2 := ⟨by decide, (RX2, TX2, 14), rfl, by decide, List.mem_filter.mpr ⟨tt_1 (List.mem_of_getElem? (i := 61) rfl), rfl⟩⟩
theorem fl_RX2_21 : flk RX2 21 2 3 := ⟨by decide, (RX2, TX2, 14), rfl, by decide, List.mem_filter.mpr ⟨tt_1 (List.mem_of_getElem? (i := 62) rfl), rfl⟩⟩
theorem fl_RX7_38 : flk RX7 38 2 3 := ⟨by decide, (RX2, TX2, 14), rfl, by decide, List.mem_filter.mpr ⟨tt_1 (List.mem_of_getElem? (i := 63) rfl), rfl⟩⟩
theorem fl_RX6_102 : flk RX6 102 2 3 := ⟨by decide, (RX2, TX2, 14), rfl, by decide, List.mem_filter.mpr ⟨tt_1 (List.mem_of_getElem? (i := 64) rfl), rfl⟩⟩
theorem fl_RX2_24 : flk RX2 24 2 4 := ⟨by decide, (RX2, TX2, 14), rfl, by decide, List.mem_filter.mpr ⟨tt_1 (List.mem_of_getElem? (i := 65) rfl), rfl⟩⟩
theorem fl_RX6_96 : flk RX6 96 2 4 := ⟨by decide, (RX2, TX2, 14), rfl, by decide, List.mem_filter.mpr ⟨tt_1 (List.mem_of_getElem? (i := 66) rfl), rfl⟩⟩
theorem fl_RX7_124 : flk RX7 124 2 4 := ⟨by decide, (RX2, TX2, 14), rfl, by decide, List.mem_filter.mpr ⟨tt_1 (List.mem_of_getElem? (i := 67) rfl), rfl⟩⟩
theorem fl_RX11_389 : flk RX11 389 2 4 := ⟨by decide, (RX2, TX2, 14), rfl, by decide, List.mem_filter.mpr ⟨tt_1 (List.mem_of_getElem? (i := 68) rfl), rfl⟩⟩
theorem fl_RX2_28 : flk RX2 28 2 5 := ⟨by decide, (RX2, TX2, 14), rfl, by decide, List.mem_filter.mpr ⟨tt_1 (List.mem_of_getElem? (i := 69) rfl), rfl⟩⟩
theorem fl_RX6_120 : flk RX6 120 2 5 := ⟨by decide, (RX2, TX2, 14), rfl, by decide, List.mem_filter.mpr ⟨tt_1 (List.mem_of_getElem? (i := 70) rfl), rfl⟩⟩
theorem fl_RX11_110 : flk RX11 110 2 5 := ⟨by decide, (RX2, TX2, 14), rfl, by decide, List.mem_filter.mpr ⟨tt_1 (List.mem_of_getElem? (i := 71) rfl), rfl⟩⟩
theorem fl_RX7_61 : flk RX7 61 2 5 := ⟨by decide, (RX2, TX2, 14), rfl, by decide, List.mem_filter.mpr ⟨tt_1 (List.mem_of_getElem? (i := 72) rfl), rfl⟩⟩
theorem fl_RX2_32 : flk RX2 32 2 6 := ⟨by decide, (RX2, TX2, 14), rfl, by decide, List.mem_filter.mpr ⟨tt_1 (List.mem_of_getElem? (i := 73) rfl), rfl⟩⟩
theorem fl_RX10_68 : flk RX10 68 2 6 := ⟨by decide, (RX2, TX2, 14), rfl, by decide, List.mem_filter.mpr ⟨tt_1 (List.mem_of_getElem? (i := 74) rfl), rfl⟩⟩
theorem fl_RX6_126 : flk RX6 126 2 6 := ⟨by decide, (RX2, TX2, 14), rfl, by decide, List.mem_filter.mpr ⟨tt_1 (List.mem_of_getElem? (i := 75) rfl), rfl⟩⟩
theorem fl_RX11_113 : flk RX11 113 2 6 := ⟨by decide, (RX2, TX2, 14), rfl, by decide, List.mem_filter.mpr ⟨tt_1 (List.mem_of_getElem? (i := 76) rfl), rfl⟩⟩
theorem fl_RX2_35 : flk RX2 35 2 7 := ⟨by decide, (RX2, TX2, 14), rfl, by decide, List.mem_filter.mpr ⟨tt_1 (List.mem_of_getElem? (i := 77) rfl), rfl⟩⟩
theorem fl_RX11_129 : flk RX11 129 2 7 := ⟨by decide, (RX2, TX2, 14), rfl, by decide, List.mem_filter.mpr ⟨tt_1 (List.mem_of_getElem? (i := 78) rfl), rfl⟩⟩
theorem fl_RX6_141 : flk RX6 141 2 7 := ⟨by decide, (RX2, TX2, 14), rfl, by decide, List.mem_filter.mpr ⟨tt_1 (List.mem_of_getElem? (i := 79) rfl), rfl⟩⟩
theorem fl_RX7_109 : flk RX7 109 2 7 := ⟨by decide, (RX2, TX2, 14), rfl, by decide, List.mem_filter.mpr ⟨tt_1 (List.mem_of_getElem? (i := 80) rfl), rfl⟩⟩
theorem fl_RX4_103 : flk RX4 103 2 7 := ⟨by decide, (RX2, TX2, 14), rfl, by decide, List.mem_filter.mpr ⟨tt_1 (List.mem_of_getElem? (i := 81) rfl), rfl⟩⟩
theorem fl_RX2_38 : flk RX2 38 2 8 := ⟨by decide, (RX2, TX2, 14), rfl, by decide, List.mem_filter.mpr ⟨tt_1 (List.mem_of_getElem? (i := 82) rfl), rfl⟩⟩
theorem fl_RX11_132 : flk RX11 132 2 8 := ⟨by decide, (RX2, TX2, 14), rfl, by decide, List.mem_filter.mpr ⟨tt_1 (List.mem_of_getElem? (i := 83) rfl), rfl⟩⟩
theorem fl_RX6_138 : flk RX6 138 2 8 := ⟨by decide, (RX2, TX2, 14), rfl, by decide, List.mem_filter.mpr ⟨tt_1 (List.mem_of_getElem? (i := 84) rfl), rfl⟩⟩
theorem fl_RX7_121 : flk RX7 121 2 8 := ⟨by decide, (RX2, TX2, 14), rfl, by decide, List.mem_filter.mpr ⟨tt_1 (List.mem_of_getElem? (i := 85) rfl), rfl⟩⟩
theorem fl_RX2_41 : flk RX2 41 2 9 := ⟨by decide, (RX2, TX2, 14), rfl, by decide, List.mem_filter.mpr ⟨tt_1 (List.mem_of_getElem? (i := 86) rfl), rfl⟩⟩
theorem fl_RX7_42 : flk RX7 42 2 9 := ⟨by decide, (RX2, TX2, 14), rfl, by decide, List.mem_filter.mpr ⟨tt_1 (List.mem_of_getElem? (i := 87) rfl), rfl⟩⟩
theorem fl_RX6_132 : flk RX6 132 2 9 := ⟨by decide, (RX2, TX2, 14), rfl, by decide, List.mem_filter.mpr ⟨tt_1 (List.mem_of_getElem? (i := 88) rfl), rfl⟩⟩
theorem fl_RX2_44 : flk RX2 44 2 10 := ⟨by decide, (RX2, TX2, 14), rfl, by decide, List.mem_filter.mpr ⟨tt_1 (List.mem_of_getElem? (i := 89) rfl), rfl⟩⟩
theorem fl_RX7_45 : flk RX7 45 2 10 := ⟨by decide, (RX2, TX2, 14), rfl, by decide, List.mem_filter.mpr ⟨tt_1 (List.mem_of_getElem? (i := 90) rfl), rfl⟩⟩
theorem fl_RX6_135 : flk RX6 135 2 10 := ⟨by decide, (RX2, TX2, 14), rfl, by decide, List.mem_filter.mpr ⟨tt_1 (List.mem_of_getElem? (i := 91) rfl), rfl⟩⟩
theorem fl_RX2_47 : flk RX2 47 2 11 := ⟨by decide, (RX2, TX2, 14), rfl, by decide, List.mem_filter.mpr ⟨tt_1 (List.mem_of_getElem? (i := 92) rfl), rfl⟩⟩
theorem fl_RX6_144 : flk RX6 144 2 11 := ⟨by decide, (RX2, TX2, 14), rfl, by decide, List.mem_filter.mpr ⟨tt_1 (List.mem_of_getElem? (i := 93) rfl), rfl⟩⟩
theorem fl_RX7_103 : flk RX7 103 2 11 := ⟨by decide, (RX2, TX2, 14), rfl, by decide, List.mem_filter.mpr ⟨tt_1 (List.mem_of_getElem? (i := 94) rfl), rfl⟩⟩
theorem fl_RX2_50 : flk RX2 50 2 12 := ⟨by decide, (RX2, TX2, 14), rfl, by decide, List.mem_filter.mpr ⟨tt_1 (List.mem_of_getElem? (i := 95) rfl), rfl⟩⟩
theorem fl_RX6_87 : flk RX6 87 2 12 := ⟨by decide, (RX2, TX2, 14), rfl, by decide, List.mem_filter.mpr ⟨tt_1 (List.mem_of_getElem? (i := 96) rfl), rfl⟩⟩
theorem fl_RX7_58 : flk RX7 58 2 12 := ⟨by decide, (RX2, TX2, 14), rfl, by decide, List.mem_filter.mpr ⟨tt_1 (List.mem_of_getElem? (i := 97) rfl), rfl⟩⟩
theorem fl_RX2_53 : flk RX2 53 2 13 := ⟨by decide, (RX2, TX2, 14), rfl, by decide, List.mem_filter.mpr ⟨tt_1 (List.mem_of_getElem? (i := 98) rfl), rfl⟩⟩
theorem fl_RX6_93 : flk RX6 93 2 13 := ⟨by decide, (RX2, TX2, 14), rfl, by decide, List.mem_filter.mpr ⟨tt_1 (List.mem_of_getElem? (i := 99) rfl), rfl⟩⟩
theorem fl_RX7_106 : flk RX7 106 2 13 := ⟨by decide, (RX2, TX2, 14), rfl, by decide, List.mem_filter.mpr ⟨tt_1 (List.mem_of_getElem? (i := 100) rfl), rfl⟩⟩
theorem ac_byte : Cond.arrayClass .byte ∈ TW := List.mem_filter.mpr ⟨tt_1 (List.mem_of_getElem? (i := 130) rfl), rfl⟩
theorem ac_int : Cond.arrayClass .int ∈ TW := List.mem_filter.mpr ⟨tt_1 (List.mem_of_getElem? (i := 131) rfl), rfl⟩
theorem fl_RX6_11 : flk RX6 11 6 0 := ⟨by decide, (RX6, TX6, 13), rfl, by decide, List.mem_filter.mpr ⟨tt_1 (List.mem_of_getElem? (i := 132) rfl), rfl⟩⟩
theorem fl_RX6_15 : flk RX6 15 6 1 := ⟨by decide, (RX6, TX6, 13), rfl, by decide, List.mem_filter.mpr ⟨tt_1 (List.mem_of_getElem? (i := 133) rfl), rfl⟩⟩
theorem fl_RX11_67 : flk RX11 67 6 1 := ⟨by decide, (RX6, TX6, 13), rfl, by decide, List.mem_filter.mpr ⟨tt_1 (List.mem_of_getElem? (i := 134) rfl), rfl⟩⟩
theorem fl_RX6_19 : flk RX6 19 6 2 := ⟨by decide, (RX6, TX6, 13), rfl, by decide, List.mem_filter.mpr ⟨tt_1 (List.mem_of_getElem? (i := 135) rfl), rfl⟩⟩
theorem fl_RX6_22 : flk RX6 22 6 3 := ⟨by decide, (RX6, TX6, 13), rfl, by decide, List.mem_filter.mpr ⟨tt_1 (List.mem_of_getElem? (i := 136) rfl), rfl⟩⟩
theorem fl_RX6_25 : flk RX6 25 6 4 := ⟨by decide, (RX6, TX6, 13), rfl, by decide, List.mem_filter.mpr ⟨tt_1 (List.mem_of_getElem? (i := 137) rfl), rfl⟩⟩
theorem fl_RX6_28 : flk RX6 28 6 5 := ⟨by decide, (RX6, TX6, 13), rfl, by decide, List.mem_filter.mpr ⟨tt_1 (List.mem_of_getElem? (i := 138) rfl), rfl⟩⟩
theorem fl_RX6_31 : flk RX6 31 6 6 := ⟨by decide, (RX6, TX6, 13), rfl, by decide, List.mem_filter.mpr ⟨tt_1 (List.mem_of_getElem? (i := 139) rfl), rfl⟩⟩
theorem fl_RX6_37 : flk RX6 37 6 7 := ⟨by decide, (RX6, TX6, 13), rfl, by decide, List.mem_filter.mpr ⟨tt_1 (List.mem_of_getElem? (i := 140) rfl), rfl⟩⟩
theorem fl_RX6_41 : flk RX6 41 6 8 := ⟨by decide, (RX6, TX6, 13), rfl, by decide, List.mem_filter.mpr ⟨tt_1 (List.mem_of_getElem? (i := 141) rfl), rfl⟩⟩
theorem fl_RX6_45 : flk RX6 45 6 9 := ⟨by decide, (RX6, TX6, 13), rfl, by decide, List.mem_filter.mpr ⟨tt_1 (List.mem_of_getElem? (i := 142) rfl), rfl⟩⟩
theorem fl_RX6_49 : flk RX6 49 6 10 := ⟨by decide, (RX6, TX6, 13), rfl, by decide, List.mem_filter.mpr ⟨tt_1 (List.mem_of_getElem? (i := 143) rfl), rfl⟩⟩
theorem fl_RX6_52 : flk RX6 52 6 11 := ⟨by decide, (RX6, TX6, 13), rfl, by decide, List.mem_filter.mpr ⟨tt_1 (List.mem_of_getElem? (i := 144) rfl), rfl⟩⟩
theorem fl_RX11_82 : flk RX11 82 6 11 := ⟨by decide, (RX6, TX6, 13), rfl, by decide, List.mem_filter.mpr ⟨tt_1 (List.mem_of_getElem? (i := 145) rfl), rfl⟩⟩
theorem fl_RX6_55 : flk RX6 55 6 12 := ⟨by decide, (RX6, TX6, 13), rfl, by decide, List.mem_filter.mpr ⟨tt_1 (List.mem_of_getElem? (i := 146) rfl), rfl⟩⟩
theorem fl_RX11_97 : flk RX11 97 6 12 := ⟨by decide, (RX6, TX6, 13), rfl, by decide, List.mem_filter.mpr ⟨tt_1 (List.mem_of_getElem? (i := 147) rfl), rfl⟩⟩
theorem cl_RX11_16 : Cond.classLink RX11 16 RX7 ∈ TW := List.mem_filter.mpr ⟨tt_1 (List.mem_of_getElem? (i := 175) rfl), rfl⟩
theorem ib_RX7 : Cond.instantiable RX7 4 ∈ TW := List.mem_filter.mpr ⟨tt_1 (List.mem_of_getElem? (i := 176) rfl), rfl⟩
theorem im_X7_init : Cond.instanceMethod yX7_init ∈ TW := List.mem_filter.mpr ⟨tt_1 (List.mem_of_getElem? (i := 178) rfl), rfl⟩
theorem cd_X7_init : Cond.code yX7_init cX7_init 1 none ∈ TW := List.mem_filter.mpr ⟨tt_1 (List.mem_of_getElem? (i := 179) rfl), rfl⟩
theorem ml_RX7_3 : Cond.methodLink RX7 3 Lib.objectInit ∈ TW := List.mem_filter.mpr ⟨tt_1 (List.mem_of_getElem? (i := 180) rfl), rfl⟩
theorem cl_RX7_9 : Cond.classLink RX7 9 RX2 ∈ TW := List.mem_filter.mpr ⟨tt_1 (List.mem_of_getElem? (i := 181) rfl), rfl⟩
theorem cl_RX7_22 : Cond.classLink RX7 22 RX3 ∈ TW := List.mem_filter.mpr ⟨tt_1 (List.mem_of_getElem? (i := 183) rfl), rfl⟩
theorem ib_RX3 : Cond.instantiable RX3 2 ∈ TW := List.mem_filter.mpr ⟨tt_1 (List.mem_of_getElem? (i := 184) rfl), rfl⟩
theorem im_X3_init : Cond.instanceMethod yX3_init ∈ TW := List.mem_filter.mpr ⟨tt_1 (List.mem_of_getElem? (i := 186) rfl), rfl⟩
theorem cd_X3_init : Cond.code yX3_init cX3_init 1 none ∈ TW := List.mem_filter.mpr ⟨tt_1 (List.mem_of_getElem? (i := 187) rfl), rfl⟩
theorem ml_RX3_1 : Cond.methodLink RX3 1 Lib.objectInit ∈ TW := List.mem_filter.mpr ⟨tt_1 (List.mem_of_getElem? (i := 188) rfl), rfl⟩
theorem fl_RX3_7 : flk RX3 7 3 0 := ⟨by decide, (RX3, TX3, 2), rfl, by decide, List.mem_filter.mpr ⟨tt_1 (List.mem_of_getElem? (i := 189) rfl), rfl⟩⟩
theorem fl_RX7_68 : flk RX7 68 3 0 := ⟨by decide, (RX3, TX3, 2), rfl, by decide, List.mem_filter.mpr ⟨tt_1 (List.mem_of_getElem? (i := 190) rfl), rfl⟩⟩
theorem fl_RX3_13 : flk RX3 13 3 1 := ⟨by decide, (RX3, TX3, 2), rfl, by decide, List.mem_filter.mpr ⟨tt_1 (List.mem_of_getElem? (i := 191) rfl), rfl⟩⟩
theorem fl_RX7_12 : flk RX7 12 7 0 := ⟨by decide, (RX7, TX7, 4), rfl, by decide, List.mem_filter.mpr ⟨tt_1 (List.mem_of_getElem? (i := 197) rfl), rfl⟩⟩
theorem fl_RX10_47 : flk RX10 47 7 0 := ⟨by decide, (RX7, TX7, 4), rfl, by decide, List.mem_filter.mpr ⟨tt_1 (List.mem_of_getElem? (i := 198) rfl), rfl⟩⟩
theorem fl_RX8_59 : flk RX8 59 7 0 := ⟨by decide, (RX7, TX7, 4), rfl, by decide, List.mem_filter.mpr ⟨tt_1 (List.mem_of_getElem? (i := 199) rfl), rfl⟩⟩
theorem fl_RX11_106 : flk RX11 106 7 0 := ⟨by decide, (RX7, TX7, 4), rfl, by decide, List.mem_filter.mpr ⟨tt_1 (List.mem_of_getElem? (i := 200) rfl), rfl⟩⟩
theorem fl_RX4_72 : flk RX4 72 7 0 := ⟨by decide, (RX7, TX7, 4), rfl, by decide, List.mem_filter.mpr ⟨tt_1 (List.mem_of_getElem? (i := 201) rfl), rfl⟩⟩
theorem fl_RX7_18 : flk RX7 18 7 1 := ⟨by decide, (RX7, TX7, 4), rfl, by decide, List.mem_filter.mpr ⟨tt_1 (List.mem_of_getElem? (i := 202) rfl), rfl⟩⟩
theorem fl_RX10_44 : flk RX10 44 7 1 := ⟨by decide, (RX7, TX7, 4), rfl, by decide, List.mem_filter.mpr ⟨tt_1 (List.mem_of_getElem? (i := 203) rfl), rfl⟩⟩
theorem fl_RX4_28 : flk RX4 28 7 1 := ⟨by decide, (RX7, TX7, 4), rfl, by decide, List.mem_filter.mpr ⟨tt_1 (List.mem_of_getElem? (i := 204) rfl), rfl⟩⟩
theorem fl_RX8_38 : flk RX8 38 7 1 := ⟨by decide, (RX7, TX7, 4), rfl, by decide, List.mem_filter.mpr ⟨tt_1 (List.mem_of_getElem? (i := 205) rfl), rfl⟩⟩
theorem fl_RX0_54 : flk RX0 54 7 1 := ⟨by decide, (RX7, TX7, 4), rfl, by decide, List.mem_filter.mpr ⟨tt_1 (List.mem_of_getElem? (i := 206) rfl), rfl⟩⟩
theorem fl_RX11_103 : flk RX11 103 7 1 := ⟨by decide, (RX7, TX7, 4), rfl, by decide, List.mem_filter.mpr ⟨tt_1 (List.mem_of_getElem? (i := 207) rfl), rfl⟩⟩
theorem fl_RX7_25 : flk RX7 25 7 2 := ⟨by decide, (RX7, TX7, 4), rfl, by decide, List.mem_filter.mpr ⟨tt_1 (List.mem_of_getElem? (i := 208) rfl), rfl⟩⟩
theorem fl_RX7_29 : flk RX7 29 7 3 := ⟨by decide, (RX7, TX7, 4), rfl, by decide, List.mem_filter.mpr ⟨tt_1 (List.mem_of_getElem? (i := 209) rfl), rfl⟩⟩
theorem cl_RX11_23 : Cond.classLink RX11 23 RX5 ∈ TW := List.mem_filter.mpr ⟨tt_1 (List.mem_of_getElem? (i := 219) rfl), rfl⟩
theorem ib_RX5 : Cond.instantiable RX5 3 ∈ TW := List.mem_filter.mpr ⟨tt_1 (List.mem_of_getElem? (i := 220) rfl), rfl⟩
theorem im_X5_init : Cond.instanceMethod yX5_init ∈ TW := List.mem_filter.mpr ⟨tt_1 (List.mem_of_getElem? (i := 222) rfl), rfl⟩
theorem cd_X5_init : Cond.code yX5_init cX5_init 1 none ∈ TW := List.mem_filter.mpr ⟨tt_1 (List.mem_of_getElem? (i := 223) rfl), rfl⟩
theorem ml_RX5_3 : Cond.methodLink RX5 3 Lib.objectInit ∈ TW := List.mem_filter.mpr ⟨tt_1 (List.mem_of_getElem? (i := 224) rfl), rfl⟩
theorem fl_RX5_9 : flk RX5 9 5 0 := ⟨by decide, (RX5, TX5, 3), rfl, by decide, List.mem_filter.mpr ⟨tt_1 (List.mem_of_getElem? (i := 225) rfl), rfl⟩⟩
theorem fl_RX5_15 : flk RX5 15 5 1 := ⟨by decide, (RX5, TX5, 3), rfl, by decide, List.mem_filter.mpr ⟨tt_1 (List.mem_of_getElem? (i := 226) rfl), rfl⟩⟩
theorem fl_RX5_19 : flk RX5 19 5 2 := ⟨by decide, (RX5, TX5, 3), rfl, by decide, List.mem_filter.mpr ⟨tt_1 (List.mem_of_getElem? (i := 227) rfl), rfl⟩⟩
theorem fl_RX11_89 : flk RX11 89 5 2 := ⟨by decide, (RX5, TX5, 3), rfl, by decide, List.mem_filter.mpr ⟨tt_1 (List.mem_of_getElem? (i := 228) rfl), rfl⟩⟩
theorem cl_RX11_34 : Cond.classLink RX11 34 RX9 ∈ TW := List.mem_filter.mpr ⟨tt_1 (List.mem_of_getElem? (i := 236) rfl), rfl⟩
theorem cl_RX11_40 : Cond.classLink RX11 40 RX1 ∈ TW := List.mem_filter.mpr ⟨tt_1 (List.mem_of_getElem? (i := 238) rfl), rfl⟩
theorem ib_RX9 : Cond.instantiable RX9 3 ∈ TW := List.mem_filter.mpr ⟨tt_2 (List.mem_of_getElem? (i := 0) rfl), rfl⟩
theorem im_X9_init : Cond.instanceMethod yX9_init ∈ TW := List.mem_filter.mpr ⟨tt_2 (List.mem_of_getElem? (i := 2) rfl), rfl⟩
theorem cd_X9_init : Cond.code yX9_init cX9_init 1 none ∈ TW := List.mem_filter.mpr ⟨tt_2 (List.mem_of_getElem? (i := 3) rfl), rfl⟩
theorem ml_RX9_3 : Cond.methodLink RX9 3 Lib.objectInit ∈ TW := List.mem_filter.mpr ⟨tt_2 (List.mem_of_getElem? (i := 4) rfl), rfl⟩
theorem fl_RX9_9 : flk RX9 9 9 0 := ⟨by decide, (RX9, TX9, 3), rfl, by decide, List.mem_filter.mpr ⟨tt_2 (List.mem_of_getElem? (i := 5) rfl), rfl⟩⟩
theorem fl_RX11_354 : flk RX11 354 9 0 := ⟨by decide, (RX9, TX9, 3), rfl, by decide, List.mem_filter.mpr ⟨tt_2 (List.mem_of_getElem? (i := 6) rfl), rfl⟩⟩
theorem fl_RX9_15 : flk RX9 15 9 1 := ⟨by decide, (RX9, TX9, 3), rfl, by decide, List.mem_filter.mpr ⟨tt_2 (List.mem_of_getElem? (i := 7) rfl), rfl⟩⟩
theorem fl_RX0_36 : flk RX0 36 9 1 := ⟨by decide, (RX9, TX9, 3), rfl, by decide, List.mem_filter.mpr ⟨tt_2 (List.mem_of_getElem? (i := 8) rfl), rfl⟩⟩
theorem fl_RX8_29 : flk RX8 29 9 1 := ⟨by decide, (RX9, TX9, 3), rfl, by decide, List.mem_filter.mpr ⟨tt_2 (List.mem_of_getElem? (i := 9) rfl), rfl⟩⟩
theorem fl_RX11_216 : flk RX11 216 9 1 := ⟨by decide, (RX9, TX9, 3), rfl, by decide, List.mem_filter.mpr ⟨tt_2 (List.mem_of_getElem? (i := 10) rfl), rfl⟩⟩
theorem fl_RX9_18 : flk RX9 18 9 2 := ⟨by decide, (RX9, TX9, 3), rfl, by decide, List.mem_filter.mpr ⟨tt_2 (List.mem_of_getElem? (i := 11) rfl), rfl⟩⟩
theorem fl_RX8_32 : flk RX8 32 9 2 := ⟨by decide, (RX9, TX9, 3), rfl, by decide, List.mem_filter.mpr ⟨tt_2 (List.mem_of_getElem? (i := 12) rfl), rfl⟩⟩
theorem fl_RX0_45 : flk RX0 45 9 2 := ⟨by decide, (RX9, TX9, 3), rfl, by decide, List.mem_filter.mpr ⟨tt_2 (List.mem_of_getElem? (i := 13) rfl), rfl⟩⟩
theorem fl_RX11_217 : flk RX11 217 9 2 := ⟨by decide, (RX9, TX9, 3), rfl, by decide, List.mem_filter.mpr ⟨tt_2 (List.mem_of_getElem? (i := 14) rfl), rfl⟩⟩
theorem ac_long : Cond.arrayClass .long ∈ TW := List.mem_filter.mpr ⟨tt_2 (List.mem_of_getElem? (i := 22) rfl), rfl⟩
theorem fl_RX11_12 : flk RX11 12 11 0 := ⟨by decide, (RX11, TX11, 11), rfl, by decide, List.mem_filter.mpr ⟨tt_2 (List.mem_of_getElem? (i := 23) rfl), rfl⟩⟩
theorem fl_RX11_19 : flk RX11 19 11 1 := ⟨by decide, (RX11, TX11, 11), rfl, by decide, List.mem_filter.mpr ⟨tt_2 (List.mem_of_getElem? (i := 24) rfl), rfl⟩⟩
theorem fl_RX11_26 : flk RX11 26 11 2 := ⟨by decide, (RX11, TX11, 11), rfl, by decide, List.mem_filter.mpr ⟨tt_2 (List.mem_of_getElem? (i := 25) rfl), rfl⟩⟩
theorem fl_RX11_30 : flk RX11 30 11 3 := ⟨by decide, (RX11, TX11, 11), rfl, by decide, List.mem_filter.mpr ⟨tt_2 (List.mem_of_getElem? (i := 26) rfl), rfl⟩⟩
theorem fl_RX11_36 : flk RX11 36 11 4 := ⟨by decide, (RX11, TX11, 11), rfl, by decide, List.mem_filter.mpr ⟨tt_2 (List.mem_of_getElem? (i := 27) rfl), rfl⟩⟩
theorem fl_RX11_42 : flk RX11 42 11 5 := ⟨by decide, (RX11, TX11, 11), rfl, by decide, List.mem_filter.mpr ⟨tt_2 (List.mem_of_getElem? (i := 28) rfl), rfl⟩⟩
theorem fl_RX11_46 : flk RX11 46 11 6 := ⟨by decide, (RX11, TX11, 11), rfl, by decide, List.mem_filter.mpr ⟨tt_2 (List.mem_of_getElem? (i := 29) rfl), rfl⟩⟩
theorem fl_RX11_50 : flk RX11 50 11 7 := ⟨by decide, (RX11, TX11, 11), rfl, by decide, List.mem_filter.mpr ⟨tt_2 (List.mem_of_getElem? (i := 30) rfl), rfl⟩⟩
theorem fl_RX11_54 : flk RX11 54 11 8 := ⟨by decide, (RX11, TX11, 11), rfl, by decide, List.mem_filter.mpr ⟨tt_2 (List.mem_of_getElem? (i := 31) rfl), rfl⟩⟩
theorem fl_RX11_58 : flk RX11 58 11 9 := ⟨by decide, (RX11, TX11, 11), rfl, by decide, List.mem_filter.mpr ⟨tt_2 (List.mem_of_getElem? (i := 32) rfl), rfl⟩⟩
theorem fl_RX11_62 : flk RX11 62 11 10 := ⟨by decide, (RX11, TX11, 11), rfl, by decide, List.mem_filter.mpr ⟨tt_2 (List.mem_of_getElem? (i := 33) rfl), rfl⟩⟩
theorem ml_RL_159 : Cond.methodLink RL 159 yX11_feed ∈ TW := List.mem_filter.mpr ⟨tt_2 (List.mem_of_getElem? (i := 57) rfl), rfl⟩
theorem im_X11_feed : Cond.instanceMethod yX11_feed ∈ TW := List.mem_filter.mpr ⟨tt_2 (List.mem_of_getElem? (i := 58) rfl), rfl⟩
theorem se_X11_feed : Cond.selects yX11_feed.cls yX11_feed yX11_feed ∈ TW := List.mem_filter.mpr ⟨tt_2 (List.mem_of_getElem? (i := 59) rfl), rfl⟩
theorem cd_X11_feed : Cond.code yX11_feed cX11_feed 6 (some .int) ∈ TW := List.mem_filter.mpr ⟨tt_2 (List.mem_of_getElem? (i := 60) rfl), rfl⟩
theorem ml_RX11_70 : Cond.methodLink RX11 70 yX6_append ∈ TW := List.mem_filter.mpr ⟨tt_2 (List.mem_of_getElem? (i := 61) rfl), rfl⟩
theorem im_X6_append : Cond.instanceMethod yX6_append ∈ TW := List.mem_filter.mpr ⟨tt_2 (List.mem_of_getElem? (i := 62) rfl), rfl⟩
theorem se_X6_append : Cond.selects yX6_append.cls yX6_append yX6_append ∈ TW := List.mem_filter.mpr ⟨tt_2 (List.mem_of_getElem? (i := 63) rfl), rfl⟩
theorem cd_X6_append : Cond.code yX6_append cX6_append 3 none ∈ TW := List.mem_filter.mpr ⟨tt_2 (List.mem_of_getElem? (i := 64) rfl), rfl⟩
theorem ml_RL_174 : Cond.methodLink RL 174 yX11_fault ∈ TW := List.mem_filter.mpr ⟨tt_2 (List.mem_of_getElem? (i := 65) rfl), rfl⟩
theorem im_X11_fault : Cond.instanceMethod yX11_fault ∈ TW := List.mem_filter.mpr ⟨tt_2 (List.mem_of_getElem? (i := 66) rfl), rfl⟩
theorem se_X11_fault : Cond.selects yX11_fault.cls yX11_fault yX11_fault ∈ TW := List.mem_filter.mpr ⟨tt_2 (List.mem_of_getElem? (i := 67) rfl), rfl⟩
theorem cd_X11_fault : Cond.code yX11_fault cX11_fault 2 (some .int) ∈ TW := List.mem_filter.mpr ⟨tt_2 (List.mem_of_getElem? (i := 68) rfl), rfl⟩
theorem ml_RL_247 : Cond.methodLink RL 247 yX11_alwaysBarred ∈ TW := List.mem_filter.mpr ⟨tt_2 (List.mem_of_getElem? (i := 69) rfl), rfl⟩
theorem im_X11_alwaysBarred : Cond.instanceMethod yX11_alwaysBarred ∈ TW := List.mem_filter.mpr ⟨tt_2 (List.mem_of_getElem? (i := 70) rfl), rfl⟩
theorem se_X11_alwaysBarred : Cond.selects yX11_alwaysBarred.cls yX11_alwaysBarred yX11_alwaysBarred ∈ TW := List.mem_filter.mpr ⟨tt_2 (List.mem_of_getElem? (i := 71) rfl), rfl⟩
theorem cd_X11_alwaysBarred : Cond.code yX11_alwaysBarred cX11_alwaysBarred 5 (some .int) ∈ TW := List.mem_filter.mpr ⟨tt_2 (List.mem_of_getElem? (i := 72) rfl), rfl⟩
theorem ml_RX11_142 : Cond.methodLink RX11 142 yX7_codeIn ∈ TW := List.mem_filter.mpr ⟨tt_2 (List.mem_of_getElem? (i := 73) rfl), rfl⟩
theorem im_X7_codeIn : Cond.instanceMethod yX7_codeIn ∈ TW := List.mem_filter.mpr ⟨tt_2 (List.mem_of_getElem? (i := 74) rfl), rfl⟩
theorem se_X7_codeIn : Cond.selects yX7_codeIn.cls yX7_codeIn yX7_codeIn ∈ TW := List.mem_filter.mpr ⟨tt_2 (List.mem_of_getElem? (i := 75) rfl), rfl⟩
theorem cd_X7_codeIn : Cond.code yX7_codeIn cX7_codeIn 3 (some .int) ∈ TW := List.mem_filter.mpr ⟨tt_2 (List.mem_of_getElem? (i := 76) rfl), rfl⟩
theorem ml_RX7_92 : Cond.methodLink RX7 92 yX7_degreeIn ∈ TW := List.mem_filter.mpr ⟨tt_2 (List.mem_of_getElem? (i := 77) rfl), rfl⟩
theorem im_X7_degreeIn : Cond.instanceMethod yX7_degreeIn ∈ TW := List.mem_filter.mpr ⟨tt_2 (List.mem_of_getElem? (i := 78) rfl), rfl⟩
theorem se_X7_degreeIn : Cond.selects yX7_degreeIn.cls yX7_degreeIn yX7_degreeIn ∈ TW := List.mem_filter.mpr ⟨tt_2 (List.mem_of_getElem? (i := 79) rfl), rfl⟩
theorem cd_X7_degreeIn : Cond.code yX7_degreeIn cX7_degreeIn 6 (some .int) ∈ TW := List.mem_filter.mpr ⟨tt_2 (List.mem_of_getElem? (i := 80) rfl), rfl⟩
theorem ml_RX7_54 : Cond.methodLink RX7 54 yX7_laidOn ∈ TW := List.mem_filter.mpr ⟨tt_2 (List.mem_of_getElem? (i := 81) rfl), rfl⟩
theorem im_X7_laidOn : Cond.instanceMethod yX7_laidOn ∈ TW := List.mem_filter.mpr ⟨tt_2 (List.mem_of_getElem? (i := 82) rfl), rfl⟩
theorem se_X7_laidOn : Cond.selects yX7_laidOn.cls yX7_laidOn yX7_laidOn ∈ TW := List.mem_filter.mpr ⟨tt_2 (List.mem_of_getElem? (i := 83) rfl), rfl⟩
theorem cd_X7_laidOn : Cond.code yX7_laidOn cX7_laidOn 4 (some .int) ∈ TW := List.mem_filter.mpr ⟨tt_2 (List.mem_of_getElem? (i := 84) rfl), rfl⟩
theorem ml_RX7_64 : Cond.methodLink RX7 64 yX7_keptDegree ∈ TW := List.mem_filter.mpr ⟨tt_2 (List.mem_of_getElem? (i := 85) rfl), rfl⟩
theorem sm_X7_keptDegree : Cond.static yX7_keptDegree ∈ TW := List.mem_filter.mpr ⟨tt_2 (List.mem_of_getElem? (i := 86) rfl), rfl⟩
theorem cd_X7_keptDegree : Cond.code yX7_keptDegree cX7_keptDegree 1 (some .int) ∈ TW := List.mem_filter.mpr ⟨tt_2 (List.mem_of_getElem? (i := 87) rfl), rfl⟩
theorem ml_RX7_86 : Cond.methodLink RX7 86 Lib.Math.min.name ∈ TW := List.mem_filter.mpr ⟨tt_2 (List.mem_of_getElem? (i := 88) rfl), rfl⟩
theorem sm_J9_min_7cf53 : Cond.static yJ9_min_7cf53 ∈ TW := List.mem_filter.mpr ⟨tt_2 (List.mem_of_getElem? (i := 89) rfl), rfl⟩
theorem sm_mmin : Cond.static Lib.Math.min.name ∈ TW := List.mem_filter.mpr ⟨tt_2 (List.mem_of_getElem? (i := 89) rfl), rfl⟩
theorem cd_J9_min_7cf53 : Cond.code yJ9_min_7cf53 cJ9_min_7cf53 2 (some .int) ∈ TW := List.mem_filter.mpr ⟨tt_2 (List.mem_of_getElem? (i := 90) rfl), rfl⟩
theorem cd_mmin : Cond.code Lib.Math.min.name Lib.Math.min.code 2 (some .int) ∈ TW := List.mem_filter.mpr ⟨tt_2 (List.mem_of_getElem? (i := 90) rfl), rfl⟩
theorem ml_RX7_89 : Cond.methodLink RX7 89 Lib.Math.max.name ∈ TW := List.mem_filter.mpr ⟨tt_2 (List.mem_of_getElem? (i := 91) rfl), rfl⟩
theorem sm_J9_max_7cf53 : Cond.static yJ9_max_7cf53 ∈ TW := List.mem_filter.mpr ⟨tt_2 (List.mem_of_getElem? (i := 92) rfl), rfl⟩
theorem sm_mmax : Cond.static Lib.Math.max.name ∈ TW := List.mem_filter.mpr ⟨tt_2 (List.mem_of_getElem? (i := 92) rfl), rfl⟩
theorem cd_J9_max_7cf53 : Cond.code yJ9_max_7cf53 cJ9_max_7cf53 2 (some .int) ∈ TW := List.mem_filter.mpr ⟨tt_2 (List.mem_of_getElem? (i := 93) rfl), rfl⟩
theorem cd_mmax : Cond.code Lib.Math.max.name Lib.Math.max.code 2 (some .int) ∈ TW := List.mem_filter.mpr ⟨tt_2 (List.mem_of_getElem? (i := 93) rfl), rfl⟩
theorem ml_RX7_73 : Cond.methodLink RX7 73 yX7_hourOfDay ∈ TW := List.mem_filter.mpr ⟨tt_2 (List.mem_of_getElem? (i := 94) rfl), rfl⟩
theorem sm_X7_hourOfDay : Cond.static yX7_hourOfDay ∈ TW := List.mem_filter.mpr ⟨tt_2 (List.mem_of_getElem? (i := 95) rfl), rfl⟩
theorem cd_X7_hourOfDay : Cond.code yX7_hourOfDay cX7_hourOfDay 1 (some .int) ∈ TW := List.mem_filter.mpr ⟨tt_2 (List.mem_of_getElem? (i := 96) rfl), rfl⟩
theorem ml_RX7_80 : Cond.methodLink RX7 80 yJ9_floorMod_7cf53 ∈ TW := List.mem_filter.mpr ⟨tt_2 (List.mem_of_getElem? (i := 97) rfl), rfl⟩
theorem sm_J9_floorMod_7cf53 : Cond.static yJ9_floorMod_7cf53 ∈ TW := List.mem_filter.mpr ⟨tt_2 (List.mem_of_getElem? (i := 98) rfl), rfl⟩
theorem cd_J9_floorMod_7cf53 : Cond.code yJ9_floorMod_7cf53 cJ9_floorMod_7cf53 3 (some .int) ∈ TW := List.mem_filter.mpr ⟨tt_2 (List.mem_of_getElem? (i := 99) rfl), rfl⟩
theorem ml_RX7_76 : Cond.methodLink RX7 76 yX3_valueOf ∈ TW := List.mem_filter.mpr ⟨tt_2 (List.mem_of_getElem? (i := 100) rfl), rfl⟩
theorem im_X3_valueOf : Cond.instanceMethod yX3_valueOf ∈ TW := List.mem_filter.mpr ⟨tt_2 (List.mem_of_getElem? (i := 101) rfl), rfl⟩
theorem se_X3_valueOf : Cond.selects yX3_valueOf.cls yX3_valueOf yX3_valueOf ∈ TW := List.mem_filter.mpr ⟨tt_2 (List.mem_of_getElem? (i := 102) rfl), rfl⟩
theorem cd_X3_valueOf : Cond.code yX3_valueOf cX3_valueOf 11 (some .int) ∈ TW := List.mem_filter.mpr ⟨tt_2 (List.mem_of_getElem? (i := 103) rfl), rfl⟩
theorem kl_RX3_16 : Cond.constantLong RX3 16 (1000000 : Int64) ∈ TW := List.mem_filter.mpr ⟨tt_2 (List.mem_of_getElem? (i := 104) rfl), rfl⟩
theorem kl_RX3_18 : Cond.constantLong RX3 18 (-1000000 : Int64) ∈ TW := List.mem_filter.mpr ⟨tt_2 (List.mem_of_getElem? (i := 105) rfl), rfl⟩
theorem ml_RX7_95 : Cond.methodLink RX7 95 yX7_liveActs ∈ TW := List.mem_filter.mpr ⟨tt_2 (List.mem_of_getElem? (i := 106) rfl), rfl⟩
theorem im_X7_liveActs : Cond.instanceMethod yX7_liveActs ∈ TW := List.mem_filter.mpr ⟨tt_2 (List.mem_of_getElem? (i := 107) rfl), rfl⟩
theorem se_X7_liveActs : Cond.selects yX7_liveActs.cls yX7_liveActs yX7_liveActs ∈ TW := List.mem_filter.mpr ⟨tt_2 (List.mem_of_getElem? (i := 108) rfl), rfl⟩
theorem cd_X7_liveActs : Cond.code yX7_liveActs cX7_liveActs 1 (some .int) ∈ TW := List.mem_filter.mpr ⟨tt_2 (List.mem_of_getElem? (i := 109) rfl), rfl⟩
theorem ml_RX7_99 : Cond.methodLink RX7 99 yX7_inForce ∈ TW := List.mem_filter.mpr ⟨tt_2 (List.mem_of_getElem? (i := 110) rfl), rfl⟩
theorem im_X7_inForce : Cond.instanceMethod yX7_inForce ∈ TW := List.mem_filter.mpr ⟨tt_2 (List.mem_of_getElem? (i := 111) rfl), rfl⟩
theorem se_X7_inForce : Cond.selects yX7_inForce.cls yX7_inForce yX7_inForce ∈ TW := List.mem_filter.mpr ⟨tt_2 (List.mem_of_getElem? (i := 112) rfl), rfl⟩
theorem cd_X7_inForce : Cond.code yX7_inForce cX7_inForce 9 (some .int) ∈ TW := List.mem_filter.mpr ⟨tt_2 (List.mem_of_getElem? (i := 113) rfl), rfl⟩
theorem ml_RX7_112 : Cond.methodLink RX7 112 yJ6_bitCount_0f7a4 ∈ TW := List.mem_filter.mpr ⟨tt_2 (List.mem_of_getElem? (i := 114) rfl), rfl⟩
theorem sm_J6_bitCount_0f7a4 : Cond.static yJ6_bitCount_0f7a4 ∈ TW := List.mem_filter.mpr ⟨tt_2 (List.mem_of_getElem? (i := 115) rfl), rfl⟩
theorem cd_J6_bitCount_0f7a4 : Cond.code yJ6_bitCount_0f7a4 cJ6_bitCount_0f7a4 1 (some .int) ∈ TW := List.mem_filter.mpr ⟨tt_2 (List.mem_of_getElem? (i := 116) rfl), rfl⟩
theorem kc_RJ6_265 : Cond.constant RJ6 265 (1431655765 : Int32) ∈ TW := List.mem_filter.mpr ⟨tt_2 (List.mem_of_getElem? (i := 117) rfl), rfl⟩
theorem kc_RJ6_266 : Cond.constant RJ6 266 (858993459 : Int32) ∈ TW := List.mem_filter.mpr ⟨tt_2 (List.mem_of_getElem? (i := 118) rfl), rfl⟩
theorem kc_RJ6_267 : Cond.constant RJ6 267 (252645135 : Int32) ∈ TW := List.mem_filter.mpr ⟨tt_2 (List.mem_of_getElem? (i := 119) rfl), rfl⟩
theorem ml_RX7_117 : Cond.methodLink RX7 117 yX7_prevails ∈ TW := List.mem_filter.mpr ⟨tt_2 (List.mem_of_getElem? (i := 120) rfl), rfl⟩
theorem im_X7_prevails : Cond.instanceMethod yX7_prevails ∈ TW := List.mem_filter.mpr ⟨tt_2 (List.mem_of_getElem? (i := 122) rfl), rfl⟩
theorem cd_X7_prevails : Cond.code yX7_prevails cX7_prevails 8 (some .boolean) ∈ TW := List.mem_filter.mpr ⟨tt_2 (List.mem_of_getElem? (i := 123) rfl), rfl⟩
theorem ml_RX11_255 : Cond.methodLink RX11 255 yX2_kindsOf ∈ TW := List.mem_filter.mpr ⟨tt_2 (List.mem_of_getElem? (i := 124) rfl), rfl⟩
theorem im_X2_kindsOf : Cond.instanceMethod yX2_kindsOf ∈ TW := List.mem_filter.mpr ⟨tt_2 (List.mem_of_getElem? (i := 125) rfl), rfl⟩
theorem se_X2_kindsOf : Cond.selects yX2_kindsOf.cls yX2_kindsOf yX2_kindsOf ∈ TW := List.mem_filter.mpr ⟨tt_2 (List.mem_of_getElem? (i := 126) rfl), rfl⟩
theorem cd_X2_kindsOf : Cond.code yX2_kindsOf cX2_kindsOf 4 (some .int) ∈ TW := List.mem_filter.mpr ⟨tt_2 (List.mem_of_getElem? (i := 127) rfl), rfl⟩
theorem ml_RL_251 : Cond.methodLink RL 251 yX11_strictest ∈ TW := List.mem_filter.mpr ⟨tt_2 (List.mem_of_getElem? (i := 128) rfl), rfl⟩
theorem im_X11_strictest : Cond.instanceMethod yX11_strictest ∈ TW := List.mem_filter.mpr ⟨tt_2 (List.mem_of_getElem? (i := 129) rfl), rfl⟩
theorem se_X11_strictest : Cond.selects yX11_strictest.cls yX11_strictest yX11_strictest ∈ TW := List.mem_filter.mpr ⟨tt_2 (List.mem_of_getElem? (i := 130) rfl), rfl⟩
theorem cd_X11_strictest : Cond.code yX11_strictest cX11_strictest 6 (some .int) ∈ TW := List.mem_filter.mpr ⟨tt_2 (List.mem_of_getElem? (i := 131) rfl), rfl⟩
theorem ml_RX11_189 : Cond.methodLink RX11 189 yJ6_bitCount_0f7a4 ∈ TW := List.mem_filter.mpr ⟨tt_2 (List.mem_of_getElem? (i := 132) rfl), rfl⟩
theorem ml_RL_320 : Cond.methodLink RL 320 yX11_count ∈ TW := List.mem_filter.mpr ⟨tt_2 (List.mem_of_getElem? (i := 133) rfl), rfl⟩
theorem im_X11_count : Cond.instanceMethod yX11_count ∈ TW := List.mem_filter.mpr ⟨tt_2 (List.mem_of_getElem? (i := 134) rfl), rfl⟩
theorem se_X11_count : Cond.selects yX11_count.cls yX11_count yX11_count ∈ TW := List.mem_filter.mpr ⟨tt_2 (List.mem_of_getElem? (i := 135) rfl), rfl⟩
theorem cd_X11_count : Cond.code yX11_count cX11_count 2 (some .int) ∈ TW := List.mem_filter.mpr ⟨tt_2 (List.mem_of_getElem? (i := 136) rfl), rfl⟩
theorem ml_RX11_185 : Cond.methodLink RX11 185 yX7_liveActs ∈ TW := List.mem_filter.mpr ⟨tt_2 (List.mem_of_getElem? (i := 137) rfl), rfl⟩
theorem ml_RL_164 : Cond.methodLink RL 164 yL_land ∈ TW := List.mem_filter.mpr ⟨tt_2 (List.mem_of_getElem? (i := 138) rfl), rfl⟩
theorem sm_L_land : Cond.static yL_land ∈ TW := List.mem_filter.mpr ⟨tt_2 (List.mem_of_getElem? (i := 139) rfl), rfl⟩
theorem cl_RL_13 : Cond.classLink RL 13 "java/lang/IllegalArgumentException" ∈ TW := List.mem_filter.mpr ⟨tt_2 (List.mem_of_getElem? (i := 141) rfl), rfl⟩
theorem ml_RL_7 : Cond.methodLink RL 7 yX11_land ∈ TW := List.mem_filter.mpr ⟨tt_2 (List.mem_of_getElem? (i := 142) rfl), rfl⟩
theorem im_X11_land : Cond.instanceMethod yX11_land ∈ TW := List.mem_filter.mpr ⟨tt_2 (List.mem_of_getElem? (i := 143) rfl), rfl⟩
theorem se_X11_land : Cond.selects yX11_land.cls yX11_land yX11_land ∈ TW := List.mem_filter.mpr ⟨tt_2 (List.mem_of_getElem? (i := 144) rfl), rfl⟩
theorem cd_X11_land : Cond.code yX11_land cX11_land 3 (some .int) ∈ TW := List.mem_filter.mpr ⟨tt_2 (List.mem_of_getElem? (i := 145) rfl), rfl⟩
theorem ml_RX11_74 : Cond.methodLink RX11 74 yX11_needWithin ∈ TW := List.mem_filter.mpr ⟨tt_2 (List.mem_of_getElem? (i := 146) rfl), rfl⟩
theorem sm_X11_needWithin : Cond.static yX11_needWithin ∈ TW := List.mem_filter.mpr ⟨tt_2 (List.mem_of_getElem? (i := 147) rfl), rfl⟩
theorem cd_X11_needWithin : Cond.code yX11_needWithin cX11_needWithin 3 none ∈ TW := List.mem_filter.mpr ⟨tt_2 (List.mem_of_getElem? (i := 148) rfl), rfl⟩
theorem cl_RX11_294 : Cond.classLink RX11 294 "java/lang/IllegalArgumentException" ∈ TW := List.mem_filter.mpr ⟨tt_2 (List.mem_of_getElem? (i := 149) rfl), rfl⟩
theorem ml_RX11_298 : Cond.methodLink RX11 298 ⟨"java/lang/IllegalArgumentException", "<init>", "(Ljava/lang/String;)V"⟩ ∈ TW := List.mem_filter.mpr ⟨tt_2 (List.mem_of_getElem? (i := 192) rfl), rfl⟩
theorem ml_RX11_78 : Cond.methodLink RX11 78 yX6_readLand ∈ TW := List.mem_filter.mpr ⟨tt_2 (List.mem_of_getElem? (i := 217) rfl), rfl⟩
theorem im_X6_readLand : Cond.instanceMethod yX6_readLand ∈ TW := List.mem_filter.mpr ⟨tt_2 (List.mem_of_getElem? (i := 218) rfl), rfl⟩
theorem se_X6_readLand : Cond.selects yX6_readLand.cls yX6_readLand yX6_readLand ∈ TW := List.mem_filter.mpr ⟨tt_2 (List.mem_of_getElem? (i := 219) rfl), rfl⟩
theorem cd_X6_readLand : Cond.code yX6_readLand cX6_readLand 3 (some (.object "DegreeLaws$Land")) ∈ TW := List.mem_filter.mpr ⟨tt_2 (List.mem_of_getElem? (i := 220) rfl), rfl⟩
theorem ml_RX6_58 : Cond.methodLink RX6 58 Lib.Math.min.name ∈ TW := List.mem_filter.mpr ⟨tt_2 (List.mem_of_getElem? (i := 221) rfl), rfl⟩
theorem ml_RX6_64 : Cond.methodLink RX6 64 yX6_advance ∈ TW := List.mem_filter.mpr ⟨tt_2 (List.mem_of_getElem? (i := 222) rfl), rfl⟩
theorem im_X6_advance : Cond.instanceMethod yX6_advance ∈ TW := List.mem_filter.mpr ⟨tt_2 (List.mem_of_getElem? (i := 224) rfl), rfl⟩
theorem cd_X6_advance : Cond.code yX6_advance cX6_advance 1 none ∈ TW := List.mem_filter.mpr ⟨tt_2 (List.mem_of_getElem? (i := 225) rfl), rfl⟩
theorem ml_RX6_175 : Cond.methodLink RX6 175 yX6_skip ∈ TW := List.mem_filter.mpr ⟨tt_2 (List.mem_of_getElem? (i := 226) rfl), rfl⟩
theorem im_X6_skip : Cond.instanceMethod yX6_skip ∈ TW := List.mem_filter.mpr ⟨tt_2 (List.mem_of_getElem? (i := 228) rfl), rfl⟩
theorem cd_X6_skip : Cond.code yX6_skip cX6_skip 3 none ∈ TW := List.mem_filter.mpr ⟨tt_2 (List.mem_of_getElem? (i := 229) rfl), rfl⟩
theorem ml_RX6_179 : Cond.methodLink RX6 179 yX6_wordHere ∈ TW := List.mem_filter.mpr ⟨tt_2 (List.mem_of_getElem? (i := 230) rfl), rfl⟩
theorem im_X6_wordHere : Cond.instanceMethod yX6_wordHere ∈ TW := List.mem_filter.mpr ⟨tt_2 (List.mem_of_getElem? (i := 232) rfl), rfl⟩
theorem cd_X6_wordHere : Cond.code yX6_wordHere cX6_wordHere 5 (some .int) ∈ TW := List.mem_filter.mpr ⟨tt_2 (List.mem_of_getElem? (i := 233) rfl), rfl⟩
theorem ml_RX6_191 : Cond.methodLink RX6 191 yJ0_length_8abf5 ∈ TW := List.mem_filter.mpr ⟨tt_2 (List.mem_of_getElem? (i := 235) rfl), rfl⟩
theorem im_J0_length_8abf5 : Cond.instanceMethod yJ0_length_8abf5 ∈ TW := List.mem_filter.mpr ⟨tt_2 (List.mem_of_getElem? (i := 236) rfl), rfl⟩
theorem se_J0_length_8abf5 : Cond.selects yJ0_length_8abf5.cls yJ0_length_8abf5 yJ0_length_8abf5 ∈ TW := List.mem_filter.mpr ⟨tt_2 (List.mem_of_getElem? (i := 237) rfl), rfl⟩
theorem cd_J0_length_8abf5 : Cond.code yJ0_length_8abf5 cJ0_length_8abf5 1 (some .int) ∈ TW := List.mem_filter.mpr ⟨tt_2 (List.mem_of_getElem? (i := 238) rfl), rfl⟩
theorem ml_RJ0_335 : Cond.methodLink RJ0 335 yJ0_coder_7d493 ∈ TW := List.mem_filter.mpr ⟨tt_2 (List.mem_of_getElem? (i := 239) rfl), rfl⟩
theorem im_J0_coder_7d493 : Cond.instanceMethod yJ0_coder_7d493 ∈ TW := List.mem_filter.mpr ⟨tt_3 (List.mem_of_getElem? (i := 0) rfl), rfl⟩
theorem se_J0_coder_7d493 : Cond.selects yJ0_coder_7d493.cls yJ0_coder_7d493 yJ0_coder_7d493 ∈ TW := List.mem_filter.mpr ⟨tt_3 (List.mem_of_getElem? (i := 1) rfl), rfl⟩
theorem cd_J0_coder_7d493 : Cond.code yJ0_coder_7d493 cJ0_coder_7d493 1 (some .byte) ∈ TW := List.mem_filter.mpr ⟨tt_3 (List.mem_of_getElem? (i := 2) rfl), rfl⟩
theorem ml_RX6_195 : Cond.methodLink RX6 195 yJ0_charAt_5068e ∈ TW := List.mem_filter.mpr ⟨tt_3 (List.mem_of_getElem? (i := 5) rfl), rfl⟩
theorem im_J0_charAt_5068e : Cond.instanceMethod yJ0_charAt_5068e ∈ TW := List.mem_filter.mpr ⟨tt_3 (List.mem_of_getElem? (i := 6) rfl), rfl⟩
theorem se_J0_charAt_5068e : Cond.selects yJ0_charAt_5068e.cls yJ0_charAt_5068e yJ0_charAt_5068e ∈ TW := List.mem_filter.mpr ⟨tt_3 (List.mem_of_getElem? (i := 7) rfl), rfl⟩
theorem cd_J0_charAt_5068e : Cond.code yJ0_charAt_5068e cJ0_charAt_5068e 2 (some .char) ∈ TW := List.mem_filter.mpr ⟨tt_3 (List.mem_of_getElem? (i := 8) rfl), rfl⟩
theorem ml_RJ0_492 : Cond.methodLink RJ0 492 yJ0_isLatin1_aae02 ∈ TW := List.mem_filter.mpr ⟨tt_3 (List.mem_of_getElem? (i := 9) rfl), rfl⟩
theorem im_J0_isLatin1_aae02 : Cond.instanceMethod yJ0_isLatin1_aae02 ∈ TW := List.mem_filter.mpr ⟨tt_3 (List.mem_of_getElem? (i := 10) rfl), rfl⟩
theorem se_J0_isLatin1_aae02 : Cond.selects yJ0_isLatin1_aae02.cls yJ0_isLatin1_aae02 yJ0_isLatin1_aae02 ∈ TW := List.mem_filter.mpr ⟨tt_3 (List.mem_of_getElem? (i := 11) rfl), rfl⟩
theorem cd_J0_isLatin1_aae02 : Cond.code yJ0_isLatin1_aae02 cJ0_isLatin1_aae02 1 (some .boolean) ∈ TW := List.mem_filter.mpr ⟨tt_3 (List.mem_of_getElem? (i := 12) rfl), rfl⟩
theorem ml_RJ0_495 : Cond.methodLink RJ0 495 yJ1_charAt_3b067 ∈ TW := List.mem_filter.mpr ⟨tt_3 (List.mem_of_getElem? (i := 13) rfl), rfl⟩
theorem sm_J1_charAt_3b067 : Cond.static yJ1_charAt_3b067 ∈ TW := List.mem_filter.mpr ⟨tt_3 (List.mem_of_getElem? (i := 14) rfl), rfl⟩
theorem cd_J1_charAt_3b067 : Cond.code yJ1_charAt_3b067 cJ1_charAt_3b067 2 (some .char) ∈ TW := List.mem_filter.mpr ⟨tt_3 (List.mem_of_getElem? (i := 15) rfl), rfl⟩
theorem ml_RJ1_9 : Cond.methodLink RJ1 9 yJ0_checkIndex_df160 ∈ TW := List.mem_filter.mpr ⟨tt_3 (List.mem_of_getElem? (i := 16) rfl), rfl⟩
theorem sm_J0_checkIndex_df160 : Cond.static yJ0_checkIndex_df160 ∈ TW := List.mem_filter.mpr ⟨tt_3 (List.mem_of_getElem? (i := 17) rfl), rfl⟩
theorem cd_J0_checkIndex_df160 : Cond.code yJ0_checkIndex_df160 cJ0_checkIndex_df160 2 none ∈ TW := List.mem_filter.mpr ⟨tt_3 (List.mem_of_getElem? (i := 18) rfl), rfl⟩
theorem ml_RJ0_1059 : Cond.methodLink RJ0 1059 yJ3_checkIndex_8e157 ∈ TW := List.mem_filter.mpr ⟨tt_3 (List.mem_of_getElem? (i := 21) rfl), rfl⟩
theorem sm_J3_checkIndex_8e157 : Cond.static yJ3_checkIndex_8e157 ∈ TW := List.mem_filter.mpr ⟨tt_3 (List.mem_of_getElem? (i := 22) rfl), rfl⟩
theorem cd_J3_checkIndex_8e157 : Cond.code yJ3_checkIndex_8e157 cJ3_checkIndex_8e157 3 (some .int) ∈ TW := List.mem_filter.mpr ⟨tt_3 (List.mem_of_getElem? (i := 23) rfl), rfl⟩
theorem ml_RJ0_498 : Cond.methodLink RJ0 498 yJ2_charAt_3b067 ∈ TW := List.mem_filter.mpr ⟨tt_3 (List.mem_of_getElem? (i := 24) rfl), rfl⟩
theorem sm_J2_charAt_3b067 : Cond.static yJ2_charAt_3b067 ∈ TW := List.mem_filter.mpr ⟨tt_3 (List.mem_of_getElem? (i := 25) rfl), rfl⟩
theorem cd_J2_charAt_3b067 : Cond.code yJ2_charAt_3b067 cJ2_charAt_3b067 2 (some .char) ∈ TW := List.mem_filter.mpr ⟨tt_3 (List.mem_of_getElem? (i := 26) rfl), rfl⟩
theorem ml_RJ2_67 : Cond.methodLink RJ2 67 yJ2_checkIndex_2214a ∈ TW := List.mem_filter.mpr ⟨tt_3 (List.mem_of_getElem? (i := 27) rfl), rfl⟩
theorem sm_J2_checkIndex_2214a : Cond.static yJ2_checkIndex_2214a ∈ TW := List.mem_filter.mpr ⟨tt_3 (List.mem_of_getElem? (i := 28) rfl), rfl⟩
theorem cd_J2_checkIndex_2214a : Cond.code yJ2_checkIndex_2214a cJ2_checkIndex_2214a 2 none ∈ TW := List.mem_filter.mpr ⟨tt_3 (List.mem_of_getElem? (i := 29) rfl), rfl⟩
theorem ml_RJ2_48 : Cond.methodLink RJ2 48 yJ2_length_9d52b ∈ TW := List.mem_filter.mpr ⟨tt_3 (List.mem_of_getElem? (i := 30) rfl), rfl⟩
theorem sm_J2_length_9d52b : Cond.static yJ2_length_9d52b ∈ TW := List.mem_filter.mpr ⟨tt_3 (List.mem_of_getElem? (i := 31) rfl), rfl⟩
theorem cd_J2_length_9d52b : Cond.code yJ2_length_9d52b cJ2_length_9d52b 1 (some .int) ∈ TW := List.mem_filter.mpr ⟨tt_3 (List.mem_of_getElem? (i := 32) rfl), rfl⟩
theorem ml_RJ2_414 : Cond.methodLink RJ2 414 yJ0_checkIndex_df160 ∈ TW := List.mem_filter.mpr ⟨tt_3 (List.mem_of_getElem? (i := 33) rfl), rfl⟩
theorem ml_RJ2_71 : Cond.methodLink RJ2 71 yJ2_getChar_3b067 ∈ TW := List.mem_filter.mpr ⟨tt_3 (List.mem_of_getElem? (i := 34) rfl), rfl⟩
theorem sm_J2_getChar_3b067 : Cond.static yJ2_getChar_3b067 ∈ TW := List.mem_filter.mpr ⟨tt_3 (List.mem_of_getElem? (i := 35) rfl), rfl⟩
theorem cd_J2_getChar_3b067 : Cond.code yJ2_getChar_3b067 cJ2_getChar_3b067 2 (some .char) ∈ TW := List.mem_filter.mpr ⟨tt_3 (List.mem_of_getElem? (i := 36) rfl), rfl⟩
theorem ml_RX6_183 : Cond.methodLink RX6 183 yX6_numberHere ∈ TW := List.mem_filter.mpr ⟨tt_3 (List.mem_of_getElem? (i := 43) rfl), rfl⟩
theorem im_X6_numberHere : Cond.instanceMethod yX6_numberHere ∈ TW := List.mem_filter.mpr ⟨tt_3 (List.mem_of_getElem? (i := 45) rfl), rfl⟩
theorem cd_X6_numberHere : Cond.code yX6_numberHere cX6_numberHere 3 (some .int) ∈ TW := List.mem_filter.mpr ⟨tt_3 (List.mem_of_getElem? (i := 46) rfl), rfl⟩
theorem ml_RX6_186 : Cond.methodLink RX6 186 yX6_isSign ∈ TW := List.mem_filter.mpr ⟨tt_3 (List.mem_of_getElem? (i := 47) rfl), rfl⟩
theorem sm_X6_isSign : Cond.static yX6_isSign ∈ TW := List.mem_filter.mpr ⟨tt_3 (List.mem_of_getElem? (i := 48) rfl), rfl⟩
theorem cd_X6_isSign : Cond.code yX6_isSign cX6_isSign 1 (some .boolean) ∈ TW := List.mem_filter.mpr ⟨tt_3 (List.mem_of_getElem? (i := 49) rfl), rfl⟩
theorem ml_RX6_67 : Cond.methodLink RX6 67 yX6_readWard ∈ TW := List.mem_filter.mpr ⟨tt_3 (List.mem_of_getElem? (i := 50) rfl), rfl⟩
theorem im_X6_readWard : Cond.instanceMethod yX6_readWard ∈ TW := List.mem_filter.mpr ⟨tt_3 (List.mem_of_getElem? (i := 52) rfl), rfl⟩
theorem cd_X6_readWard : Cond.code yX6_readWard cX6_readWard 3 none ∈ TW := List.mem_filter.mpr ⟨tt_3 (List.mem_of_getElem? (i := 53) rfl), rfl⟩
theorem ml_RX6_117 : Cond.methodLink RX6 117 yX6_fail ∈ TW := List.mem_filter.mpr ⟨tt_3 (List.mem_of_getElem? (i := 54) rfl), rfl⟩
theorem im_X6_fail : Cond.instanceMethod yX6_fail ∈ TW := List.mem_filter.mpr ⟨tt_3 (List.mem_of_getElem? (i := 56) rfl), rfl⟩
theorem cd_X6_fail : Cond.code yX6_fail cX6_fail 2 none ∈ TW := List.mem_filter.mpr ⟨tt_3 (List.mem_of_getElem? (i := 57) rfl), rfl⟩
theorem ml_RX6_99 : Cond.methodLink RX6 99 yX6_takeNumber ∈ TW := List.mem_filter.mpr ⟨tt_3 (List.mem_of_getElem? (i := 58) rfl), rfl⟩
theorem im_X6_takeNumber : Cond.instanceMethod yX6_takeNumber ∈ TW := List.mem_filter.mpr ⟨tt_3 (List.mem_of_getElem? (i := 60) rfl), rfl⟩
theorem cd_X6_takeNumber : Cond.code yX6_takeNumber cX6_takeNumber 4 (some .int) ∈ TW := List.mem_filter.mpr ⟨tt_3 (List.mem_of_getElem? (i := 61) rfl), rfl⟩
theorem ml_RX6_105 : Cond.methodLink RX6 105 yX6_refuse ∈ TW := List.mem_filter.mpr ⟨tt_3 (List.mem_of_getElem? (i := 62) rfl), rfl⟩
theorem im_X6_refuse : Cond.instanceMethod yX6_refuse ∈ TW := List.mem_filter.mpr ⟨tt_3 (List.mem_of_getElem? (i := 64) rfl), rfl⟩
theorem cd_X6_refuse : Cond.code yX6_refuse cX6_refuse 1 none ∈ TW := List.mem_filter.mpr ⟨tt_3 (List.mem_of_getElem? (i := 65) rfl), rfl⟩
theorem ml_RX6_123 : Cond.methodLink RX6 123 yX6_readBeside ∈ TW := List.mem_filter.mpr ⟨tt_3 (List.mem_of_getElem? (i := 66) rfl), rfl⟩
theorem im_X6_readBeside : Cond.instanceMethod yX6_readBeside ∈ TW := List.mem_filter.mpr ⟨tt_3 (List.mem_of_getElem? (i := 68) rfl), rfl⟩
theorem cd_X6_readBeside : Cond.code yX6_readBeside cX6_readBeside 3 none ∈ TW := List.mem_filter.mpr ⟨tt_3 (List.mem_of_getElem? (i := 69) rfl), rfl⟩
theorem ml_RX6_70 : Cond.methodLink RX6 70 yX6_readAct ∈ TW := List.mem_filter.mpr ⟨tt_3 (List.mem_of_getElem? (i := 70) rfl), rfl⟩
theorem im_X6_readAct : Cond.instanceMethod yX6_readAct ∈ TW := List.mem_filter.mpr ⟨tt_3 (List.mem_of_getElem? (i := 72) rfl), rfl⟩
theorem cd_X6_readAct : Cond.code yX6_readAct cX6_readAct 3 none ∈ TW := List.mem_filter.mpr ⟨tt_3 (List.mem_of_getElem? (i := 73) rfl), rfl⟩
theorem ml_RX6_108 : Cond.methodLink RX6 108 yX6_take ∈ TW := List.mem_filter.mpr ⟨tt_3 (List.mem_of_getElem? (i := 74) rfl), rfl⟩
theorem im_X6_take : Cond.instanceMethod yX6_take ∈ TW := List.mem_filter.mpr ⟨tt_3 (List.mem_of_getElem? (i := 76) rfl), rfl⟩
theorem cd_X6_take : Cond.code yX6_take cX6_take 2 none ∈ TW := List.mem_filter.mpr ⟨tt_3 (List.mem_of_getElem? (i := 77) rfl), rfl⟩
theorem ml_RX6_73 : Cond.methodLink RX6 73 yX6_beginLaw ∈ TW := List.mem_filter.mpr ⟨tt_3 (List.mem_of_getElem? (i := 78) rfl), rfl⟩
theorem im_X6_beginLaw : Cond.instanceMethod yX6_beginLaw ∈ TW := List.mem_filter.mpr ⟨tt_3 (List.mem_of_getElem? (i := 80) rfl), rfl⟩
theorem cd_X6_beginLaw : Cond.code yX6_beginLaw cX6_beginLaw 2 none ∈ TW := List.mem_filter.mpr ⟨tt_3 (List.mem_of_getElem? (i := 81) rfl), rfl⟩
theorem ml_RX6_77 : Cond.methodLink RX6 77 yX6_readSum ∈ TW := List.mem_filter.mpr ⟨tt_3 (List.mem_of_getElem? (i := 82) rfl), rfl⟩
theorem im_X6_readSum : Cond.instanceMethod yX6_readSum ∈ TW := List.mem_filter.mpr ⟨tt_3 (List.mem_of_getElem? (i := 84) rfl), rfl⟩
theorem cd_X6_readSum : Cond.code yX6_readSum cX6_readSum 4 none ∈ TW := List.mem_filter.mpr ⟨tt_3 (List.mem_of_getElem? (i := 85) rfl), rfl⟩
theorem ml_RX6_162 : Cond.methodLink RX6 162 yX6_readTerm ∈ TW := List.mem_filter.mpr ⟨tt_3 (List.mem_of_getElem? (i := 86) rfl), rfl⟩
theorem im_X6_readTerm : Cond.instanceMethod yX6_readTerm ∈ TW := List.mem_filter.mpr ⟨tt_3 (List.mem_of_getElem? (i := 88) rfl), rfl⟩
theorem cd_X6_readTerm : Cond.code yX6_readTerm cX6_readTerm 3 none ∈ TW := List.mem_filter.mpr ⟨tt_3 (List.mem_of_getElem? (i := 89) rfl), rfl⟩
theorem ml_RX6_165 : Cond.methodLink RX6 165 yX6_readAtom ∈ TW := List.mem_filter.mpr ⟨tt_3 (List.mem_of_getElem? (i := 90) rfl), rfl⟩
theorem im_X6_readAtom : Cond.instanceMethod yX6_readAtom ∈ TW := List.mem_filter.mpr ⟨tt_3 (List.mem_of_getElem? (i := 92) rfl), rfl⟩
theorem cd_X6_readAtom : Cond.code yX6_readAtom cX6_readAtom 2 none ∈ TW := List.mem_filter.mpr ⟨tt_3 (List.mem_of_getElem? (i := 93) rfl), rfl⟩
theorem ml_RX6_152 : Cond.methodLink RX6 152 yX6_put ∈ TW := List.mem_filter.mpr ⟨tt_3 (List.mem_of_getElem? (i := 94) rfl), rfl⟩
theorem im_X6_put : Cond.instanceMethod yX6_put ∈ TW := List.mem_filter.mpr ⟨tt_3 (List.mem_of_getElem? (i := 96) rfl), rfl⟩
theorem cd_X6_put : Cond.code yX6_put cX6_put 2 none ∈ TW := List.mem_filter.mpr ⟨tt_3 (List.mem_of_getElem? (i := 97) rfl), rfl⟩
theorem ml_RX6_158 : Cond.methodLink RX6 158 yX6_goesDeeper ∈ TW := List.mem_filter.mpr ⟨tt_3 (List.mem_of_getElem? (i := 98) rfl), rfl⟩
theorem im_X6_goesDeeper : Cond.instanceMethod yX6_goesDeeper ∈ TW := List.mem_filter.mpr ⟨tt_3 (List.mem_of_getElem? (i := 100) rfl), rfl⟩
theorem cd_X6_goesDeeper : Cond.code yX6_goesDeeper cX6_goesDeeper 2 (some .boolean) ∈ TW := List.mem_filter.mpr ⟨tt_3 (List.mem_of_getElem? (i := 101) rfl), rfl⟩
theorem ml_RX6_168 : Cond.methodLink RX6 168 yX6_isOfPrevails ∈ TW := List.mem_filter.mpr ⟨tt_3 (List.mem_of_getElem? (i := 102) rfl), rfl⟩
theorem im_X6_isOfPrevails : Cond.instanceMethod yX6_isOfPrevails ∈ TW := List.mem_filter.mpr ⟨tt_3 (List.mem_of_getElem? (i := 104) rfl), rfl⟩
theorem cd_X6_isOfPrevails : Cond.code yX6_isOfPrevails cX6_isOfPrevails 1 (some .boolean) ∈ TW := List.mem_filter.mpr ⟨tt_3 (List.mem_of_getElem? (i := 105) rfl), rfl⟩
theorem ml_RX6_172 : Cond.methodLink RX6 172 yX6_isOfDegree ∈ TW := List.mem_filter.mpr ⟨tt_3 (List.mem_of_getElem? (i := 106) rfl), rfl⟩
theorem im_X6_isOfDegree : Cond.instanceMethod yX6_isOfDegree ∈ TW := List.mem_filter.mpr ⟨tt_3 (List.mem_of_getElem? (i := 108) rfl), rfl⟩
theorem cd_X6_isOfDegree : Cond.code yX6_isOfDegree cX6_isOfDegree 1 (some .boolean) ∈ TW := List.mem_filter.mpr ⟨tt_3 (List.mem_of_getElem? (i := 109) rfl), rfl⟩
theorem ml_RX6_81 : Cond.methodLink RX6 81 yJ7_copyOf_59c91 ∈ TW := List.mem_filter.mpr ⟨tt_3 (List.mem_of_getElem? (i := 110) rfl), rfl⟩
theorem sm_J7_copyOf_59c91 : Cond.static yJ7_copyOf_59c91 ∈ TW := List.mem_filter.mpr ⟨tt_3 (List.mem_of_getElem? (i := 111) rfl), rfl⟩
theorem cd_J7_copyOf_59c91 : Cond.code yJ7_copyOf_59c91 cJ7_copyOf_59c91 3 (some (.array .int)) ∈ TW := List.mem_filter.mpr ⟨tt_3 (List.mem_of_getElem? (i := 112) rfl), rfl⟩
theorem ml_RJ7_316 : Cond.methodLink RJ7 316 ⟨"[I", "clone", "()Ljava/lang/Object;"⟩ ∈ TW := List.mem_filter.mpr ⟨tt_3 (List.mem_of_getElem? (i := 113) rfl), rfl⟩
theorem cl_RJ7_317 : Cond.classLink RJ7 317 "[I" ∈ TW := List.mem_filter.mpr ⟨tt_3 (List.mem_of_getElem? (i := 119) rfl), rfl⟩
theorem ml_RJ7_304 : Cond.methodLink RJ7 304 Lib.Math.min.name ∈ TW := List.mem_filter.mpr ⟨tt_3 (List.mem_of_getElem? (i := 120) rfl), rfl⟩
theorem ml_RJ7_150 : Cond.methodLink RJ7 150 ⟨"java/lang/System", "arraycopy", "(Ljava/lang/Object;ILjava/lang/Object;II)V"⟩ ∈ TW := List.mem_filter.mpr ⟨tt_3 (List.mem_of_getElem? (i := 121) rfl), rfl⟩
theorem ml_RX6_90 : Cond.methodLink RX6 90 yX6_readTruth ∈ TW := List.mem_filter.mpr ⟨tt_3 (List.mem_of_getElem? (i := 124) rfl), rfl⟩
theorem im_X6_readTruth : Cond.instanceMethod yX6_readTruth ∈ TW := List.mem_filter.mpr ⟨tt_3 (List.mem_of_getElem? (i := 126) rfl), rfl⟩
theorem cd_X6_readTruth : Cond.code yX6_readTruth cX6_readTruth 3 none ∈ TW := List.mem_filter.mpr ⟨tt_3 (List.mem_of_getElem? (i := 127) rfl), rfl⟩
theorem ml_RX6_147 : Cond.methodLink RX6 147 yX6_readBoth ∈ TW := List.mem_filter.mpr ⟨tt_3 (List.mem_of_getElem? (i := 128) rfl), rfl⟩
theorem im_X6_readBoth : Cond.instanceMethod yX6_readBoth ∈ TW := List.mem_filter.mpr ⟨tt_3 (List.mem_of_getElem? (i := 130) rfl), rfl⟩
theorem cd_X6_readBoth : Cond.code yX6_readBoth cX6_readBoth 3 none ∈ TW := List.mem_filter.mpr ⟨tt_3 (List.mem_of_getElem? (i := 131) rfl), rfl⟩
theorem ml_RX6_155 : Cond.methodLink RX6 155 yX6_readUnit ∈ TW := List.mem_filter.mpr ⟨tt_3 (List.mem_of_getElem? (i := 132) rfl), rfl⟩
theorem im_X6_readUnit : Cond.instanceMethod yX6_readUnit ∈ TW := List.mem_filter.mpr ⟨tt_3 (List.mem_of_getElem? (i := 134) rfl), rfl⟩
theorem cd_X6_readUnit : Cond.code yX6_readUnit cX6_readUnit 3 none ∈ TW := List.mem_filter.mpr ⟨tt_3 (List.mem_of_getElem? (i := 135) rfl), rfl⟩
theorem ml_RX11_85 : Cond.methodLink RX11 85 yX7_beginWith ∈ TW := List.mem_filter.mpr ⟨tt_3 (List.mem_of_getElem? (i := 136) rfl), rfl⟩
theorem im_X7_beginWith : Cond.instanceMethod yX7_beginWith ∈ TW := List.mem_filter.mpr ⟨tt_3 (List.mem_of_getElem? (i := 137) rfl), rfl⟩
theorem se_X7_beginWith : Cond.selects yX7_beginWith.cls yX7_beginWith yX7_beginWith ∈ TW := List.mem_filter.mpr ⟨tt_3 (List.mem_of_getElem? (i := 138) rfl), rfl⟩
theorem cd_X7_beginWith : Cond.code yX7_beginWith cX7_beginWith 3 none ∈ TW := List.mem_filter.mpr ⟨tt_3 (List.mem_of_getElem? (i := 139) rfl), rfl⟩
theorem ml_RX7_32 : Cond.methodLink RX7 32 yJ7_fill_53178 ∈ TW := List.mem_filter.mpr ⟨tt_3 (List.mem_of_getElem? (i := 140) rfl), rfl⟩
theorem sm_J7_fill_53178 : Cond.static yJ7_fill_53178 ∈ TW := List.mem_filter.mpr ⟨tt_3 (List.mem_of_getElem? (i := 141) rfl), rfl⟩
theorem cd_J7_fill_53178 : Cond.code yJ7_fill_53178 cJ7_fill_53178 4 none ∈ TW := List.mem_filter.mpr ⟨tt_3 (List.mem_of_getElem? (i := 142) rfl), rfl⟩
theorem ml_RX7_48 : Cond.methodLink RX7 48 yX7_forgetPrevailing ∈ TW := List.mem_filter.mpr ⟨tt_3 (List.mem_of_getElem? (i := 143) rfl), rfl⟩
theorem im_X7_forgetPrevailing : Cond.instanceMethod yX7_forgetPrevailing ∈ TW := List.mem_filter.mpr ⟨tt_3 (List.mem_of_getElem? (i := 144) rfl), rfl⟩
theorem se_X7_forgetPrevailing : Cond.selects yX7_forgetPrevailing.cls yX7_forgetPrevailing yX7_forgetPrevailing ∈ TW := List.mem_filter.mpr ⟨tt_3 (List.mem_of_getElem? (i := 145) rfl), rfl⟩
theorem cd_X7_forgetPrevailing : Cond.code yX7_forgetPrevailing cX7_forgetPrevailing 1 none ∈ TW := List.mem_filter.mpr ⟨tt_3 (List.mem_of_getElem? (i := 146) rfl), rfl⟩
theorem ml_RL_178 : Cond.methodLink RL 178 yL_ward ∈ TW := List.mem_filter.mpr ⟨tt_3 (List.mem_of_getElem? (i := 147) rfl), rfl⟩
theorem sm_L_ward : Cond.static yL_ward ∈ TW := List.mem_filter.mpr ⟨tt_3 (List.mem_of_getElem? (i := 148) rfl), rfl⟩
theorem cl_RL_19 : Cond.classLink RL 19 "java/util/NoSuchElementException" ∈ TW := List.mem_filter.mpr ⟨tt_3 (List.mem_of_getElem? (i := 150) rfl), rfl⟩
theorem ml_RL_15 : Cond.methodLink RL 15 yX11_ward ∈ TW := List.mem_filter.mpr ⟨tt_3 (List.mem_of_getElem? (i := 151) rfl), rfl⟩
theorem im_X11_ward : Cond.instanceMethod yX11_ward ∈ TW := List.mem_filter.mpr ⟨tt_3 (List.mem_of_getElem? (i := 152) rfl), rfl⟩
theorem se_X11_ward : Cond.selects yX11_ward.cls yX11_ward yX11_ward ∈ TW := List.mem_filter.mpr ⟨tt_3 (List.mem_of_getElem? (i := 153) rfl), rfl⟩
theorem cd_X11_ward : Cond.code yX11_ward cX11_ward 4 (some .int) ∈ TW := List.mem_filter.mpr ⟨tt_3 (List.mem_of_getElem? (i := 154) rfl), rfl⟩
theorem ml_RX11_100 : Cond.methodLink RX11 100 yX11_needWard ∈ TW := List.mem_filter.mpr ⟨tt_3 (List.mem_of_getElem? (i := 155) rfl), rfl⟩
theorem im_X11_needWard : Cond.instanceMethod yX11_needWard ∈ TW := List.mem_filter.mpr ⟨tt_3 (List.mem_of_getElem? (i := 157) rfl), rfl⟩
theorem cd_X11_needWard : Cond.code yX11_needWard cX11_needWard 2 none ∈ TW := List.mem_filter.mpr ⟨tt_3 (List.mem_of_getElem? (i := 158) rfl), rfl⟩
theorem cl_RX11_393 : Cond.classLink RX11 393 "java/util/NoSuchElementException" ∈ TW := List.mem_filter.mpr ⟨tt_3 (List.mem_of_getElem? (i := 159) rfl), rfl⟩
theorem ml_RX11_397 : Cond.methodLink RX11 397 ⟨"java/util/NoSuchElementException", "<init>", "(Ljava/lang/String;)V"⟩ ∈ TW := List.mem_filter.mpr ⟨tt_3 (List.mem_of_getElem? (i := 169) rfl), rfl⟩
theorem ml_RX11_116 : Cond.methodLink RX11 116 yX7_laidOn ∈ TW := List.mem_filter.mpr ⟨tt_3 (List.mem_of_getElem? (i := 175) rfl), rfl⟩
theorem ml_RX11_120 : Cond.methodLink RX11 120 Lib.Math.max.name ∈ TW := List.mem_filter.mpr ⟨tt_3 (List.mem_of_getElem? (i := 176) rfl), rfl⟩
theorem ml_RL_182 : Cond.methodLink RL 182 yL_act ∈ TW := List.mem_filter.mpr ⟨tt_3 (List.mem_of_getElem? (i := 177) rfl), rfl⟩
theorem sm_L_act : Cond.static yL_act ∈ TW := List.mem_filter.mpr ⟨tt_3 (List.mem_of_getElem? (i := 178) rfl), rfl⟩
theorem ml_RL_21 : Cond.methodLink RL 21 yX11_act ∈ TW := List.mem_filter.mpr ⟨tt_3 (List.mem_of_getElem? (i := 180) rfl), rfl⟩
theorem im_X11_act : Cond.instanceMethod yX11_act ∈ TW := List.mem_filter.mpr ⟨tt_3 (List.mem_of_getElem? (i := 181) rfl), rfl⟩
theorem se_X11_act : Cond.selects yX11_act.cls yX11_act yX11_act ∈ TW := List.mem_filter.mpr ⟨tt_3 (List.mem_of_getElem? (i := 182) rfl), rfl⟩
theorem cd_X11_act : Cond.code yX11_act cX11_act 3 (some .int) ∈ TW := List.mem_filter.mpr ⟨tt_3 (List.mem_of_getElem? (i := 183) rfl), rfl⟩
theorem ml_RX11_126 : Cond.methodLink RX11 126 yX11_needAct ∈ TW := List.mem_filter.mpr ⟨tt_3 (List.mem_of_getElem? (i := 184) rfl), rfl⟩
theorem im_X11_needAct : Cond.instanceMethod yX11_needAct ∈ TW := List.mem_filter.mpr ⟨tt_3 (List.mem_of_getElem? (i := 186) rfl), rfl⟩
theorem cd_X11_needAct : Cond.code yX11_needAct cX11_needAct 2 none ∈ TW := List.mem_filter.mpr ⟨tt_3 (List.mem_of_getElem? (i := 187) rfl), rfl⟩
theorem ml_RX11_135 : Cond.methodLink RX11 135 yX7_isRepealed ∈ TW := List.mem_filter.mpr ⟨tt_3 (List.mem_of_getElem? (i := 189) rfl), rfl⟩
theorem im_X7_isRepealed : Cond.instanceMethod yX7_isRepealed ∈ TW := List.mem_filter.mpr ⟨tt_3 (List.mem_of_getElem? (i := 190) rfl), rfl⟩
theorem se_X7_isRepealed : Cond.selects yX7_isRepealed.cls yX7_isRepealed yX7_isRepealed ∈ TW := List.mem_filter.mpr ⟨tt_3 (List.mem_of_getElem? (i := 191) rfl), rfl⟩
theorem cd_X7_isRepealed : Cond.code yX7_isRepealed cX7_isRepealed 2 (some .boolean) ∈ TW := List.mem_filter.mpr ⟨tt_3 (List.mem_of_getElem? (i := 192) rfl), rfl⟩
theorem ml_RL_185 : Cond.methodLink RL 185 yL_degree ∈ TW := List.mem_filter.mpr ⟨tt_3 (List.mem_of_getElem? (i := 193) rfl), rfl⟩
theorem sm_L_degree : Cond.static yL_degree ∈ TW := List.mem_filter.mpr ⟨tt_3 (List.mem_of_getElem? (i := 194) rfl), rfl⟩
theorem ml_RL_24 : Cond.methodLink RL 24 yX11_degree ∈ TW := List.mem_filter.mpr ⟨tt_3 (List.mem_of_getElem? (i := 196) rfl), rfl⟩
theorem im_X11_degree : Cond.instanceMethod yX11_degree ∈ TW := List.mem_filter.mpr ⟨tt_3 (List.mem_of_getElem? (i := 197) rfl), rfl⟩
theorem se_X11_degree : Cond.selects yX11_degree.cls yX11_degree yX11_degree ∈ TW := List.mem_filter.mpr ⟨tt_3 (List.mem_of_getElem? (i := 198) rfl), rfl⟩
theorem cd_X11_degree : Cond.code yX11_degree cX11_degree 3 (some .int) ∈ TW := List.mem_filter.mpr ⟨tt_3 (List.mem_of_getElem? (i := 199) rfl), rfl⟩
theorem ml_RX11_139 : Cond.methodLink RX11 139 yX7_degreeIn ∈ TW := List.mem_filter.mpr ⟨tt_3 (List.mem_of_getElem? (i := 200) rfl), rfl⟩
theorem ml_RL_188 : Cond.methodLink RL 188 yL_code ∈ TW := List.mem_filter.mpr ⟨tt_3 (List.mem_of_getElem? (i := 201) rfl), rfl⟩
theorem sm_L_code : Cond.static yL_code ∈ TW := List.mem_filter.mpr ⟨tt_3 (List.mem_of_getElem? (i := 202) rfl), rfl⟩
theorem ml_RL_27 : Cond.methodLink RL 27 yX11_code ∈ TW := List.mem_filter.mpr ⟨tt_3 (List.mem_of_getElem? (i := 204) rfl), rfl⟩
theorem im_X11_code : Cond.instanceMethod yX11_code ∈ TW := List.mem_filter.mpr ⟨tt_3 (List.mem_of_getElem? (i := 205) rfl), rfl⟩
theorem se_X11_code : Cond.selects yX11_code.cls yX11_code yX11_code ∈ TW := List.mem_filter.mpr ⟨tt_3 (List.mem_of_getElem? (i := 206) rfl), rfl⟩
theorem cd_X11_code : Cond.code yX11_code cX11_code 3 (some .int) ∈ TW := List.mem_filter.mpr ⟨tt_3 (List.mem_of_getElem? (i := 207) rfl), rfl⟩
theorem ml_RL_191 : Cond.methodLink RL 191 yL_fine ∈ TW := List.mem_filter.mpr ⟨tt_3 (List.mem_of_getElem? (i := 208) rfl), rfl⟩
theorem sm_L_fine : Cond.static yL_fine ∈ TW := List.mem_filter.mpr ⟨tt_3 (List.mem_of_getElem? (i := 209) rfl), rfl⟩
theorem ml_RL_30 : Cond.methodLink RL 30 yX11_fine ∈ TW := List.mem_filter.mpr ⟨tt_3 (List.mem_of_getElem? (i := 211) rfl), rfl⟩
theorem im_X11_fine : Cond.instanceMethod yX11_fine ∈ TW := List.mem_filter.mpr ⟨tt_3 (List.mem_of_getElem? (i := 212) rfl), rfl⟩
theorem se_X11_fine : Cond.selects yX11_fine.cls yX11_fine yX11_fine ∈ TW := List.mem_filter.mpr ⟨tt_3 (List.mem_of_getElem? (i := 213) rfl), rfl⟩
theorem cd_X11_fine : Cond.code yX11_fine cX11_fine 5 (some .int) ∈ TW := List.mem_filter.mpr ⟨tt_3 (List.mem_of_getElem? (i := 214) rfl), rfl⟩
theorem ml_RX11_145 : Cond.methodLink RX11 145 yX11_needDeed ∈ TW := List.mem_filter.mpr ⟨tt_3 (List.mem_of_getElem? (i := 215) rfl), rfl⟩
theorem im_X11_needDeed : Cond.instanceMethod yX11_needDeed ∈ TW := List.mem_filter.mpr ⟨tt_3 (List.mem_of_getElem? (i := 217) rfl), rfl⟩
theorem cd_X11_needDeed : Cond.code yX11_needDeed cX11_needDeed 4 none ∈ TW := List.mem_filter.mpr ⟨tt_3 (List.mem_of_getElem? (i := 218) rfl), rfl⟩
theorem ml_RX11_242 : Cond.methodLink RX11 242 yX11_needKind ∈ TW := List.mem_filter.mpr ⟨tt_3 (List.mem_of_getElem? (i := 219) rfl), rfl⟩
theorem sm_X11_needKind : Cond.static yX11_needKind ∈ TW := List.mem_filter.mpr ⟨tt_3 (List.mem_of_getElem? (i := 220) rfl), rfl⟩
theorem cd_X11_needKind : Cond.code yX11_needKind cX11_needKind 1 none ∈ TW := List.mem_filter.mpr ⟨tt_3 (List.mem_of_getElem? (i := 221) rfl), rfl⟩
theorem ml_RX11_148 : Cond.methodLink RX11 148 yX7_fineOfDeed ∈ TW := List.mem_filter.mpr ⟨tt_3 (List.mem_of_getElem? (i := 222) rfl), rfl⟩
theorem im_X7_fineOfDeed : Cond.instanceMethod yX7_fineOfDeed ∈ TW := List.mem_filter.mpr ⟨tt_3 (List.mem_of_getElem? (i := 223) rfl), rfl⟩
theorem se_X7_fineOfDeed : Cond.selects yX7_fineOfDeed.cls yX7_fineOfDeed yX7_fineOfDeed ∈ TW := List.mem_filter.mpr ⟨tt_3 (List.mem_of_getElem? (i := 224) rfl), rfl⟩
theorem cd_X7_fineOfDeed : Cond.code yX7_fineOfDeed cX7_fineOfDeed 9 (some .int) ∈ TW := List.mem_filter.mpr ⟨tt_3 (List.mem_of_getElem? (i := 225) rfl), rfl⟩
theorem ml_RX7_128 : Cond.methodLink RX7 128 yX7_actsOf ∈ TW := List.mem_filter.mpr ⟨tt_3 (List.mem_of_getElem? (i := 226) rfl), rfl⟩
theorem im_X7_actsOf : Cond.instanceMethod yX7_actsOf ∈ TW := List.mem_filter.mpr ⟨tt_3 (List.mem_of_getElem? (i := 227) rfl), rfl⟩
theorem se_X7_actsOf : Cond.selects yX7_actsOf.cls yX7_actsOf yX7_actsOf ∈ TW := List.mem_filter.mpr ⟨tt_3 (List.mem_of_getElem? (i := 228) rfl), rfl⟩
theorem cd_X7_actsOf : Cond.code yX7_actsOf cX7_actsOf 2 (some .int) ∈ TW := List.mem_filter.mpr ⟨tt_3 (List.mem_of_getElem? (i := 229) rfl), rfl⟩
theorem ml_RX7_131 : Cond.methodLink RX7 131 yX7_measured ∈ TW := List.mem_filter.mpr ⟨tt_3 (List.mem_of_getElem? (i := 230) rfl), rfl⟩
theorem im_X7_measured : Cond.instanceMethod yX7_measured ∈ TW := List.mem_filter.mpr ⟨tt_3 (List.mem_of_getElem? (i := 231) rfl), rfl⟩
theorem se_X7_measured : Cond.selects yX7_measured.cls yX7_measured yX7_measured ∈ TW := List.mem_filter.mpr ⟨tt_3 (List.mem_of_getElem? (i := 232) rfl), rfl⟩
theorem cd_X7_measured : Cond.code yX7_measured cX7_measured 2 (some .int) ∈ TW := List.mem_filter.mpr ⟨tt_3 (List.mem_of_getElem? (i := 233) rfl), rfl⟩
theorem ml_RX7_134 : Cond.methodLink RX7 134 yX2_finesOf ∈ TW := List.mem_filter.mpr ⟨tt_3 (List.mem_of_getElem? (i := 234) rfl), rfl⟩
theorem im_X2_finesOf : Cond.instanceMethod yX2_finesOf ∈ TW := List.mem_filter.mpr ⟨tt_3 (List.mem_of_getElem? (i := 235) rfl), rfl⟩
theorem se_X2_finesOf : Cond.selects yX2_finesOf.cls yX2_finesOf yX2_finesOf ∈ TW := List.mem_filter.mpr ⟨tt_3 (List.mem_of_getElem? (i := 236) rfl), rfl⟩
theorem cd_X2_finesOf : Cond.code yX2_finesOf cX2_finesOf 4 (some .int) ∈ TW := List.mem_filter.mpr ⟨tt_3 (List.mem_of_getElem? (i := 237) rfl), rfl⟩
theorem ml_RL_195 : Cond.methodLink RL 195 yL_lawful ∈ TW := List.mem_filter.mpr ⟨tt_3 (List.mem_of_getElem? (i := 238) rfl), rfl⟩
theorem sm_L_lawful : Cond.static yL_lawful ∈ TW := List.mem_filter.mpr ⟨tt_3 (List.mem_of_getElem? (i := 239) rfl), rfl⟩
theorem ml_RL_34 : Cond.methodLink RL 34 yX11_lawful ∈ TW := List.mem_filter.mpr ⟨tt_4 (List.mem_of_getElem? (i := 1) rfl), rfl⟩
theorem im_X11_lawful : Cond.instanceMethod yX11_lawful ∈ TW := List.mem_filter.mpr ⟨tt_4 (List.mem_of_getElem? (i := 2) rfl), rfl⟩
theorem se_X11_lawful : Cond.selects yX11_lawful.cls yX11_lawful yX11_lawful ∈ TW := List.mem_filter.mpr ⟨tt_4 (List.mem_of_getElem? (i := 3) rfl), rfl⟩
theorem cd_X11_lawful : Cond.code yX11_lawful cX11_lawful 5 (some .boolean) ∈ TW := List.mem_filter.mpr ⟨tt_4 (List.mem_of_getElem? (i := 4) rfl), rfl⟩
theorem ml_RX11_152 : Cond.methodLink RX11 152 yX11_ahead ∈ TW := List.mem_filter.mpr ⟨tt_4 (List.mem_of_getElem? (i := 5) rfl), rfl⟩
theorem im_X11_ahead : Cond.instanceMethod yX11_ahead ∈ TW := List.mem_filter.mpr ⟨tt_4 (List.mem_of_getElem? (i := 7) rfl), rfl⟩
theorem cd_X11_ahead : Cond.code yX11_ahead cX11_ahead 1 (some (.object "DegreeLaws$Outlook")) ∈ TW := List.mem_filter.mpr ⟨tt_4 (List.mem_of_getElem? (i := 8) rfl), rfl⟩
theorem cl_RX11_157 : Cond.classLink RX11 157 RX4 ∈ TW := List.mem_filter.mpr ⟨tt_4 (List.mem_of_getElem? (i := 9) rfl), rfl⟩
theorem ib_RX4 : Cond.instantiable RX4 5 ∈ TW := List.mem_filter.mpr ⟨tt_4 (List.mem_of_getElem? (i := 10) rfl), rfl⟩
theorem ml_RX11_236 : Cond.methodLink RX11 236 yX4_init ∈ TW := List.mem_filter.mpr ⟨tt_4 (List.mem_of_getElem? (i := 11) rfl), rfl⟩
theorem im_X4_init : Cond.instanceMethod yX4_init ∈ TW := List.mem_filter.mpr ⟨tt_4 (List.mem_of_getElem? (i := 12) rfl), rfl⟩
theorem cd_X4_init : Cond.code yX4_init cX4_init 2 none ∈ TW := List.mem_filter.mpr ⟨tt_4 (List.mem_of_getElem? (i := 13) rfl), rfl⟩
theorem ml_RX4_3 : Cond.methodLink RX4 3 Lib.objectInit ∈ TW := List.mem_filter.mpr ⟨tt_4 (List.mem_of_getElem? (i := 14) rfl), rfl⟩
theorem fl_RX4_24 : flk RX4 24 4 0 := ⟨by decide, (RX4, TX4, 5), rfl, by decide, List.mem_filter.mpr ⟨tt_4 (List.mem_of_getElem? (i := 15) rfl), rfl⟩⟩
theorem fl_RX4_9 : flk RX4 9 4 1 := ⟨by decide, (RX4, TX4, 5), rfl, by decide, List.mem_filter.mpr ⟨tt_4 (List.mem_of_getElem? (i := 16) rfl), rfl⟩⟩
theorem fl_RX4_15 : flk RX4 15 4 2 := ⟨by decide, (RX4, TX4, 5), rfl, by decide, List.mem_filter.mpr ⟨tt_4 (List.mem_of_getElem? (i := 17) rfl), rfl⟩⟩
theorem fl_RX4_18 : flk RX4 18 4 3 := ⟨by decide, (RX4, TX4, 5), rfl, by decide, List.mem_filter.mpr ⟨tt_4 (List.mem_of_getElem? (i := 18) rfl), rfl⟩⟩
theorem fl_RX4_21 : flk RX4 21 4 4 := ⟨by decide, (RX4, TX4, 5), rfl, by decide, List.mem_filter.mpr ⟨tt_4 (List.mem_of_getElem? (i := 19) rfl), rfl⟩⟩
theorem ml_RX11_156 : Cond.methodLink RX11 156 yX4_isLawfulIn ∈ TW := List.mem_filter.mpr ⟨tt_4 (List.mem_of_getElem? (i := 31) rfl), rfl⟩
theorem im_X4_isLawfulIn : Cond.instanceMethod yX4_isLawfulIn ∈ TW := List.mem_filter.mpr ⟨tt_4 (List.mem_of_getElem? (i := 32) rfl), rfl⟩
theorem se_X4_isLawfulIn : Cond.selects yX4_isLawfulIn.cls yX4_isLawfulIn yX4_isLawfulIn ∈ TW := List.mem_filter.mpr ⟨tt_4 (List.mem_of_getElem? (i := 33) rfl), rfl⟩
theorem cd_X4_isLawfulIn : Cond.code yX4_isLawfulIn cX4_isLawfulIn 6 (some .boolean) ∈ TW := List.mem_filter.mpr ⟨tt_4 (List.mem_of_getElem? (i := 34) rfl), rfl⟩
theorem ml_RX4_59 : Cond.methodLink RX4 59 yX7_measured ∈ TW := List.mem_filter.mpr ⟨tt_4 (List.mem_of_getElem? (i := 35) rfl), rfl⟩
theorem ml_RX4_51 : Cond.methodLink RX4 51 yX4_layDegrees ∈ TW := List.mem_filter.mpr ⟨tt_4 (List.mem_of_getElem? (i := 36) rfl), rfl⟩
theorem im_X4_layDegrees : Cond.instanceMethod yX4_layDegrees ∈ TW := List.mem_filter.mpr ⟨tt_4 (List.mem_of_getElem? (i := 38) rfl), rfl⟩
theorem cd_X4_layDegrees : Cond.code yX4_layDegrees cX4_layDegrees 5 none ∈ TW := List.mem_filter.mpr ⟨tt_4 (List.mem_of_getElem? (i := 39) rfl), rfl⟩
theorem ml_RX4_33 : Cond.methodLink RX4 33 yX7_degreeIn ∈ TW := List.mem_filter.mpr ⟨tt_4 (List.mem_of_getElem? (i := 40) rfl), rfl⟩
theorem ml_RX4_55 : Cond.methodLink RX4 55 yX4_layBarring ∈ TW := List.mem_filter.mpr ⟨tt_4 (List.mem_of_getElem? (i := 41) rfl), rfl⟩
theorem im_X4_layBarring : Cond.instanceMethod yX4_layBarring ∈ TW := List.mem_filter.mpr ⟨tt_4 (List.mem_of_getElem? (i := 43) rfl), rfl⟩
theorem cd_X4_layBarring : Cond.code yX4_layBarring cX4_layBarring 9 none ∈ TW := List.mem_filter.mpr ⟨tt_4 (List.mem_of_getElem? (i := 44) rfl), rfl⟩
theorem ml_RX4_37 : Cond.methodLink RX4 37 yX7_actsOf ∈ TW := List.mem_filter.mpr ⟨tt_4 (List.mem_of_getElem? (i := 45) rfl), rfl⟩
theorem ml_RX4_41 : Cond.methodLink RX4 41 yX7_keptDegree ∈ TW := List.mem_filter.mpr ⟨tt_4 (List.mem_of_getElem? (i := 46) rfl), rfl⟩
theorem ml_RX4_44 : Cond.methodLink RX4 44 yX7_inForce ∈ TW := List.mem_filter.mpr ⟨tt_4 (List.mem_of_getElem? (i := 47) rfl), rfl⟩
theorem ml_RX4_62 : Cond.methodLink RX4 62 yX4_isFree ∈ TW := List.mem_filter.mpr ⟨tt_4 (List.mem_of_getElem? (i := 48) rfl), rfl⟩
theorem im_X4_isFree : Cond.instanceMethod yX4_isFree ∈ TW := List.mem_filter.mpr ⟨tt_4 (List.mem_of_getElem? (i := 50) rfl), rfl⟩
theorem cd_X4_isFree : Cond.code yX4_isFree cX4_isFree 3 (some .boolean) ∈ TW := List.mem_filter.mpr ⟨tt_4 (List.mem_of_getElem? (i := 51) rfl), rfl⟩
theorem ml_RL_198 : Cond.methodLink RL 198 yL_fire ∈ TW := List.mem_filter.mpr ⟨tt_4 (List.mem_of_getElem? (i := 52) rfl), rfl⟩
theorem sm_L_fire : Cond.static yL_fire ∈ TW := List.mem_filter.mpr ⟨tt_4 (List.mem_of_getElem? (i := 53) rfl), rfl⟩
theorem ml_RL_38 : Cond.methodLink RL 38 yX11_fire ∈ TW := List.mem_filter.mpr ⟨tt_4 (List.mem_of_getElem? (i := 55) rfl), rfl⟩
theorem im_X11_fire : Cond.instanceMethod yX11_fire ∈ TW := List.mem_filter.mpr ⟨tt_4 (List.mem_of_getElem? (i := 56) rfl), rfl⟩
theorem se_X11_fire : Cond.selects yX11_fire.cls yX11_fire yX11_fire ∈ TW := List.mem_filter.mpr ⟨tt_4 (List.mem_of_getElem? (i := 57) rfl), rfl⟩
theorem cd_X11_fire : Cond.code yX11_fire cX11_fire 4 (some .int) ∈ TW := List.mem_filter.mpr ⟨tt_4 (List.mem_of_getElem? (i := 58) rfl), rfl⟩
theorem ml_RX11_162 : Cond.methodLink RX11 162 yX11_layOn ∈ TW := List.mem_filter.mpr ⟨tt_4 (List.mem_of_getElem? (i := 59) rfl), rfl⟩
theorem im_X11_layOn : Cond.instanceMethod yX11_layOn ∈ TW := List.mem_filter.mpr ⟨tt_4 (List.mem_of_getElem? (i := 61) rfl), rfl⟩
theorem cd_X11_layOn : Cond.code yX11_layOn cX11_layOn 5 (some .int) ∈ TW := List.mem_filter.mpr ⟨tt_4 (List.mem_of_getElem? (i := 62) rfl), rfl⟩
theorem ml_RX11_165 : Cond.methodLink RX11 165 yX5_keep ∈ TW := List.mem_filter.mpr ⟨tt_4 (List.mem_of_getElem? (i := 63) rfl), rfl⟩
theorem im_X5_keep : Cond.instanceMethod yX5_keep ∈ TW := List.mem_filter.mpr ⟨tt_4 (List.mem_of_getElem? (i := 64) rfl), rfl⟩
theorem se_X5_keep : Cond.selects yX5_keep.cls yX5_keep yX5_keep ∈ TW := List.mem_filter.mpr ⟨tt_4 (List.mem_of_getElem? (i := 65) rfl), rfl⟩
theorem cd_X5_keep : Cond.code yX5_keep cX5_keep 2 none ∈ TW := List.mem_filter.mpr ⟨tt_4 (List.mem_of_getElem? (i := 66) rfl), rfl⟩
theorem ml_RX5_22 : Cond.methodLink RX5 22 ⟨"java/lang/System", "arraycopy", "(Ljava/lang/Object;ILjava/lang/Object;II)V"⟩ ∈ TW := List.mem_filter.mpr ⟨tt_4 (List.mem_of_getElem? (i := 67) rfl), rfl⟩
theorem ml_RX5_28 : Cond.methodLink RX5 28 Lib.Math.min.name ∈ TW := List.mem_filter.mpr ⟨tt_4 (List.mem_of_getElem? (i := 68) rfl), rfl⟩
theorem ml_RX11_169 : Cond.methodLink RX11 169 yX7_layOn ∈ TW := List.mem_filter.mpr ⟨tt_4 (List.mem_of_getElem? (i := 69) rfl), rfl⟩
theorem im_X7_layOn : Cond.instanceMethod yX7_layOn ∈ TW := List.mem_filter.mpr ⟨tt_4 (List.mem_of_getElem? (i := 70) rfl), rfl⟩
theorem se_X7_layOn : Cond.selects yX7_layOn.cls yX7_layOn yX7_layOn ∈ TW := List.mem_filter.mpr ⟨tt_4 (List.mem_of_getElem? (i := 71) rfl), rfl⟩
theorem cd_X7_layOn : Cond.code yX7_layOn cX7_layOn 5 none ∈ TW := List.mem_filter.mpr ⟨tt_4 (List.mem_of_getElem? (i := 72) rfl), rfl⟩
theorem ml_RL_202 : Cond.methodLink RL 202 yL_ice ∈ TW := List.mem_filter.mpr ⟨tt_4 (List.mem_of_getElem? (i := 73) rfl), rfl⟩
theorem sm_L_ice : Cond.static yL_ice ∈ TW := List.mem_filter.mpr ⟨tt_4 (List.mem_of_getElem? (i := 74) rfl), rfl⟩
theorem ml_RL_42 : Cond.methodLink RL 42 yX11_ice ∈ TW := List.mem_filter.mpr ⟨tt_4 (List.mem_of_getElem? (i := 76) rfl), rfl⟩
theorem im_X11_ice : Cond.instanceMethod yX11_ice ∈ TW := List.mem_filter.mpr ⟨tt_4 (List.mem_of_getElem? (i := 77) rfl), rfl⟩
theorem se_X11_ice : Cond.selects yX11_ice.cls yX11_ice yX11_ice ∈ TW := List.mem_filter.mpr ⟨tt_4 (List.mem_of_getElem? (i := 78) rfl), rfl⟩
theorem cd_X11_ice : Cond.code yX11_ice cX11_ice 4 (some .int) ∈ TW := List.mem_filter.mpr ⟨tt_4 (List.mem_of_getElem? (i := 79) rfl), rfl⟩
theorem ml_RL_205 : Cond.methodLink RL 205 yL_amend ∈ TW := List.mem_filter.mpr ⟨tt_4 (List.mem_of_getElem? (i := 80) rfl), rfl⟩
theorem sm_L_amend : Cond.static yL_amend ∈ TW := List.mem_filter.mpr ⟨tt_4 (List.mem_of_getElem? (i := 81) rfl), rfl⟩
theorem ml_RL_45 : Cond.methodLink RL 45 yX11_amend ∈ TW := List.mem_filter.mpr ⟨tt_4 (List.mem_of_getElem? (i := 83) rfl), rfl⟩
theorem im_X11_amend : Cond.instanceMethod yX11_amend ∈ TW := List.mem_filter.mpr ⟨tt_4 (List.mem_of_getElem? (i := 84) rfl), rfl⟩
theorem se_X11_amend : Cond.selects yX11_amend.cls yX11_amend yX11_amend ∈ TW := List.mem_filter.mpr ⟨tt_4 (List.mem_of_getElem? (i := 85) rfl), rfl⟩
theorem cd_X11_amend : Cond.code yX11_amend cX11_amend 6 (some .int) ∈ TW := List.mem_filter.mpr ⟨tt_4 (List.mem_of_getElem? (i := 86) rfl), rfl⟩
theorem ml_RX11_172 : Cond.methodLink RX11 172 yX7_forgetPrevailing ∈ TW := List.mem_filter.mpr ⟨tt_4 (List.mem_of_getElem? (i := 87) rfl), rfl⟩
theorem ml_RL_208 : Cond.methodLink RL 208 yL_repeal ∈ TW := List.mem_filter.mpr ⟨tt_4 (List.mem_of_getElem? (i := 88) rfl), rfl⟩
theorem sm_L_repeal : Cond.static yL_repeal ∈ TW := List.mem_filter.mpr ⟨tt_4 (List.mem_of_getElem? (i := 89) rfl), rfl⟩
theorem cl_RL_51 : Cond.classLink RL 51 "java/lang/IllegalStateException" ∈ TW := List.mem_filter.mpr ⟨tt_4 (List.mem_of_getElem? (i := 91) rfl), rfl⟩
theorem ml_RL_48 : Cond.methodLink RL 48 yX11_repeal ∈ TW := List.mem_filter.mpr ⟨tt_4 (List.mem_of_getElem? (i := 92) rfl), rfl⟩
theorem im_X11_repeal : Cond.instanceMethod yX11_repeal ∈ TW := List.mem_filter.mpr ⟨tt_4 (List.mem_of_getElem? (i := 93) rfl), rfl⟩
theorem se_X11_repeal : Cond.selects yX11_repeal.cls yX11_repeal yX11_repeal ∈ TW := List.mem_filter.mpr ⟨tt_4 (List.mem_of_getElem? (i := 94) rfl), rfl⟩
theorem cd_X11_repeal : Cond.code yX11_repeal cX11_repeal 2 (some .int) ∈ TW := List.mem_filter.mpr ⟨tt_4 (List.mem_of_getElem? (i := 95) rfl), rfl⟩
theorem cl_RX11_178 : Cond.classLink RX11 178 "java/lang/IllegalStateException" ∈ TW := List.mem_filter.mpr ⟨tt_4 (List.mem_of_getElem? (i := 96) rfl), rfl⟩
theorem ml_RX11_182 : Cond.methodLink RX11 182 ⟨"java/lang/IllegalStateException", "<init>", "(Ljava/lang/String;)V"⟩ ∈ TW := List.mem_filter.mpr ⟨tt_4 (List.mem_of_getElem? (i := 106) rfl), rfl⟩
theorem ml_RL_211 : Cond.methodLink RL 211 yL_hours ∈ TW := List.mem_filter.mpr ⟨tt_4 (List.mem_of_getElem? (i := 112) rfl), rfl⟩
theorem sm_L_hours : Cond.static yL_hours ∈ TW := List.mem_filter.mpr ⟨tt_4 (List.mem_of_getElem? (i := 113) rfl), rfl⟩
theorem ml_RL_53 : Cond.methodLink RL 53 yX11_hours ∈ TW := List.mem_filter.mpr ⟨tt_4 (List.mem_of_getElem? (i := 115) rfl), rfl⟩
theorem im_X11_hours : Cond.instanceMethod yX11_hours ∈ TW := List.mem_filter.mpr ⟨tt_4 (List.mem_of_getElem? (i := 116) rfl), rfl⟩
theorem se_X11_hours : Cond.selects yX11_hours.cls yX11_hours yX11_hours ∈ TW := List.mem_filter.mpr ⟨tt_4 (List.mem_of_getElem? (i := 117) rfl), rfl⟩
theorem cd_X11_hours : Cond.code yX11_hours cX11_hours 2 (some .int) ∈ TW := List.mem_filter.mpr ⟨tt_4 (List.mem_of_getElem? (i := 118) rfl), rfl⟩
theorem ml_RL_214 : Cond.methodLink RL 214 yL_done ∈ TW := List.mem_filter.mpr ⟨tt_4 (List.mem_of_getElem? (i := 119) rfl), rfl⟩
theorem sm_L_done : Cond.static yL_done ∈ TW := List.mem_filter.mpr ⟨tt_4 (List.mem_of_getElem? (i := 120) rfl), rfl⟩
theorem ml_RL_56 : Cond.methodLink RL 56 yX11_done ∈ TW := List.mem_filter.mpr ⟨tt_4 (List.mem_of_getElem? (i := 122) rfl), rfl⟩
theorem im_X11_done : Cond.instanceMethod yX11_done ∈ TW := List.mem_filter.mpr ⟨tt_4 (List.mem_of_getElem? (i := 123) rfl), rfl⟩
theorem se_X11_done : Cond.selects yX11_done.cls yX11_done yX11_done ∈ TW := List.mem_filter.mpr ⟨tt_4 (List.mem_of_getElem? (i := 124) rfl), rfl⟩
theorem cd_X11_done : Cond.code yX11_done cX11_done 4 (some .int) ∈ TW := List.mem_filter.mpr ⟨tt_4 (List.mem_of_getElem? (i := 125) rfl), rfl⟩
theorem ml_RX11_195 : Cond.methodLink RX11 195 yX7_doDeed ∈ TW := List.mem_filter.mpr ⟨tt_4 (List.mem_of_getElem? (i := 126) rfl), rfl⟩
theorem im_X7_doDeed : Cond.instanceMethod yX7_doDeed ∈ TW := List.mem_filter.mpr ⟨tt_4 (List.mem_of_getElem? (i := 127) rfl), rfl⟩
theorem se_X7_doDeed : Cond.selects yX7_doDeed.cls yX7_doDeed yX7_doDeed ∈ TW := List.mem_filter.mpr ⟨tt_4 (List.mem_of_getElem? (i := 128) rfl), rfl⟩
theorem cd_X7_doDeed : Cond.code yX7_doDeed cX7_doDeed 5 (some .int) ∈ TW := List.mem_filter.mpr ⟨tt_4 (List.mem_of_getElem? (i := 129) rfl), rfl⟩
theorem ml_RX7_137 : Cond.methodLink RX7 137 yX7_fineOfDeed ∈ TW := List.mem_filter.mpr ⟨tt_4 (List.mem_of_getElem? (i := 130) rfl), rfl⟩
theorem ml_RL_217 : Cond.methodLink RL 217 yL_undo ∈ TW := List.mem_filter.mpr ⟨tt_4 (List.mem_of_getElem? (i := 131) rfl), rfl⟩
theorem sm_L_undo : Cond.static yL_undo ∈ TW := List.mem_filter.mpr ⟨tt_4 (List.mem_of_getElem? (i := 132) rfl), rfl⟩
theorem ml_RL_59 : Cond.methodLink RL 59 yX11_undo ∈ TW := List.mem_filter.mpr ⟨tt_4 (List.mem_of_getElem? (i := 134) rfl), rfl⟩
theorem im_X11_undo : Cond.instanceMethod yX11_undo ∈ TW := List.mem_filter.mpr ⟨tt_4 (List.mem_of_getElem? (i := 135) rfl), rfl⟩
theorem se_X11_undo : Cond.selects yX11_undo.cls yX11_undo yX11_undo ∈ TW := List.mem_filter.mpr ⟨tt_4 (List.mem_of_getElem? (i := 136) rfl), rfl⟩
theorem cd_X11_undo : Cond.code yX11_undo cX11_undo 2 (some .int) ∈ TW := List.mem_filter.mpr ⟨tt_4 (List.mem_of_getElem? (i := 137) rfl), rfl⟩
theorem ml_RX11_198 : Cond.methodLink RX11 198 yX5_goBack ∈ TW := List.mem_filter.mpr ⟨tt_4 (List.mem_of_getElem? (i := 138) rfl), rfl⟩
theorem im_X5_goBack : Cond.instanceMethod yX5_goBack ∈ TW := List.mem_filter.mpr ⟨tt_4 (List.mem_of_getElem? (i := 139) rfl), rfl⟩
theorem se_X5_goBack : Cond.selects yX5_goBack.cls yX5_goBack yX5_goBack ∈ TW := List.mem_filter.mpr ⟨tt_4 (List.mem_of_getElem? (i := 140) rfl), rfl⟩
theorem cd_X5_goBack : Cond.code yX5_goBack cX5_goBack 3 none ∈ TW := List.mem_filter.mpr ⟨tt_4 (List.mem_of_getElem? (i := 141) rfl), rfl⟩
theorem ml_RL_220 : Cond.methodLink RL 220 yL_judge ∈ TW := List.mem_filter.mpr ⟨tt_4 (List.mem_of_getElem? (i := 142) rfl), rfl⟩
theorem sm_L_judge : Cond.static yL_judge ∈ TW := List.mem_filter.mpr ⟨tt_4 (List.mem_of_getElem? (i := 143) rfl), rfl⟩
theorem ml_RL_62 : Cond.methodLink RL 62 yX11_judge ∈ TW := List.mem_filter.mpr ⟨tt_4 (List.mem_of_getElem? (i := 145) rfl), rfl⟩
theorem im_X11_judge : Cond.instanceMethod yX11_judge ∈ TW := List.mem_filter.mpr ⟨tt_4 (List.mem_of_getElem? (i := 146) rfl), rfl⟩
theorem se_X11_judge : Cond.selects yX11_judge.cls yX11_judge yX11_judge ∈ TW := List.mem_filter.mpr ⟨tt_4 (List.mem_of_getElem? (i := 147) rfl), rfl⟩
theorem cd_X11_judge : Cond.code yX11_judge cX11_judge 9 (some .int) ∈ TW := List.mem_filter.mpr ⟨tt_4 (List.mem_of_getElem? (i := 148) rfl), rfl⟩
theorem ml_RX11_202 : Cond.methodLink RX11 202 yX11_trayAt ∈ TW := List.mem_filter.mpr ⟨tt_4 (List.mem_of_getElem? (i := 149) rfl), rfl⟩
theorem im_X11_trayAt : Cond.instanceMethod yX11_trayAt ∈ TW := List.mem_filter.mpr ⟨tt_4 (List.mem_of_getElem? (i := 151) rfl), rfl⟩
theorem cd_X11_trayAt : Cond.code yX11_trayAt cX11_trayAt 2 (some (.object "DegreeLaws$Tray")) ∈ TW := List.mem_filter.mpr ⟨tt_4 (List.mem_of_getElem? (i := 152) rfl), rfl⟩
theorem ml_RX11_206 : Cond.methodLink RX11 206 yX11_needPlaced ∈ TW := List.mem_filter.mpr ⟨tt_4 (List.mem_of_getElem? (i := 154) rfl), rfl⟩
theorem sm_X11_needPlaced : Cond.static yX11_needPlaced ∈ TW := List.mem_filter.mpr ⟨tt_4 (List.mem_of_getElem? (i := 155) rfl), rfl⟩
theorem cd_X11_needPlaced : Cond.code yX11_needPlaced cX11_needPlaced 1 none ∈ TW := List.mem_filter.mpr ⟨tt_4 (List.mem_of_getElem? (i := 156) rfl), rfl⟩
theorem ml_RX11_210 : Cond.methodLink RX11 210 ⟨"java/lang/System", "arraycopy", "(Ljava/lang/Object;ILjava/lang/Object;II)V"⟩ ∈ TW := List.mem_filter.mpr ⟨tt_4 (List.mem_of_getElem? (i := 158) rfl), rfl⟩
theorem ml_RX11_221 : Cond.methodLink RX11 221 yX7_whyNot ∈ TW := List.mem_filter.mpr ⟨tt_4 (List.mem_of_getElem? (i := 159) rfl), rfl⟩
theorem im_X7_whyNot : Cond.instanceMethod yX7_whyNot ∈ TW := List.mem_filter.mpr ⟨tt_4 (List.mem_of_getElem? (i := 160) rfl), rfl⟩
theorem se_X7_whyNot : Cond.selects yX7_whyNot.cls yX7_whyNot yX7_whyNot ∈ TW := List.mem_filter.mpr ⟨tt_4 (List.mem_of_getElem? (i := 161) rfl), rfl⟩
theorem cd_X7_whyNot : Cond.code yX7_whyNot cX7_whyNot 4 (some .int) ∈ TW := List.mem_filter.mpr ⟨tt_4 (List.mem_of_getElem? (i := 162) rfl), rfl⟩
theorem kl_RX7_151 : Cond.constantLong RX7 151 (40000 : Int64) ∈ TW := List.mem_filter.mpr ⟨tt_4 (List.mem_of_getElem? (i := 163) rfl), rfl⟩
theorem kc_RX7_153 : Cond.constant RX7 153 (40000 : Int32) ∈ TW := List.mem_filter.mpr ⟨tt_4 (List.mem_of_getElem? (i := 164) rfl), rfl⟩
theorem ml_RX7_154 : Cond.methodLink RX7 154 yX7_isRepealed ∈ TW := List.mem_filter.mpr ⟨tt_4 (List.mem_of_getElem? (i := 165) rfl), rfl⟩
theorem kl_RX7_158 : Cond.constantLong RX7 158 (20000 : Int64) ∈ TW := List.mem_filter.mpr ⟨tt_4 (List.mem_of_getElem? (i := 166) rfl), rfl⟩
theorem kl_RX7_160 : Cond.constantLong RX7 160 (10000 : Int64) ∈ TW := List.mem_filter.mpr ⟨tt_4 (List.mem_of_getElem? (i := 167) rfl), rfl⟩
theorem kl_RX7_142 : Cond.constantLong RX7 142 (100 : Int64) ∈ TW := List.mem_filter.mpr ⟨tt_4 (List.mem_of_getElem? (i := 168) rfl), rfl⟩
theorem kl_RX7_162 : Cond.constantLong RX7 162 (60 : Int64) ∈ TW := List.mem_filter.mpr ⟨tt_4 (List.mem_of_getElem? (i := 169) rfl), rfl⟩
theorem kl_RX7_164 : Cond.constantLong RX7 164 (-1 : Int64) ∈ TW := List.mem_filter.mpr ⟨tt_4 (List.mem_of_getElem? (i := 170) rfl), rfl⟩
theorem ml_RX7_166 : Cond.methodLink RX7 166 yX7_isDeed ∈ TW := List.mem_filter.mpr ⟨tt_4 (List.mem_of_getElem? (i := 171) rfl), rfl⟩
theorem im_X7_isDeed : Cond.instanceMethod yX7_isDeed ∈ TW := List.mem_filter.mpr ⟨tt_4 (List.mem_of_getElem? (i := 172) rfl), rfl⟩
theorem se_X7_isDeed : Cond.selects yX7_isDeed.cls yX7_isDeed yX7_isDeed ∈ TW := List.mem_filter.mpr ⟨tt_4 (List.mem_of_getElem? (i := 173) rfl), rfl⟩
theorem cd_X7_isDeed : Cond.code yX7_isDeed cX7_isDeed 3 (some .boolean) ∈ TW := List.mem_filter.mpr ⟨tt_4 (List.mem_of_getElem? (i := 174) rfl), rfl⟩
theorem kl_RX7_140 : Cond.constantLong RX7 140 (9999 : Int64) ∈ TW := List.mem_filter.mpr ⟨tt_4 (List.mem_of_getElem? (i := 175) rfl), rfl⟩
theorem kl_RX7_144 : Cond.constantLong RX7 144 (10 : Int64) ∈ TW := List.mem_filter.mpr ⟨tt_4 (List.mem_of_getElem? (i := 176) rfl), rfl⟩
theorem kl_RX7_149 : Cond.constantLong RX7 149 (24 : Int64) ∈ TW := List.mem_filter.mpr ⟨tt_4 (List.mem_of_getElem? (i := 177) rfl), rfl⟩
theorem ml_RX11_225 : Cond.methodLink RX11 225 yX7_carryOut ∈ TW := List.mem_filter.mpr ⟨tt_4 (List.mem_of_getElem? (i := 178) rfl), rfl⟩
theorem im_X7_carryOut : Cond.instanceMethod yX7_carryOut ∈ TW := List.mem_filter.mpr ⟨tt_4 (List.mem_of_getElem? (i := 179) rfl), rfl⟩
theorem se_X7_carryOut : Cond.selects yX7_carryOut.cls yX7_carryOut yX7_carryOut ∈ TW := List.mem_filter.mpr ⟨tt_4 (List.mem_of_getElem? (i := 180) rfl), rfl⟩
theorem cd_X7_carryOut : Cond.code yX7_carryOut cX7_carryOut 4 none ∈ TW := List.mem_filter.mpr ⟨tt_4 (List.mem_of_getElem? (i := 181) rfl), rfl⟩
theorem ml_RX7_170 : Cond.methodLink RX7 170 yX7_doDeed ∈ TW := List.mem_filter.mpr ⟨tt_4 (List.mem_of_getElem? (i := 182) rfl), rfl⟩
theorem ml_RX7_173 : Cond.methodLink RX7 173 yX7_layOn ∈ TW := List.mem_filter.mpr ⟨tt_4 (List.mem_of_getElem? (i := 183) rfl), rfl⟩
theorem ml_RL_223 : Cond.methodLink RL 223 yL_perform ∈ TW := List.mem_filter.mpr ⟨tt_4 (List.mem_of_getElem? (i := 184) rfl), rfl⟩
theorem sm_L_perform : Cond.static yL_perform ∈ TW := List.mem_filter.mpr ⟨tt_4 (List.mem_of_getElem? (i := 185) rfl), rfl⟩
theorem ml_RL_65 : Cond.methodLink RL 65 yX11_perform ∈ TW := List.mem_filter.mpr ⟨tt_4 (List.mem_of_getElem? (i := 187) rfl), rfl⟩
theorem im_X11_perform : Cond.instanceMethod yX11_perform ∈ TW := List.mem_filter.mpr ⟨tt_4 (List.mem_of_getElem? (i := 188) rfl), rfl⟩
theorem se_X11_perform : Cond.selects yX11_perform.cls yX11_perform yX11_perform ∈ TW := List.mem_filter.mpr ⟨tt_4 (List.mem_of_getElem? (i := 189) rfl), rfl⟩
theorem cd_X11_perform : Cond.code yX11_perform cX11_perform 4 (some .int) ∈ TW := List.mem_filter.mpr ⟨tt_4 (List.mem_of_getElem? (i := 190) rfl), rfl⟩
theorem ml_RL_226 : Cond.methodLink RL 226 yL_season ∈ TW := List.mem_filter.mpr ⟨tt_4 (List.mem_of_getElem? (i := 191) rfl), rfl⟩
theorem sm_L_season : Cond.static yL_season ∈ TW := List.mem_filter.mpr ⟨tt_4 (List.mem_of_getElem? (i := 192) rfl), rfl⟩
theorem ml_RL_68 : Cond.methodLink RL 68 yX11_season ∈ TW := List.mem_filter.mpr ⟨tt_4 (List.mem_of_getElem? (i := 194) rfl), rfl⟩
theorem im_X11_season : Cond.instanceMethod yX11_season ∈ TW := List.mem_filter.mpr ⟨tt_4 (List.mem_of_getElem? (i := 195) rfl), rfl⟩
theorem se_X11_season : Cond.selects yX11_season.cls yX11_season yX11_season ∈ TW := List.mem_filter.mpr ⟨tt_4 (List.mem_of_getElem? (i := 196) rfl), rfl⟩
theorem cd_X11_season : Cond.code yX11_season cX11_season 6 (some .int) ∈ TW := List.mem_filter.mpr ⟨tt_4 (List.mem_of_getElem? (i := 197) rfl), rfl⟩
theorem ml_RX11_229 : Cond.methodLink RX11 229 yX11_drawBelow ∈ TW := List.mem_filter.mpr ⟨tt_4 (List.mem_of_getElem? (i := 198) rfl), rfl⟩
theorem im_X11_drawBelow : Cond.instanceMethod yX11_drawBelow ∈ TW := List.mem_filter.mpr ⟨tt_4 (List.mem_of_getElem? (i := 200) rfl), rfl⟩
theorem cd_X11_drawBelow : Cond.code yX11_drawBelow cX11_drawBelow 2 (some .int) ∈ TW := List.mem_filter.mpr ⟨tt_4 (List.mem_of_getElem? (i := 201) rfl), rfl⟩
theorem kc_RX11_235 : Cond.constant RX11 235 (1103515245 : Int32) ∈ TW := List.mem_filter.mpr ⟨tt_4 (List.mem_of_getElem? (i := 202) rfl), rfl⟩
theorem ml_RX11_232 : Cond.methodLink RX11 232 yX11_carryOutDrawn ∈ TW := List.mem_filter.mpr ⟨tt_4 (List.mem_of_getElem? (i := 203) rfl), rfl⟩
theorem im_X11_carryOutDrawn : Cond.instanceMethod yX11_carryOutDrawn ∈ TW := List.mem_filter.mpr ⟨tt_4 (List.mem_of_getElem? (i := 205) rfl), rfl⟩
theorem cd_X11_carryOutDrawn : Cond.code yX11_carryOutDrawn cX11_carryOutDrawn 4 none ∈ TW := List.mem_filter.mpr ⟨tt_4 (List.mem_of_getElem? (i := 206) rfl), rfl⟩
theorem ml_RL_229 : Cond.methodLink RL 229 yL_soonest ∈ TW := List.mem_filter.mpr ⟨tt_4 (List.mem_of_getElem? (i := 207) rfl), rfl⟩
theorem sm_L_soonest : Cond.static yL_soonest ∈ TW := List.mem_filter.mpr ⟨tt_4 (List.mem_of_getElem? (i := 208) rfl), rfl⟩
theorem ml_RL_71 : Cond.methodLink RL 71 yX11_soonest ∈ TW := List.mem_filter.mpr ⟨tt_4 (List.mem_of_getElem? (i := 210) rfl), rfl⟩
theorem im_X11_soonest : Cond.instanceMethod yX11_soonest ∈ TW := List.mem_filter.mpr ⟨tt_4 (List.mem_of_getElem? (i := 211) rfl), rfl⟩
theorem se_X11_soonest : Cond.selects yX11_soonest.cls yX11_soonest yX11_soonest ∈ TW := List.mem_filter.mpr ⟨tt_4 (List.mem_of_getElem? (i := 212) rfl), rfl⟩
theorem cd_X11_soonest : Cond.code yX11_soonest cX11_soonest 4 (some .int) ∈ TW := List.mem_filter.mpr ⟨tt_4 (List.mem_of_getElem? (i := 213) rfl), rfl⟩
theorem ml_RX11_239 : Cond.methodLink RX11 239 yX4_soonestIn ∈ TW := List.mem_filter.mpr ⟨tt_4 (List.mem_of_getElem? (i := 214) rfl), rfl⟩
theorem im_X4_soonestIn : Cond.instanceMethod yX4_soonestIn ∈ TW := List.mem_filter.mpr ⟨tt_4 (List.mem_of_getElem? (i := 215) rfl), rfl⟩
theorem se_X4_soonestIn : Cond.selects yX4_soonestIn.cls yX4_soonestIn yX4_soonestIn ∈ TW := List.mem_filter.mpr ⟨tt_4 (List.mem_of_getElem? (i := 216) rfl), rfl⟩
theorem cd_X4_soonestIn : Cond.code yX4_soonestIn cX4_soonestIn 5 (some .int) ∈ TW := List.mem_filter.mpr ⟨tt_4 (List.mem_of_getElem? (i := 217) rfl), rfl⟩
theorem ml_RX4_66 : Cond.methodLink RX4 66 yX4_layOut ∈ TW := List.mem_filter.mpr ⟨tt_4 (List.mem_of_getElem? (i := 218) rfl), rfl⟩
theorem im_X4_layOut : Cond.instanceMethod yX4_layOut ∈ TW := List.mem_filter.mpr ⟨tt_4 (List.mem_of_getElem? (i := 220) rfl), rfl⟩
theorem cd_X4_layOut : Cond.code yX4_layOut cX4_layOut 4 none ∈ TW := List.mem_filter.mpr ⟨tt_4 (List.mem_of_getElem? (i := 221) rfl), rfl⟩
theorem ml_RX4_69 : Cond.methodLink RX4 69 yX4_firstFree ∈ TW := List.mem_filter.mpr ⟨tt_4 (List.mem_of_getElem? (i := 222) rfl), rfl⟩
theorem im_X4_firstFree : Cond.instanceMethod yX4_firstFree ∈ TW := List.mem_filter.mpr ⟨tt_4 (List.mem_of_getElem? (i := 224) rfl), rfl⟩
theorem cd_X4_firstFree : Cond.code yX4_firstFree cX4_firstFree 4 (some .int) ∈ TW := List.mem_filter.mpr ⟨tt_4 (List.mem_of_getElem? (i := 225) rfl), rfl⟩
theorem ml_RL_232 : Cond.methodLink RL 232 yL_where ∈ TW := List.mem_filter.mpr ⟨tt_4 (List.mem_of_getElem? (i := 226) rfl), rfl⟩
theorem sm_L_where : Cond.static yL_where ∈ TW := List.mem_filter.mpr ⟨tt_4 (List.mem_of_getElem? (i := 227) rfl), rfl⟩
theorem ml_RL_74 : Cond.methodLink RL 74 yX11_where ∈ TW := List.mem_filter.mpr ⟨tt_4 (List.mem_of_getElem? (i := 229) rfl), rfl⟩
theorem im_X11_where : Cond.instanceMethod yX11_where ∈ TW := List.mem_filter.mpr ⟨tt_4 (List.mem_of_getElem? (i := 230) rfl), rfl⟩
theorem se_X11_where : Cond.selects yX11_where.cls yX11_where yX11_where ∈ TW := List.mem_filter.mpr ⟨tt_4 (List.mem_of_getElem? (i := 231) rfl), rfl⟩
theorem cd_X11_where : Cond.code yX11_where cX11_where 7 (some .int) ∈ TW := List.mem_filter.mpr ⟨tt_4 (List.mem_of_getElem? (i := 232) rfl), rfl⟩
theorem ml_RL_235 : Cond.methodLink RL 235 yL_cheapest ∈ TW := List.mem_filter.mpr ⟨tt_4 (List.mem_of_getElem? (i := 233) rfl), rfl⟩
theorem sm_L_cheapest : Cond.static yL_cheapest ∈ TW := List.mem_filter.mpr ⟨tt_4 (List.mem_of_getElem? (i := 234) rfl), rfl⟩
theorem ml_RL_77 : Cond.methodLink RL 77 yX11_cheapest ∈ TW := List.mem_filter.mpr ⟨tt_4 (List.mem_of_getElem? (i := 236) rfl), rfl⟩
theorem im_X11_cheapest : Cond.instanceMethod yX11_cheapest ∈ TW := List.mem_filter.mpr ⟨tt_4 (List.mem_of_getElem? (i := 237) rfl), rfl⟩
theorem se_X11_cheapest : Cond.selects yX11_cheapest.cls yX11_cheapest yX11_cheapest ∈ TW := List.mem_filter.mpr ⟨tt_4 (List.mem_of_getElem? (i := 238) rfl), rfl⟩
theorem cd_X11_cheapest : Cond.code yX11_cheapest cX11_cheapest 4 (some .int) ∈ TW := List.mem_filter.mpr ⟨tt_4 (List.mem_of_getElem? (i := 239) rfl), rfl⟩
theorem ml_RX11_245 : Cond.methodLink RX11 245 yX4_cheapestIn ∈ TW := List.mem_filter.mpr ⟨tt_5 (List.mem_of_getElem? (i := 0) rfl), rfl⟩
theorem im_X4_cheapestIn : Cond.instanceMethod yX4_cheapestIn ∈ TW := List.mem_filter.mpr ⟨tt_5 (List.mem_of_getElem? (i := 1) rfl), rfl⟩
theorem se_X4_cheapestIn : Cond.selects yX4_cheapestIn.cls yX4_cheapestIn yX4_cheapestIn ∈ TW := List.mem_filter.mpr ⟨tt_5 (List.mem_of_getElem? (i := 2) rfl), rfl⟩
theorem cd_X4_cheapestIn : Cond.code yX4_cheapestIn cX4_cheapestIn 9 (some .int) ∈ TW := List.mem_filter.mpr ⟨tt_5 (List.mem_of_getElem? (i := 3) rfl), rfl⟩
theorem ml_RX4_76 : Cond.methodLink RX4 76 yX2_finesOf ∈ TW := List.mem_filter.mpr ⟨tt_5 (List.mem_of_getElem? (i := 4) rfl), rfl⟩
theorem ml_RL_238 : Cond.methodLink RL 238 yL_freeHours ∈ TW := List.mem_filter.mpr ⟨tt_5 (List.mem_of_getElem? (i := 5) rfl), rfl⟩
theorem sm_L_freeHours : Cond.static yL_freeHours ∈ TW := List.mem_filter.mpr ⟨tt_5 (List.mem_of_getElem? (i := 6) rfl), rfl⟩
theorem ml_RL_80 : Cond.methodLink RL 80 yX11_freeHours ∈ TW := List.mem_filter.mpr ⟨tt_5 (List.mem_of_getElem? (i := 8) rfl), rfl⟩
theorem im_X11_freeHours : Cond.instanceMethod yX11_freeHours ∈ TW := List.mem_filter.mpr ⟨tt_5 (List.mem_of_getElem? (i := 9) rfl), rfl⟩
theorem se_X11_freeHours : Cond.selects yX11_freeHours.cls yX11_freeHours yX11_freeHours ∈ TW := List.mem_filter.mpr ⟨tt_5 (List.mem_of_getElem? (i := 10) rfl), rfl⟩
theorem cd_X11_freeHours : Cond.code yX11_freeHours cX11_freeHours 4 (some .int) ∈ TW := List.mem_filter.mpr ⟨tt_5 (List.mem_of_getElem? (i := 11) rfl), rfl⟩
theorem ml_RX11_248 : Cond.methodLink RX11 248 yX4_manyFree ∈ TW := List.mem_filter.mpr ⟨tt_5 (List.mem_of_getElem? (i := 12) rfl), rfl⟩
theorem im_X4_manyFree : Cond.instanceMethod yX4_manyFree ∈ TW := List.mem_filter.mpr ⟨tt_5 (List.mem_of_getElem? (i := 13) rfl), rfl⟩
theorem se_X4_manyFree : Cond.selects yX4_manyFree.cls yX4_manyFree yX4_manyFree ∈ TW := List.mem_filter.mpr ⟨tt_5 (List.mem_of_getElem? (i := 14) rfl), rfl⟩
theorem cd_X4_manyFree : Cond.code yX4_manyFree cX4_manyFree 6 (some .int) ∈ TW := List.mem_filter.mpr ⟨tt_5 (List.mem_of_getElem? (i := 15) rfl), rfl⟩
theorem ml_RL_241 : Cond.methodLink RL 241 yL_spell ∈ TW := List.mem_filter.mpr ⟨tt_5 (List.mem_of_getElem? (i := 16) rfl), rfl⟩
theorem sm_L_spell : Cond.static yL_spell ∈ TW := List.mem_filter.mpr ⟨tt_5 (List.mem_of_getElem? (i := 17) rfl), rfl⟩
theorem ml_RL_83 : Cond.methodLink RL 83 yX11_spell ∈ TW := List.mem_filter.mpr ⟨tt_5 (List.mem_of_getElem? (i := 19) rfl), rfl⟩
theorem im_X11_spell : Cond.instanceMethod yX11_spell ∈ TW := List.mem_filter.mpr ⟨tt_5 (List.mem_of_getElem? (i := 20) rfl), rfl⟩
theorem se_X11_spell : Cond.selects yX11_spell.cls yX11_spell yX11_spell ∈ TW := List.mem_filter.mpr ⟨tt_5 (List.mem_of_getElem? (i := 21) rfl), rfl⟩
theorem cd_X11_spell : Cond.code yX11_spell cX11_spell 5 (some .int) ∈ TW := List.mem_filter.mpr ⟨tt_5 (List.mem_of_getElem? (i := 22) rfl), rfl⟩
theorem ml_RX11_251 : Cond.methodLink RX11 251 yX4_longestFree ∈ TW := List.mem_filter.mpr ⟨tt_5 (List.mem_of_getElem? (i := 23) rfl), rfl⟩
theorem im_X4_longestFree : Cond.instanceMethod yX4_longestFree ∈ TW := List.mem_filter.mpr ⟨tt_5 (List.mem_of_getElem? (i := 24) rfl), rfl⟩
theorem se_X4_longestFree : Cond.selects yX4_longestFree.cls yX4_longestFree yX4_longestFree ∈ TW := List.mem_filter.mpr ⟨tt_5 (List.mem_of_getElem? (i := 25) rfl), rfl⟩
theorem cd_X4_longestFree : Cond.code yX4_longestFree cX4_longestFree 9 (some .int) ∈ TW := List.mem_filter.mpr ⟨tt_5 (List.mem_of_getElem? (i := 26) rfl), rfl⟩
theorem ml_RL_244 : Cond.methodLink RL 244 yL_lawless ∈ TW := List.mem_filter.mpr ⟨tt_5 (List.mem_of_getElem? (i := 27) rfl), rfl⟩
theorem sm_L_lawless : Cond.static yL_lawless ∈ TW := List.mem_filter.mpr ⟨tt_5 (List.mem_of_getElem? (i := 28) rfl), rfl⟩
theorem ml_RL_86 : Cond.methodLink RL 86 yX11_lawless ∈ TW := List.mem_filter.mpr ⟨tt_5 (List.mem_of_getElem? (i := 30) rfl), rfl⟩
theorem im_X11_lawless : Cond.instanceMethod yX11_lawless ∈ TW := List.mem_filter.mpr ⟨tt_5 (List.mem_of_getElem? (i := 31) rfl), rfl⟩
theorem se_X11_lawless : Cond.selects yX11_lawless.cls yX11_lawless yX11_lawless ∈ TW := List.mem_filter.mpr ⟨tt_5 (List.mem_of_getElem? (i := 32) rfl), rfl⟩
theorem cd_X11_lawless : Cond.code yX11_lawless cX11_lawless 3 (some .int) ∈ TW := List.mem_filter.mpr ⟨tt_5 (List.mem_of_getElem? (i := 33) rfl), rfl⟩
theorem ml_RL_255 : Cond.methodLink RL 255 yL_heat ∈ TW := List.mem_filter.mpr ⟨tt_5 (List.mem_of_getElem? (i := 34) rfl), rfl⟩
theorem sm_L_heat : Cond.static yL_heat ∈ TW := List.mem_filter.mpr ⟨tt_5 (List.mem_of_getElem? (i := 35) rfl), rfl⟩
theorem ml_RL_89 : Cond.methodLink RL 89 yX11_heat ∈ TW := List.mem_filter.mpr ⟨tt_5 (List.mem_of_getElem? (i := 37) rfl), rfl⟩
theorem im_X11_heat : Cond.instanceMethod yX11_heat ∈ TW := List.mem_filter.mpr ⟨tt_5 (List.mem_of_getElem? (i := 38) rfl), rfl⟩
theorem se_X11_heat : Cond.selects yX11_heat.cls yX11_heat yX11_heat ∈ TW := List.mem_filter.mpr ⟨tt_5 (List.mem_of_getElem? (i := 39) rfl), rfl⟩
theorem cd_X11_heat : Cond.code yX11_heat cX11_heat 5 (some .int) ∈ TW := List.mem_filter.mpr ⟨tt_5 (List.mem_of_getElem? (i := 40) rfl), rfl⟩
theorem ml_RX11_258 : Cond.methodLink RX11 258 yX4_heatIn ∈ TW := List.mem_filter.mpr ⟨tt_5 (List.mem_of_getElem? (i := 41) rfl), rfl⟩
theorem im_X4_heatIn : Cond.instanceMethod yX4_heatIn ∈ TW := List.mem_filter.mpr ⟨tt_5 (List.mem_of_getElem? (i := 42) rfl), rfl⟩
theorem se_X4_heatIn : Cond.selects yX4_heatIn.cls yX4_heatIn yX4_heatIn ∈ TW := List.mem_filter.mpr ⟨tt_5 (List.mem_of_getElem? (i := 43) rfl), rfl⟩
theorem cd_X4_heatIn : Cond.code yX4_heatIn cX4_heatIn 7 (some .int) ∈ TW := List.mem_filter.mpr ⟨tt_5 (List.mem_of_getElem? (i := 44) rfl), rfl⟩
theorem ml_RL_258 : Cond.methodLink RL 258 yL_leastHeat ∈ TW := List.mem_filter.mpr ⟨tt_5 (List.mem_of_getElem? (i := 45) rfl), rfl⟩
theorem sm_L_leastHeat : Cond.static yL_leastHeat ∈ TW := List.mem_filter.mpr ⟨tt_5 (List.mem_of_getElem? (i := 46) rfl), rfl⟩
theorem ml_RL_92 : Cond.methodLink RL 92 yX11_leastHeat ∈ TW := List.mem_filter.mpr ⟨tt_5 (List.mem_of_getElem? (i := 48) rfl), rfl⟩
theorem im_X11_leastHeat : Cond.instanceMethod yX11_leastHeat ∈ TW := List.mem_filter.mpr ⟨tt_5 (List.mem_of_getElem? (i := 49) rfl), rfl⟩
theorem se_X11_leastHeat : Cond.selects yX11_leastHeat.cls yX11_leastHeat yX11_leastHeat ∈ TW := List.mem_filter.mpr ⟨tt_5 (List.mem_of_getElem? (i := 50) rfl), rfl⟩
theorem cd_X11_leastHeat : Cond.code yX11_leastHeat cX11_leastHeat 4 (some .int) ∈ TW := List.mem_filter.mpr ⟨tt_5 (List.mem_of_getElem? (i := 51) rfl), rfl⟩
theorem ml_RX11_261 : Cond.methodLink RX11 261 yX4_leastHeated ∈ TW := List.mem_filter.mpr ⟨tt_5 (List.mem_of_getElem? (i := 52) rfl), rfl⟩
theorem im_X4_leastHeated : Cond.instanceMethod yX4_leastHeated ∈ TW := List.mem_filter.mpr ⟨tt_5 (List.mem_of_getElem? (i := 53) rfl), rfl⟩
theorem se_X4_leastHeated : Cond.selects yX4_leastHeated.cls yX4_leastHeated yX4_leastHeated ∈ TW := List.mem_filter.mpr ⟨tt_5 (List.mem_of_getElem? (i := 54) rfl), rfl⟩
theorem cd_X4_leastHeated : Cond.code yX4_leastHeated cX4_leastHeated 8 (some .int) ∈ TW := List.mem_filter.mpr ⟨tt_5 (List.mem_of_getElem? (i := 55) rfl), rfl⟩
theorem ml_RX4_81 : Cond.methodLink RX4 81 yJ7_fill_53178 ∈ TW := List.mem_filter.mpr ⟨tt_5 (List.mem_of_getElem? (i := 56) rfl), rfl⟩
theorem ml_RX4_87 : Cond.methodLink RX4 87 yX4_layHeated ∈ TW := List.mem_filter.mpr ⟨tt_5 (List.mem_of_getElem? (i := 57) rfl), rfl⟩
theorem im_X4_layHeated : Cond.instanceMethod yX4_layHeated ∈ TW := List.mem_filter.mpr ⟨tt_5 (List.mem_of_getElem? (i := 59) rfl), rfl⟩
theorem cd_X4_layHeated : Cond.code yX4_layHeated cX4_layHeated 10 none ∈ TW := List.mem_filter.mpr ⟨tt_5 (List.mem_of_getElem? (i := 60) rfl), rfl⟩
theorem ml_RX4_48 : Cond.methodLink RX4 48 yX7_hourOfDay ∈ TW := List.mem_filter.mpr ⟨tt_5 (List.mem_of_getElem? (i := 61) rfl), rfl⟩
theorem ml_RX4_91 : Cond.methodLink RX4 91 Lib.Math.min.name ∈ TW := List.mem_filter.mpr ⟨tt_5 (List.mem_of_getElem? (i := 62) rfl), rfl⟩
theorem ml_RX4_96 : Cond.methodLink RX4 96 Lib.Math.max.name ∈ TW := List.mem_filter.mpr ⟨tt_5 (List.mem_of_getElem? (i := 63) rfl), rfl⟩
theorem ml_RL_261 : Cond.methodLink RL 261 yL_cover ∈ TW := List.mem_filter.mpr ⟨tt_5 (List.mem_of_getElem? (i := 64) rfl), rfl⟩
theorem sm_L_cover : Cond.static yL_cover ∈ TW := List.mem_filter.mpr ⟨tt_5 (List.mem_of_getElem? (i := 65) rfl), rfl⟩
theorem ml_RL_95 : Cond.methodLink RL 95 yX11_cover ∈ TW := List.mem_filter.mpr ⟨tt_5 (List.mem_of_getElem? (i := 67) rfl), rfl⟩
theorem im_X11_cover : Cond.instanceMethod yX11_cover ∈ TW := List.mem_filter.mpr ⟨tt_5 (List.mem_of_getElem? (i := 68) rfl), rfl⟩
theorem se_X11_cover : Cond.selects yX11_cover.cls yX11_cover yX11_cover ∈ TW := List.mem_filter.mpr ⟨tt_5 (List.mem_of_getElem? (i := 69) rfl), rfl⟩
theorem cd_X11_cover : Cond.code yX11_cover cX11_cover 5 (some .int) ∈ TW := List.mem_filter.mpr ⟨tt_5 (List.mem_of_getElem? (i := 70) rfl), rfl⟩
theorem ml_RX11_264 : Cond.methodLink RX11 264 yX4_coverIn ∈ TW := List.mem_filter.mpr ⟨tt_5 (List.mem_of_getElem? (i := 71) rfl), rfl⟩
theorem im_X4_coverIn : Cond.instanceMethod yX4_coverIn ∈ TW := List.mem_filter.mpr ⟨tt_5 (List.mem_of_getElem? (i := 72) rfl), rfl⟩
theorem se_X4_coverIn : Cond.selects yX4_coverIn.cls yX4_coverIn yX4_coverIn ∈ TW := List.mem_filter.mpr ⟨tt_5 (List.mem_of_getElem? (i := 73) rfl), rfl⟩
theorem cd_X4_coverIn : Cond.code yX4_coverIn cX4_coverIn 8 (some .int) ∈ TW := List.mem_filter.mpr ⟨tt_5 (List.mem_of_getElem? (i := 74) rfl), rfl⟩
theorem ml_RX4_109 : Cond.methodLink RX4 109 yJ6_bitCount_0f7a4 ∈ TW := List.mem_filter.mpr ⟨tt_5 (List.mem_of_getElem? (i := 75) rfl), rfl⟩
theorem ml_RX4_106 : Cond.methodLink RX4 106 yX4_barredHours ∈ TW := List.mem_filter.mpr ⟨tt_5 (List.mem_of_getElem? (i := 76) rfl), rfl⟩
theorem im_X4_barredHours : Cond.instanceMethod yX4_barredHours ∈ TW := List.mem_filter.mpr ⟨tt_5 (List.mem_of_getElem? (i := 78) rfl), rfl⟩
theorem cd_X4_barredHours : Cond.code yX4_barredHours cX4_barredHours 5 (some .int) ∈ TW := List.mem_filter.mpr ⟨tt_5 (List.mem_of_getElem? (i := 79) rfl), rfl⟩
theorem ml_RL_264 : Cond.methodLink RL 264 yL_widen ∈ TW := List.mem_filter.mpr ⟨tt_5 (List.mem_of_getElem? (i := 80) rfl), rfl⟩
theorem sm_L_widen : Cond.static yL_widen ∈ TW := List.mem_filter.mpr ⟨tt_5 (List.mem_of_getElem? (i := 81) rfl), rfl⟩
theorem ml_RL_98 : Cond.methodLink RL 98 yX11_widen ∈ TW := List.mem_filter.mpr ⟨tt_5 (List.mem_of_getElem? (i := 83) rfl), rfl⟩
theorem im_X11_widen : Cond.instanceMethod yX11_widen ∈ TW := List.mem_filter.mpr ⟨tt_5 (List.mem_of_getElem? (i := 84) rfl), rfl⟩
theorem se_X11_widen : Cond.selects yX11_widen.cls yX11_widen yX11_widen ∈ TW := List.mem_filter.mpr ⟨tt_5 (List.mem_of_getElem? (i := 85) rfl), rfl⟩
theorem cd_X11_widen : Cond.code yX11_widen cX11_widen 7 (some .int) ∈ TW := List.mem_filter.mpr ⟨tt_5 (List.mem_of_getElem? (i := 86) rfl), rfl⟩
theorem ml_RL_267 : Cond.methodLink RL 267 yL_heaviest ∈ TW := List.mem_filter.mpr ⟨tt_5 (List.mem_of_getElem? (i := 87) rfl), rfl⟩
theorem sm_L_heaviest : Cond.static yL_heaviest ∈ TW := List.mem_filter.mpr ⟨tt_5 (List.mem_of_getElem? (i := 88) rfl), rfl⟩
theorem ml_RL_101 : Cond.methodLink RL 101 yX11_heaviest ∈ TW := List.mem_filter.mpr ⟨tt_5 (List.mem_of_getElem? (i := 90) rfl), rfl⟩
theorem im_X11_heaviest : Cond.instanceMethod yX11_heaviest ∈ TW := List.mem_filter.mpr ⟨tt_5 (List.mem_of_getElem? (i := 91) rfl), rfl⟩
theorem se_X11_heaviest : Cond.selects yX11_heaviest.cls yX11_heaviest yX11_heaviest ∈ TW := List.mem_filter.mpr ⟨tt_5 (List.mem_of_getElem? (i := 92) rfl), rfl⟩
theorem cd_X11_heaviest : Cond.code yX11_heaviest cX11_heaviest 2 (some .int) ∈ TW := List.mem_filter.mpr ⟨tt_5 (List.mem_of_getElem? (i := 93) rfl), rfl⟩
theorem ml_RX11_267 : Cond.methodLink RX11 267 yX4_heaviestIn ∈ TW := List.mem_filter.mpr ⟨tt_5 (List.mem_of_getElem? (i := 94) rfl), rfl⟩
theorem im_X4_heaviestIn : Cond.instanceMethod yX4_heaviestIn ∈ TW := List.mem_filter.mpr ⟨tt_5 (List.mem_of_getElem? (i := 95) rfl), rfl⟩
theorem se_X4_heaviestIn : Cond.selects yX4_heaviestIn.cls yX4_heaviestIn yX4_heaviestIn ∈ TW := List.mem_filter.mpr ⟨tt_5 (List.mem_of_getElem? (i := 96) rfl), rfl⟩
theorem cd_X4_heaviestIn : Cond.code yX4_heaviestIn cX4_heaviestIn 7 (some .int) ∈ TW := List.mem_filter.mpr ⟨tt_5 (List.mem_of_getElem? (i := 97) rfl), rfl⟩
theorem ml_RL_270 : Cond.methodLink RL 270 yL_freeWay ∈ TW := List.mem_filter.mpr ⟨tt_5 (List.mem_of_getElem? (i := 98) rfl), rfl⟩
theorem sm_L_freeWay : Cond.static yL_freeWay ∈ TW := List.mem_filter.mpr ⟨tt_5 (List.mem_of_getElem? (i := 99) rfl), rfl⟩
theorem ml_RL_104 : Cond.methodLink RL 104 yX11_freeWay ∈ TW := List.mem_filter.mpr ⟨tt_5 (List.mem_of_getElem? (i := 101) rfl), rfl⟩
theorem im_X11_freeWay : Cond.instanceMethod yX11_freeWay ∈ TW := List.mem_filter.mpr ⟨tt_5 (List.mem_of_getElem? (i := 102) rfl), rfl⟩
theorem se_X11_freeWay : Cond.selects yX11_freeWay.cls yX11_freeWay yX11_freeWay ∈ TW := List.mem_filter.mpr ⟨tt_5 (List.mem_of_getElem? (i := 103) rfl), rfl⟩
theorem cd_X11_freeWay : Cond.code yX11_freeWay cX11_freeWay 4 (some .int) ∈ TW := List.mem_filter.mpr ⟨tt_5 (List.mem_of_getElem? (i := 104) rfl), rfl⟩
theorem ml_RX11_270 : Cond.methodLink RX11 270 yX11_needWay ∈ TW := List.mem_filter.mpr ⟨tt_5 (List.mem_of_getElem? (i := 105) rfl), rfl⟩
theorem im_X11_needWay : Cond.instanceMethod yX11_needWay ∈ TW := List.mem_filter.mpr ⟨tt_5 (List.mem_of_getElem? (i := 107) rfl), rfl⟩
theorem cd_X11_needWay : Cond.code yX11_needWay cX11_needWay 4 none ∈ TW := List.mem_filter.mpr ⟨tt_5 (List.mem_of_getElem? (i := 108) rfl), rfl⟩
theorem ml_RX11_273 : Cond.methodLink RX11 273 yX11_waysOf ∈ TW := List.mem_filter.mpr ⟨tt_5 (List.mem_of_getElem? (i := 109) rfl), rfl⟩
theorem im_X11_waysOf : Cond.instanceMethod yX11_waysOf ∈ TW := List.mem_filter.mpr ⟨tt_5 (List.mem_of_getElem? (i := 111) rfl), rfl⟩
theorem cd_X11_waysOf : Cond.code yX11_waysOf cX11_waysOf 3 (some (.object "DegreeLaws$Ways")) ∈ TW := List.mem_filter.mpr ⟨tt_5 (List.mem_of_getElem? (i := 112) rfl), rfl⟩
theorem cl_RX11_278 : Cond.classLink RX11 278 RX10 ∈ TW := List.mem_filter.mpr ⟨tt_5 (List.mem_of_getElem? (i := 113) rfl), rfl⟩
theorem ib_RX10 : Cond.instantiable RX10 8 ∈ TW := List.mem_filter.mpr ⟨tt_5 (List.mem_of_getElem? (i := 114) rfl), rfl⟩
theorem ml_RX11_302 : Cond.methodLink RX11 302 yX10_init ∈ TW := List.mem_filter.mpr ⟨tt_5 (List.mem_of_getElem? (i := 115) rfl), rfl⟩
theorem im_X10_init : Cond.instanceMethod yX10_init ∈ TW := List.mem_filter.mpr ⟨tt_5 (List.mem_of_getElem? (i := 116) rfl), rfl⟩
theorem cd_X10_init : Cond.code yX10_init cX10_init 2 none ∈ TW := List.mem_filter.mpr ⟨tt_5 (List.mem_of_getElem? (i := 117) rfl), rfl⟩
theorem ml_RX10_3 : Cond.methodLink RX10 3 Lib.objectInit ∈ TW := List.mem_filter.mpr ⟨tt_5 (List.mem_of_getElem? (i := 118) rfl), rfl⟩
theorem fl_RX10_34 : flk RX10 34 10 0 := ⟨by decide, (RX10, TX10, 8), rfl, by decide, List.mem_filter.mpr ⟨tt_5 (List.mem_of_getElem? (i := 119) rfl), rfl⟩⟩
theorem fl_RX10_9 : flk RX10 9 10 1 := ⟨by decide, (RX10, TX10, 8), rfl, by decide, List.mem_filter.mpr ⟨tt_5 (List.mem_of_getElem? (i := 120) rfl), rfl⟩⟩
theorem fl_RX10_15 : flk RX10 15 10 2 := ⟨by decide, (RX10, TX10, 8), rfl, by decide, List.mem_filter.mpr ⟨tt_5 (List.mem_of_getElem? (i := 121) rfl), rfl⟩⟩
theorem fl_RX10_18 : flk RX10 18 10 3 := ⟨by decide, (RX10, TX10, 8), rfl, by decide, List.mem_filter.mpr ⟨tt_5 (List.mem_of_getElem? (i := 122) rfl), rfl⟩⟩
theorem fl_RX10_21 : flk RX10 21 10 4 := ⟨by decide, (RX10, TX10, 8), rfl, by decide, List.mem_filter.mpr ⟨tt_5 (List.mem_of_getElem? (i := 123) rfl), rfl⟩⟩
theorem fl_RX10_24 : flk RX10 24 10 5 := ⟨by decide, (RX10, TX10, 8), rfl, by decide, List.mem_filter.mpr ⟨tt_5 (List.mem_of_getElem? (i := 124) rfl), rfl⟩⟩
theorem fl_RX10_27 : flk RX10 27 10 6 := ⟨by decide, (RX10, TX10, 8), rfl, by decide, List.mem_filter.mpr ⟨tt_5 (List.mem_of_getElem? (i := 125) rfl), rfl⟩⟩
theorem fl_RX10_31 : flk RX10 31 10 7 := ⟨by decide, (RX10, TX10, 8), rfl, by decide, List.mem_filter.mpr ⟨tt_5 (List.mem_of_getElem? (i := 126) rfl), rfl⟩⟩
theorem ml_RX11_303 : Cond.methodLink RX11 303 yX10_layOut ∈ TW := List.mem_filter.mpr ⟨tt_5 (List.mem_of_getElem? (i := 144) rfl), rfl⟩
theorem im_X10_layOut : Cond.instanceMethod yX10_layOut ∈ TW := List.mem_filter.mpr ⟨tt_5 (List.mem_of_getElem? (i := 145) rfl), rfl⟩
theorem se_X10_layOut : Cond.selects yX10_layOut.cls yX10_layOut yX10_layOut ∈ TW := List.mem_filter.mpr ⟨tt_5 (List.mem_of_getElem? (i := 146) rfl), rfl⟩
theorem cd_X10_layOut : Cond.code yX10_layOut cX10_layOut 8 none ∈ TW := List.mem_filter.mpr ⟨tt_5 (List.mem_of_getElem? (i := 147) rfl), rfl⟩
theorem ml_RX10_38 : Cond.methodLink RX10 38 yX7_actsOf ∈ TW := List.mem_filter.mpr ⟨tt_5 (List.mem_of_getElem? (i := 148) rfl), rfl⟩
theorem ml_RX10_57 : Cond.methodLink RX10 57 yX7_degreeIn ∈ TW := List.mem_filter.mpr ⟨tt_5 (List.mem_of_getElem? (i := 149) rfl), rfl⟩
theorem ml_RX10_61 : Cond.methodLink RX10 61 yX7_inForce ∈ TW := List.mem_filter.mpr ⟨tt_5 (List.mem_of_getElem? (i := 150) rfl), rfl⟩
theorem ml_RX10_65 : Cond.methodLink RX10 65 yX2_finesOf ∈ TW := List.mem_filter.mpr ⟨tt_5 (List.mem_of_getElem? (i := 151) rfl), rfl⟩
theorem ml_RX11_277 : Cond.methodLink RX11 277 yX10_soonestFree ∈ TW := List.mem_filter.mpr ⟨tt_5 (List.mem_of_getElem? (i := 152) rfl), rfl⟩
theorem im_X10_soonestFree : Cond.instanceMethod yX10_soonestFree ∈ TW := List.mem_filter.mpr ⟨tt_5 (List.mem_of_getElem? (i := 153) rfl), rfl⟩
theorem se_X10_soonestFree : Cond.selects yX10_soonestFree.cls yX10_soonestFree yX10_soonestFree ∈ TW := List.mem_filter.mpr ⟨tt_5 (List.mem_of_getElem? (i := 154) rfl), rfl⟩
theorem cd_X10_soonestFree : Cond.code yX10_soonestFree cX10_soonestFree 6 (some .int) ∈ TW := List.mem_filter.mpr ⟨tt_5 (List.mem_of_getElem? (i := 155) rfl), rfl⟩
theorem ml_RX10_74 : Cond.methodLink RX10 74 yX10_stepFromAll ∈ TW := List.mem_filter.mpr ⟨tt_5 (List.mem_of_getElem? (i := 156) rfl), rfl⟩
theorem im_X10_stepFromAll : Cond.instanceMethod yX10_stepFromAll ∈ TW := List.mem_filter.mpr ⟨tt_5 (List.mem_of_getElem? (i := 158) rfl), rfl⟩
theorem cd_X10_stepFromAll : Cond.code yX10_stepFromAll cX10_stepFromAll 4 (some .int) ∈ TW := List.mem_filter.mpr ⟨tt_5 (List.mem_of_getElem? (i := 159) rfl), rfl⟩
theorem ml_RX10_71 : Cond.methodLink RX10 71 yX10_stepFrom ∈ TW := List.mem_filter.mpr ⟨tt_5 (List.mem_of_getElem? (i := 160) rfl), rfl⟩
theorem im_X10_stepFrom : Cond.instanceMethod yX10_stepFrom ∈ TW := List.mem_filter.mpr ⟨tt_5 (List.mem_of_getElem? (i := 162) rfl), rfl⟩
theorem cd_X10_stepFrom : Cond.code yX10_stepFrom cX10_stepFrom 2 (some .int) ∈ TW := List.mem_filter.mpr ⟨tt_5 (List.mem_of_getElem? (i := 163) rfl), rfl⟩
theorem ml_RL_273 : Cond.methodLink RL 273 yL_freeAt ∈ TW := List.mem_filter.mpr ⟨tt_5 (List.mem_of_getElem? (i := 164) rfl), rfl⟩
theorem sm_L_freeAt : Cond.static yL_freeAt ∈ TW := List.mem_filter.mpr ⟨tt_5 (List.mem_of_getElem? (i := 165) rfl), rfl⟩
theorem ml_RL_107 : Cond.methodLink RL 107 yX11_freeAt ∈ TW := List.mem_filter.mpr ⟨tt_5 (List.mem_of_getElem? (i := 167) rfl), rfl⟩
theorem im_X11_freeAt : Cond.instanceMethod yX11_freeAt ∈ TW := List.mem_filter.mpr ⟨tt_5 (List.mem_of_getElem? (i := 168) rfl), rfl⟩
theorem se_X11_freeAt : Cond.selects yX11_freeAt.cls yX11_freeAt yX11_freeAt ∈ TW := List.mem_filter.mpr ⟨tt_5 (List.mem_of_getElem? (i := 169) rfl), rfl⟩
theorem cd_X11_freeAt : Cond.code yX11_freeAt cX11_freeAt 5 (some .int) ∈ TW := List.mem_filter.mpr ⟨tt_5 (List.mem_of_getElem? (i := 170) rfl), rfl⟩
theorem ml_RX11_282 : Cond.methodLink RX11 282 yX11_needNotBelowZero ∈ TW := List.mem_filter.mpr ⟨tt_5 (List.mem_of_getElem? (i := 171) rfl), rfl⟩
theorem sm_X11_needNotBelowZero : Cond.static yX11_needNotBelowZero ∈ TW := List.mem_filter.mpr ⟨tt_5 (List.mem_of_getElem? (i := 172) rfl), rfl⟩
theorem cd_X11_needNotBelowZero : Cond.code yX11_needNotBelowZero cX11_needNotBelowZero 1 none ∈ TW := List.mem_filter.mpr ⟨tt_5 (List.mem_of_getElem? (i := 173) rfl), rfl⟩
theorem ml_RX11_285 : Cond.methodLink RX11 285 yX10_wardOnFirst ∈ TW := List.mem_filter.mpr ⟨tt_5 (List.mem_of_getElem? (i := 175) rfl), rfl⟩
theorem im_X10_wardOnFirst : Cond.instanceMethod yX10_wardOnFirst ∈ TW := List.mem_filter.mpr ⟨tt_5 (List.mem_of_getElem? (i := 176) rfl), rfl⟩
theorem se_X10_wardOnFirst : Cond.selects yX10_wardOnFirst.cls yX10_wardOnFirst yX10_wardOnFirst ∈ TW := List.mem_filter.mpr ⟨tt_5 (List.mem_of_getElem? (i := 177) rfl), rfl⟩
theorem cd_X10_wardOnFirst : Cond.code yX10_wardOnFirst cX10_wardOnFirst 7 (some .int) ∈ TW := List.mem_filter.mpr ⟨tt_5 (List.mem_of_getElem? (i := 178) rfl), rfl⟩
theorem ml_RX10_77 : Cond.methodLink RX10 77 yX10_soonestFree ∈ TW := List.mem_filter.mpr ⟨tt_5 (List.mem_of_getElem? (i := 179) rfl), rfl⟩
theorem ml_RX10_81 : Cond.methodLink RX10 81 yX10_firstOf ∈ TW := List.mem_filter.mpr ⟨tt_5 (List.mem_of_getElem? (i := 180) rfl), rfl⟩
theorem sm_X10_firstOf : Cond.static yX10_firstOf ∈ TW := List.mem_filter.mpr ⟨tt_5 (List.mem_of_getElem? (i := 181) rfl), rfl⟩
theorem cd_X10_firstOf : Cond.code yX10_firstOf cX10_firstOf 2 (some .int) ∈ TW := List.mem_filter.mpr ⟨tt_5 (List.mem_of_getElem? (i := 182) rfl), rfl⟩
theorem ml_RL_276 : Cond.methodLink RL 276 yL_wayFine ∈ TW := List.mem_filter.mpr ⟨tt_5 (List.mem_of_getElem? (i := 183) rfl), rfl⟩
theorem sm_L_wayFine : Cond.static yL_wayFine ∈ TW := List.mem_filter.mpr ⟨tt_5 (List.mem_of_getElem? (i := 184) rfl), rfl⟩
theorem ml_RL_110 : Cond.methodLink RL 110 yX11_wayFine ∈ TW := List.mem_filter.mpr ⟨tt_5 (List.mem_of_getElem? (i := 186) rfl), rfl⟩
theorem im_X11_wayFine : Cond.instanceMethod yX11_wayFine ∈ TW := List.mem_filter.mpr ⟨tt_5 (List.mem_of_getElem? (i := 187) rfl), rfl⟩
theorem se_X11_wayFine : Cond.selects yX11_wayFine.cls yX11_wayFine yX11_wayFine ∈ TW := List.mem_filter.mpr ⟨tt_5 (List.mem_of_getElem? (i := 188) rfl), rfl⟩
theorem cd_X11_wayFine : Cond.code yX11_wayFine cX11_wayFine 5 (some .int) ∈ TW := List.mem_filter.mpr ⟨tt_5 (List.mem_of_getElem? (i := 189) rfl), rfl⟩
theorem ml_RX11_288 : Cond.methodLink RX11 288 yX10_leastFined ∈ TW := List.mem_filter.mpr ⟨tt_5 (List.mem_of_getElem? (i := 190) rfl), rfl⟩
theorem im_X10_leastFined : Cond.instanceMethod yX10_leastFined ∈ TW := List.mem_filter.mpr ⟨tt_5 (List.mem_of_getElem? (i := 191) rfl), rfl⟩
theorem se_X10_leastFined : Cond.selects yX10_leastFined.cls yX10_leastFined yX10_leastFined ∈ TW := List.mem_filter.mpr ⟨tt_5 (List.mem_of_getElem? (i := 192) rfl), rfl⟩
theorem cd_X10_leastFined : Cond.code yX10_leastFined cX10_leastFined 7 (some .int) ∈ TW := List.mem_filter.mpr ⟨tt_5 (List.mem_of_getElem? (i := 193) rfl), rfl⟩
theorem ml_RX10_84 : Cond.methodLink RX10 84 yJ7_fill_53178 ∈ TW := List.mem_filter.mpr ⟨tt_5 (List.mem_of_getElem? (i := 194) rfl), rfl⟩
theorem ml_RX10_90 : Cond.methodLink RX10 90 yX10_leastAmong ∈ TW := List.mem_filter.mpr ⟨tt_5 (List.mem_of_getElem? (i := 195) rfl), rfl⟩
theorem im_X10_leastAmong : Cond.instanceMethod yX10_leastAmong ∈ TW := List.mem_filter.mpr ⟨tt_5 (List.mem_of_getElem? (i := 197) rfl), rfl⟩
theorem cd_X10_leastAmong : Cond.code yX10_leastAmong cX10_leastAmong 4 (some .int) ∈ TW := List.mem_filter.mpr ⟨tt_5 (List.mem_of_getElem? (i := 198) rfl), rfl⟩
theorem ml_RX10_93 : Cond.methodLink RX10 93 ⟨"java/lang/System", "arraycopy", "(Ljava/lang/Object;ILjava/lang/Object;II)V"⟩ ∈ TW := List.mem_filter.mpr ⟨tt_5 (List.mem_of_getElem? (i := 199) rfl), rfl⟩
theorem ml_RL_279 : Cond.methodLink RL 279 yL_freeWays ∈ TW := List.mem_filter.mpr ⟨tt_5 (List.mem_of_getElem? (i := 200) rfl), rfl⟩
theorem sm_L_freeWays : Cond.static yL_freeWays ∈ TW := List.mem_filter.mpr ⟨tt_5 (List.mem_of_getElem? (i := 201) rfl), rfl⟩
theorem ml_RL_113 : Cond.methodLink RL 113 yX11_freeWays ∈ TW := List.mem_filter.mpr ⟨tt_5 (List.mem_of_getElem? (i := 203) rfl), rfl⟩
theorem im_X11_freeWays : Cond.instanceMethod yX11_freeWays ∈ TW := List.mem_filter.mpr ⟨tt_5 (List.mem_of_getElem? (i := 204) rfl), rfl⟩
theorem se_X11_freeWays : Cond.selects yX11_freeWays.cls yX11_freeWays yX11_freeWays ∈ TW := List.mem_filter.mpr ⟨tt_5 (List.mem_of_getElem? (i := 205) rfl), rfl⟩
theorem cd_X11_freeWays : Cond.code yX11_freeWays cX11_freeWays 5 (some .long) ∈ TW := List.mem_filter.mpr ⟨tt_5 (List.mem_of_getElem? (i := 206) rfl), rfl⟩
theorem ml_RX11_291 : Cond.methodLink RX11 291 yX10_manyFree ∈ TW := List.mem_filter.mpr ⟨tt_5 (List.mem_of_getElem? (i := 207) rfl), rfl⟩
theorem im_X10_manyFree : Cond.instanceMethod yX10_manyFree ∈ TW := List.mem_filter.mpr ⟨tt_5 (List.mem_of_getElem? (i := 208) rfl), rfl⟩
theorem se_X10_manyFree : Cond.selects yX10_manyFree.cls yX10_manyFree yX10_manyFree ∈ TW := List.mem_filter.mpr ⟨tt_5 (List.mem_of_getElem? (i := 209) rfl), rfl⟩
theorem cd_X10_manyFree : Cond.code yX10_manyFree cX10_manyFree 6 (some .long) ∈ TW := List.mem_filter.mpr ⟨tt_5 (List.mem_of_getElem? (i := 210) rfl), rfl⟩
theorem ml_RX10_99 : Cond.methodLink RX10 99 yJ7_fill_d0a16 ∈ TW := List.mem_filter.mpr ⟨tt_5 (List.mem_of_getElem? (i := 211) rfl), rfl⟩
theorem sm_J7_fill_d0a16 : Cond.static yJ7_fill_d0a16 ∈ TW := List.mem_filter.mpr ⟨tt_5 (List.mem_of_getElem? (i := 212) rfl), rfl⟩
theorem cd_J7_fill_d0a16 : Cond.code yJ7_fill_d0a16 cJ7_fill_d0a16 5 none ∈ TW := List.mem_filter.mpr ⟨tt_5 (List.mem_of_getElem? (i := 213) rfl), rfl⟩
theorem ml_RX10_102 : Cond.methodLink RX10 102 yX10_manyAmong ∈ TW := List.mem_filter.mpr ⟨tt_5 (List.mem_of_getElem? (i := 214) rfl), rfl⟩
theorem im_X10_manyAmong : Cond.instanceMethod yX10_manyAmong ∈ TW := List.mem_filter.mpr ⟨tt_5 (List.mem_of_getElem? (i := 216) rfl), rfl⟩
theorem cd_X10_manyAmong : Cond.code yX10_manyAmong cX10_manyAmong 5 (some .long) ∈ TW := List.mem_filter.mpr ⟨tt_5 (List.mem_of_getElem? (i := 217) rfl), rfl⟩
theorem ml_RL_282 : Cond.methodLink RL 282 yL_guard ∈ TW := List.mem_filter.mpr ⟨tt_5 (List.mem_of_getElem? (i := 218) rfl), rfl⟩
theorem sm_L_guard : Cond.static yL_guard ∈ TW := List.mem_filter.mpr ⟨tt_5 (List.mem_of_getElem? (i := 219) rfl), rfl⟩
theorem ml_RL_117 : Cond.methodLink RL 117 yX11_guard ∈ TW := List.mem_filter.mpr ⟨tt_5 (List.mem_of_getElem? (i := 221) rfl), rfl⟩
theorem im_X11_guard : Cond.instanceMethod yX11_guard ∈ TW := List.mem_filter.mpr ⟨tt_5 (List.mem_of_getElem? (i := 222) rfl), rfl⟩
theorem se_X11_guard : Cond.selects yX11_guard.cls yX11_guard yX11_guard ∈ TW := List.mem_filter.mpr ⟨tt_5 (List.mem_of_getElem? (i := 223) rfl), rfl⟩
theorem cd_X11_guard : Cond.code yX11_guard cX11_guard 4 (some .int) ∈ TW := List.mem_filter.mpr ⟨tt_5 (List.mem_of_getElem? (i := 224) rfl), rfl⟩
theorem ml_RX11_299 : Cond.methodLink RX11 299 yX10_bestGuard ∈ TW := List.mem_filter.mpr ⟨tt_5 (List.mem_of_getElem? (i := 226) rfl), rfl⟩
theorem im_X10_bestGuard : Cond.instanceMethod yX10_bestGuard ∈ TW := List.mem_filter.mpr ⟨tt_5 (List.mem_of_getElem? (i := 227) rfl), rfl⟩
theorem se_X10_bestGuard : Cond.selects yX10_bestGuard.cls yX10_bestGuard yX10_bestGuard ∈ TW := List.mem_filter.mpr ⟨tt_5 (List.mem_of_getElem? (i := 228) rfl), rfl⟩
theorem cd_X10_bestGuard : Cond.code yX10_bestGuard cX10_bestGuard 8 (some .int) ∈ TW := List.mem_filter.mpr ⟨tt_5 (List.mem_of_getElem? (i := 229) rfl), rfl⟩
theorem ml_RL_285 : Cond.methodLink RL 285 yL_errands ∈ TW := List.mem_filter.mpr ⟨tt_5 (List.mem_of_getElem? (i := 230) rfl), rfl⟩
theorem sm_L_errands : Cond.static yL_errands ∈ TW := List.mem_filter.mpr ⟨tt_5 (List.mem_of_getElem? (i := 231) rfl), rfl⟩
theorem ml_RL_120 : Cond.methodLink RL 120 yX11_errands ∈ TW := List.mem_filter.mpr ⟨tt_5 (List.mem_of_getElem? (i := 233) rfl), rfl⟩
theorem im_X11_errands : Cond.instanceMethod yX11_errands ∈ TW := List.mem_filter.mpr ⟨tt_5 (List.mem_of_getElem? (i := 234) rfl), rfl⟩
theorem se_X11_errands : Cond.selects yX11_errands.cls yX11_errands yX11_errands ∈ TW := List.mem_filter.mpr ⟨tt_5 (List.mem_of_getElem? (i := 235) rfl), rfl⟩
theorem cd_X11_errands : Cond.code yX11_errands cX11_errands 3 (some .int) ∈ TW := List.mem_filter.mpr ⟨tt_5 (List.mem_of_getElem? (i := 236) rfl), rfl⟩
theorem ml_RX11_307 : Cond.methodLink RX11 307 yX11_needErrands ∈ TW := List.mem_filter.mpr ⟨tt_5 (List.mem_of_getElem? (i := 237) rfl), rfl⟩
theorem im_X11_needErrands : Cond.instanceMethod yX11_needErrands ∈ TW := List.mem_filter.mpr ⟨tt_5 (List.mem_of_getElem? (i := 239) rfl), rfl⟩
theorem cd_X11_needErrands : Cond.code yX11_needErrands cX11_needErrands 3 none ∈ TW := List.mem_filter.mpr ⟨tt_6 (List.mem_of_getElem? (i := 0) rfl), rfl⟩
theorem ml_RX11_410 : Cond.methodLink RX11 410 yX7_isDeed ∈ TW := List.mem_filter.mpr ⟨tt_6 (List.mem_of_getElem? (i := 1) rfl), rfl⟩
theorem ml_RX11_310 : Cond.methodLink RX11 310 yX11_agendaOf ∈ TW := List.mem_filter.mpr ⟨tt_6 (List.mem_of_getElem? (i := 3) rfl), rfl⟩
theorem im_X11_agendaOf : Cond.instanceMethod yX11_agendaOf ∈ TW := List.mem_filter.mpr ⟨tt_6 (List.mem_of_getElem? (i := 5) rfl), rfl⟩
theorem cd_X11_agendaOf : Cond.code yX11_agendaOf cX11_agendaOf 2 (some (.object "DegreeLaws$Agenda")) ∈ TW := List.mem_filter.mpr ⟨tt_6 (List.mem_of_getElem? (i := 6) rfl), rfl⟩
theorem cl_RX11_315 : Cond.classLink RX11 315 RX0 ∈ TW := List.mem_filter.mpr ⟨tt_6 (List.mem_of_getElem? (i := 7) rfl), rfl⟩
theorem ib_RX0 : Cond.instantiable RX0 7 ∈ TW := List.mem_filter.mpr ⟨tt_6 (List.mem_of_getElem? (i := 8) rfl), rfl⟩
theorem ml_RX11_328 : Cond.methodLink RX11 328 yX0_init ∈ TW := List.mem_filter.mpr ⟨tt_6 (List.mem_of_getElem? (i := 9) rfl), rfl⟩
theorem im_X0_init : Cond.instanceMethod yX0_init ∈ TW := List.mem_filter.mpr ⟨tt_6 (List.mem_of_getElem? (i := 10) rfl), rfl⟩
theorem cd_X0_init : Cond.code yX0_init cX0_init 2 none ∈ TW := List.mem_filter.mpr ⟨tt_6 (List.mem_of_getElem? (i := 11) rfl), rfl⟩
theorem ml_RX0_3 : Cond.methodLink RX0 3 Lib.objectInit ∈ TW := List.mem_filter.mpr ⟨tt_6 (List.mem_of_getElem? (i := 12) rfl), rfl⟩
theorem fl_RX0_32 : flk RX0 32 0 0 := ⟨by decide, (RX0, TX0, 7), rfl, by decide, List.mem_filter.mpr ⟨tt_6 (List.mem_of_getElem? (i := 13) rfl), rfl⟩⟩
theorem fl_RX0_9 : flk RX0 9 0 1 := ⟨by decide, (RX0, TX0, 7), rfl, by decide, List.mem_filter.mpr ⟨tt_6 (List.mem_of_getElem? (i := 14) rfl), rfl⟩⟩
theorem fl_RX0_15 : flk RX0 15 0 2 := ⟨by decide, (RX0, TX0, 7), rfl, by decide, List.mem_filter.mpr ⟨tt_6 (List.mem_of_getElem? (i := 15) rfl), rfl⟩⟩
theorem fl_RX0_19 : flk RX0 19 0 3 := ⟨by decide, (RX0, TX0, 7), rfl, by decide, List.mem_filter.mpr ⟨tt_6 (List.mem_of_getElem? (i := 16) rfl), rfl⟩⟩
theorem fl_RX0_23 : flk RX0 23 0 4 := ⟨by decide, (RX0, TX0, 7), rfl, by decide, List.mem_filter.mpr ⟨tt_6 (List.mem_of_getElem? (i := 17) rfl), rfl⟩⟩
theorem fl_RX0_26 : flk RX0 26 0 5 := ⟨by decide, (RX0, TX0, 7), rfl, by decide, List.mem_filter.mpr ⟨tt_6 (List.mem_of_getElem? (i := 18) rfl), rfl⟩⟩
theorem fl_RX0_29 : flk RX0 29 0 6 := ⟨by decide, (RX0, TX0, 7), rfl, by decide, List.mem_filter.mpr ⟨tt_6 (List.mem_of_getElem? (i := 19) rfl), rfl⟩⟩
theorem fl_RX11_322 : flk RX11 322 0 6 := ⟨by decide, (RX0, TX0, 7), rfl, by decide, List.mem_filter.mpr ⟨tt_6 (List.mem_of_getElem? (i := 20) rfl), rfl⟩⟩
theorem ml_RX11_329 : Cond.methodLink RX11 329 yX0_take ∈ TW := List.mem_filter.mpr ⟨tt_6 (List.mem_of_getElem? (i := 36) rfl), rfl⟩
theorem im_X0_take : Cond.instanceMethod yX0_take ∈ TW := List.mem_filter.mpr ⟨tt_6 (List.mem_of_getElem? (i := 37) rfl), rfl⟩
theorem se_X0_take : Cond.selects yX0_take.cls yX0_take yX0_take ∈ TW := List.mem_filter.mpr ⟨tt_6 (List.mem_of_getElem? (i := 38) rfl), rfl⟩
theorem cd_X0_take : Cond.code yX0_take cX0_take 3 none ∈ TW := List.mem_filter.mpr ⟨tt_6 (List.mem_of_getElem? (i := 39) rfl), rfl⟩
theorem ml_RX0_39 : Cond.methodLink RX0 39 Lib.Math.min.name ∈ TW := List.mem_filter.mpr ⟨tt_6 (List.mem_of_getElem? (i := 40) rfl), rfl⟩
theorem ml_RX0_48 : Cond.methodLink RX0 48 yJ7_fill_031fb ∈ TW := List.mem_filter.mpr ⟨tt_6 (List.mem_of_getElem? (i := 41) rfl), rfl⟩
theorem sm_J7_fill_031fb : Cond.static yJ7_fill_031fb ∈ TW := List.mem_filter.mpr ⟨tt_6 (List.mem_of_getElem? (i := 42) rfl), rfl⟩
theorem cd_J7_fill_031fb : Cond.code yJ7_fill_031fb cJ7_fill_031fb 4 none ∈ TW := List.mem_filter.mpr ⟨tt_6 (List.mem_of_getElem? (i := 43) rfl), rfl⟩
theorem ml_RX11_314 : Cond.methodLink RX11 314 yX0_endInOrder ∈ TW := List.mem_filter.mpr ⟨tt_6 (List.mem_of_getElem? (i := 44) rfl), rfl⟩
theorem im_X0_endInOrder : Cond.instanceMethod yX0_endInOrder ∈ TW := List.mem_filter.mpr ⟨tt_6 (List.mem_of_getElem? (i := 45) rfl), rfl⟩
theorem se_X0_endInOrder : Cond.selects yX0_endInOrder.cls yX0_endInOrder yX0_endInOrder ∈ TW := List.mem_filter.mpr ⟨tt_6 (List.mem_of_getElem? (i := 46) rfl), rfl⟩
theorem cd_X0_endInOrder : Cond.code yX0_endInOrder cX0_endInOrder 3 (some .int) ∈ TW := List.mem_filter.mpr ⟨tt_6 (List.mem_of_getElem? (i := 47) rfl), rfl⟩
theorem ml_RX0_77 : Cond.methodLink RX0 77 yX0_endOf ∈ TW := List.mem_filter.mpr ⟨tt_6 (List.mem_of_getElem? (i := 48) rfl), rfl⟩
theorem im_X0_endOf : Cond.instanceMethod yX0_endOf ∈ TW := List.mem_filter.mpr ⟨tt_6 (List.mem_of_getElem? (i := 50) rfl), rfl⟩
theorem cd_X0_endOf : Cond.code yX0_endOf cX0_endOf 7 (some .int) ∈ TW := List.mem_filter.mpr ⟨tt_6 (List.mem_of_getElem? (i := 51) rfl), rfl⟩
theorem ml_RX0_70 : Cond.methodLink RX0 70 yX7_measured ∈ TW := List.mem_filter.mpr ⟨tt_6 (List.mem_of_getElem? (i := 52) rfl), rfl⟩
theorem ml_RX0_73 : Cond.methodLink RX0 73 yX0_isBarred ∈ TW := List.mem_filter.mpr ⟨tt_6 (List.mem_of_getElem? (i := 53) rfl), rfl⟩
theorem im_X0_isBarred : Cond.instanceMethod yX0_isBarred ∈ TW := List.mem_filter.mpr ⟨tt_6 (List.mem_of_getElem? (i := 55) rfl), rfl⟩
theorem cd_X0_isBarred : Cond.code yX0_isBarred cX0_isBarred 7 (some .boolean) ∈ TW := List.mem_filter.mpr ⟨tt_6 (List.mem_of_getElem? (i := 56) rfl), rfl⟩
theorem ml_RX0_59 : Cond.methodLink RX0 59 yX7_actsOf ∈ TW := List.mem_filter.mpr ⟨tt_6 (List.mem_of_getElem? (i := 57) rfl), rfl⟩
theorem ml_RX0_63 : Cond.methodLink RX0 63 yX7_degreeIn ∈ TW := List.mem_filter.mpr ⟨tt_6 (List.mem_of_getElem? (i := 58) rfl), rfl⟩
theorem ml_RX0_66 : Cond.methodLink RX0 66 yX7_inForce ∈ TW := List.mem_filter.mpr ⟨tt_6 (List.mem_of_getElem? (i := 59) rfl), rfl⟩
theorem ml_RL_288 : Cond.methodLink RL 288 yL_bestOrder ∈ TW := List.mem_filter.mpr ⟨tt_6 (List.mem_of_getElem? (i := 60) rfl), rfl⟩
theorem sm_L_bestOrder : Cond.static yL_bestOrder ∈ TW := List.mem_filter.mpr ⟨tt_6 (List.mem_of_getElem? (i := 61) rfl), rfl⟩
theorem ml_RL_123 : Cond.methodLink RL 123 yX11_bestOrder ∈ TW := List.mem_filter.mpr ⟨tt_6 (List.mem_of_getElem? (i := 63) rfl), rfl⟩
theorem im_X11_bestOrder : Cond.instanceMethod yX11_bestOrder ∈ TW := List.mem_filter.mpr ⟨tt_6 (List.mem_of_getElem? (i := 64) rfl), rfl⟩
theorem se_X11_bestOrder : Cond.selects yX11_bestOrder.cls yX11_bestOrder yX11_bestOrder ∈ TW := List.mem_filter.mpr ⟨tt_6 (List.mem_of_getElem? (i := 65) rfl), rfl⟩
theorem cd_X11_bestOrder : Cond.code yX11_bestOrder cX11_bestOrder 5 (some .int) ∈ TW := List.mem_filter.mpr ⟨tt_6 (List.mem_of_getElem? (i := 66) rfl), rfl⟩
theorem ml_RX11_319 : Cond.methodLink RX11 319 yX0_tryOrders ∈ TW := List.mem_filter.mpr ⟨tt_6 (List.mem_of_getElem? (i := 67) rfl), rfl⟩
theorem im_X0_tryOrders : Cond.instanceMethod yX0_tryOrders ∈ TW := List.mem_filter.mpr ⟨tt_6 (List.mem_of_getElem? (i := 68) rfl), rfl⟩
theorem se_X0_tryOrders : Cond.selects yX0_tryOrders.cls yX0_tryOrders yX0_tryOrders ∈ TW := List.mem_filter.mpr ⟨tt_6 (List.mem_of_getElem? (i := 69) rfl), rfl⟩
theorem cd_X0_tryOrders : Cond.code yX0_tryOrders cX0_tryOrders 6 none ∈ TW := List.mem_filter.mpr ⟨tt_6 (List.mem_of_getElem? (i := 70) rfl), rfl⟩
theorem ml_RX0_80 : Cond.methodLink RX0 80 ⟨"java/lang/System", "arraycopy", "(Ljava/lang/Object;ILjava/lang/Object;II)V"⟩ ∈ TW := List.mem_filter.mpr ⟨tt_6 (List.mem_of_getElem? (i := 71) rfl), rfl⟩
theorem ml_RX0_86 : Cond.methodLink RX0 86 yX0_tryOrders ∈ TW := List.mem_filter.mpr ⟨tt_6 (List.mem_of_getElem? (i := 72) rfl), rfl⟩
theorem ml_RX11_325 : Cond.methodLink RX11 325 yX0_placeInBest ∈ TW := List.mem_filter.mpr ⟨tt_6 (List.mem_of_getElem? (i := 73) rfl), rfl⟩
theorem im_X0_placeInBest : Cond.instanceMethod yX0_placeInBest ∈ TW := List.mem_filter.mpr ⟨tt_6 (List.mem_of_getElem? (i := 74) rfl), rfl⟩
theorem se_X0_placeInBest : Cond.selects yX0_placeInBest.cls yX0_placeInBest yX0_placeInBest ∈ TW := List.mem_filter.mpr ⟨tt_6 (List.mem_of_getElem? (i := 75) rfl), rfl⟩
theorem cd_X0_placeInBest : Cond.code yX0_placeInBest cX0_placeInBest 2 (some .int) ∈ TW := List.mem_filter.mpr ⟨tt_6 (List.mem_of_getElem? (i := 76) rfl), rfl⟩
theorem ml_RL_291 : Cond.methodLink RL 291 yL_seen ∈ TW := List.mem_filter.mpr ⟨tt_6 (List.mem_of_getElem? (i := 77) rfl), rfl⟩
theorem sm_L_seen : Cond.static yL_seen ∈ TW := List.mem_filter.mpr ⟨tt_6 (List.mem_of_getElem? (i := 78) rfl), rfl⟩
theorem ml_RL_126 : Cond.methodLink RL 126 yX11_seen ∈ TW := List.mem_filter.mpr ⟨tt_6 (List.mem_of_getElem? (i := 80) rfl), rfl⟩
theorem im_X11_seen : Cond.instanceMethod yX11_seen ∈ TW := List.mem_filter.mpr ⟨tt_6 (List.mem_of_getElem? (i := 81) rfl), rfl⟩
theorem se_X11_seen : Cond.selects yX11_seen.cls yX11_seen yX11_seen ∈ TW := List.mem_filter.mpr ⟨tt_6 (List.mem_of_getElem? (i := 82) rfl), rfl⟩
theorem cd_X11_seen : Cond.code yX11_seen cX11_seen 6 (some .int) ∈ TW := List.mem_filter.mpr ⟨tt_6 (List.mem_of_getElem? (i := 83) rfl), rfl⟩
theorem ml_RX11_332 : Cond.methodLink RX11 332 yX11_needSeen ∈ TW := List.mem_filter.mpr ⟨tt_6 (List.mem_of_getElem? (i := 84) rfl), rfl⟩
theorem im_X11_needSeen : Cond.instanceMethod yX11_needSeen ∈ TW := List.mem_filter.mpr ⟨tt_6 (List.mem_of_getElem? (i := 86) rfl), rfl⟩
theorem cd_X11_needSeen : Cond.code yX11_needSeen cX11_needSeen 9 (some (.object "DegreeLaws$Tray")) ∈ TW := List.mem_filter.mpr ⟨tt_6 (List.mem_of_getElem? (i := 87) rfl), rfl⟩
theorem kl_RX11_416 : Cond.constantLong RX11 416 (-1 : Int64) ∈ TW := List.mem_filter.mpr ⟨tt_6 (List.mem_of_getElem? (i := 88) rfl), rfl⟩
theorem kl_RX11_418 : Cond.constantLong RX11 418 (792 : Int64) ∈ TW := List.mem_filter.mpr ⟨tt_6 (List.mem_of_getElem? (i := 89) rfl), rfl⟩
theorem ml_RX11_336 : Cond.methodLink RX11 336 yX11_glass ∈ TW := List.mem_filter.mpr ⟨tt_6 (List.mem_of_getElem? (i := 91) rfl), rfl⟩
theorem im_X11_glass : Cond.instanceMethod yX11_glass ∈ TW := List.mem_filter.mpr ⟨tt_6 (List.mem_of_getElem? (i := 93) rfl), rfl⟩
theorem cd_X11_glass : Cond.code yX11_glass cX11_glass 1 (some (.object "DegreeLaws$Thermometer")) ∈ TW := List.mem_filter.mpr ⟨tt_6 (List.mem_of_getElem? (i := 94) rfl), rfl⟩
theorem cl_RX11_341 : Cond.classLink RX11 341 RX8 ∈ TW := List.mem_filter.mpr ⟨tt_6 (List.mem_of_getElem? (i := 95) rfl), rfl⟩
theorem ib_RX8 : Cond.instantiable RX8 5 ∈ TW := List.mem_filter.mpr ⟨tt_6 (List.mem_of_getElem? (i := 96) rfl), rfl⟩
theorem ml_RX11_353 : Cond.methodLink RX11 353 yX8_init ∈ TW := List.mem_filter.mpr ⟨tt_6 (List.mem_of_getElem? (i := 97) rfl), rfl⟩
theorem im_X8_init : Cond.instanceMethod yX8_init ∈ TW := List.mem_filter.mpr ⟨tt_6 (List.mem_of_getElem? (i := 98) rfl), rfl⟩
theorem cd_X8_init : Cond.code yX8_init cX8_init 2 none ∈ TW := List.mem_filter.mpr ⟨tt_6 (List.mem_of_getElem? (i := 99) rfl), rfl⟩
theorem ml_RX8_3 : Cond.methodLink RX8 3 Lib.objectInit ∈ TW := List.mem_filter.mpr ⟨tt_6 (List.mem_of_getElem? (i := 100) rfl), rfl⟩
theorem fl_RX8_25 : flk RX8 25 8 0 := ⟨by decide, (RX8, TX8, 5), rfl, by decide, List.mem_filter.mpr ⟨tt_6 (List.mem_of_getElem? (i := 101) rfl), rfl⟩⟩
theorem fl_RX8_9 : flk RX8 9 8 1 := ⟨by decide, (RX8, TX8, 5), rfl, by decide, List.mem_filter.mpr ⟨tt_6 (List.mem_of_getElem? (i := 102) rfl), rfl⟩⟩
theorem fl_RX8_15 : flk RX8 15 8 2 := ⟨by decide, (RX8, TX8, 5), rfl, by decide, List.mem_filter.mpr ⟨tt_6 (List.mem_of_getElem? (i := 103) rfl), rfl⟩⟩
theorem fl_RX8_18 : flk RX8 18 8 3 := ⟨by decide, (RX8, TX8, 5), rfl, by decide, List.mem_filter.mpr ⟨tt_6 (List.mem_of_getElem? (i := 104) rfl), rfl⟩⟩
theorem fl_RX11_347 : flk RX11 347 8 3 := ⟨by decide, (RX8, TX8, 5), rfl, by decide, List.mem_filter.mpr ⟨tt_6 (List.mem_of_getElem? (i := 105) rfl), rfl⟩⟩
theorem fl_RX8_21 : flk RX8 21 8 4 := ⟨by decide, (RX8, TX8, 5), rfl, by decide, List.mem_filter.mpr ⟨tt_6 (List.mem_of_getElem? (i := 106) rfl), rfl⟩⟩
theorem fl_RX11_346 : flk RX11 346 8 4 := ⟨by decide, (RX8, TX8, 5), rfl, by decide, List.mem_filter.mpr ⟨tt_6 (List.mem_of_getElem? (i := 107) rfl), rfl⟩⟩
theorem ml_RX11_340 : Cond.methodLink RX11 340 yX8_find ∈ TW := List.mem_filter.mpr ⟨tt_6 (List.mem_of_getElem? (i := 119) rfl), rfl⟩
theorem im_X8_find : Cond.instanceMethod yX8_find ∈ TW := List.mem_filter.mpr ⟨tt_6 (List.mem_of_getElem? (i := 120) rfl), rfl⟩
theorem se_X8_find : Cond.selects yX8_find.cls yX8_find yX8_find ∈ TW := List.mem_filter.mpr ⟨tt_6 (List.mem_of_getElem? (i := 121) rfl), rfl⟩
theorem cd_X8_find : Cond.code yX8_find cX8_find 5 none ∈ TW := List.mem_filter.mpr ⟨tt_6 (List.mem_of_getElem? (i := 122) rfl), rfl⟩
theorem kl_RX8_36 : Cond.constantLong RX8 36 (-1 : Int64) ∈ TW := List.mem_filter.mpr ⟨tt_6 (List.mem_of_getElem? (i := 123) rfl), rfl⟩
theorem ml_RX8_43 : Cond.methodLink RX8 43 yX7_degreeIn ∈ TW := List.mem_filter.mpr ⟨tt_6 (List.mem_of_getElem? (i := 124) rfl), rfl⟩
theorem ml_RX8_47 : Cond.methodLink RX8 47 yX8_fits ∈ TW := List.mem_filter.mpr ⟨tt_6 (List.mem_of_getElem? (i := 125) rfl), rfl⟩
theorem im_X8_fits : Cond.instanceMethod yX8_fits ∈ TW := List.mem_filter.mpr ⟨tt_6 (List.mem_of_getElem? (i := 127) rfl), rfl⟩
theorem cd_X8_fits : Cond.code yX8_fits cX8_fits 9 (some .boolean) ∈ TW := List.mem_filter.mpr ⟨tt_6 (List.mem_of_getElem? (i := 128) rfl), rfl⟩
theorem ml_RX8_51 : Cond.methodLink RX8 51 yX7_actsOf ∈ TW := List.mem_filter.mpr ⟨tt_6 (List.mem_of_getElem? (i := 129) rfl), rfl⟩
theorem ml_RX8_55 : Cond.methodLink RX8 55 yX8_finedBy ∈ TW := List.mem_filter.mpr ⟨tt_6 (List.mem_of_getElem? (i := 130) rfl), rfl⟩
theorem im_X8_finedBy : Cond.instanceMethod yX8_finedBy ∈ TW := List.mem_filter.mpr ⟨tt_6 (List.mem_of_getElem? (i := 132) rfl), rfl⟩
theorem cd_X8_finedBy : Cond.code yX8_finedBy cX8_finedBy 5 (some .int) ∈ TW := List.mem_filter.mpr ⟨tt_6 (List.mem_of_getElem? (i := 133) rfl), rfl⟩
theorem ml_RX8_63 : Cond.methodLink RX8 63 yX7_keptDegree ∈ TW := List.mem_filter.mpr ⟨tt_6 (List.mem_of_getElem? (i := 134) rfl), rfl⟩
theorem ml_RX8_66 : Cond.methodLink RX8 66 yX7_inForce ∈ TW := List.mem_filter.mpr ⟨tt_6 (List.mem_of_getElem? (i := 135) rfl), rfl⟩
theorem ml_RX8_69 : Cond.methodLink RX8 69 yX2_finesOf ∈ TW := List.mem_filter.mpr ⟨tt_6 (List.mem_of_getElem? (i := 136) rfl), rfl⟩
theorem ml_RL_294 : Cond.methodLink RL 294 yL_breath ∈ TW := List.mem_filter.mpr ⟨tt_6 (List.mem_of_getElem? (i := 137) rfl), rfl⟩
theorem sm_L_breath : Cond.static yL_breath ∈ TW := List.mem_filter.mpr ⟨tt_6 (List.mem_of_getElem? (i := 138) rfl), rfl⟩
theorem ml_RL_129 : Cond.methodLink RL 129 yX11_breath ∈ TW := List.mem_filter.mpr ⟨tt_6 (List.mem_of_getElem? (i := 140) rfl), rfl⟩
theorem im_X11_breath : Cond.instanceMethod yX11_breath ∈ TW := List.mem_filter.mpr ⟨tt_6 (List.mem_of_getElem? (i := 141) rfl), rfl⟩
theorem se_X11_breath : Cond.selects yX11_breath.cls yX11_breath yX11_breath ∈ TW := List.mem_filter.mpr ⟨tt_6 (List.mem_of_getElem? (i := 142) rfl), rfl⟩
theorem cd_X11_breath : Cond.code yX11_breath cX11_breath 7 (some .int) ∈ TW := List.mem_filter.mpr ⟨tt_6 (List.mem_of_getElem? (i := 143) rfl), rfl⟩
theorem ml_RL_297 : Cond.methodLink RL 297 yL_look ∈ TW := List.mem_filter.mpr ⟨tt_6 (List.mem_of_getElem? (i := 144) rfl), rfl⟩
theorem sm_L_look : Cond.static yL_look ∈ TW := List.mem_filter.mpr ⟨tt_6 (List.mem_of_getElem? (i := 145) rfl), rfl⟩
theorem ml_RL_132 : Cond.methodLink RL 132 yX11_look ∈ TW := List.mem_filter.mpr ⟨tt_6 (List.mem_of_getElem? (i := 147) rfl), rfl⟩
theorem im_X11_look : Cond.instanceMethod yX11_look ∈ TW := List.mem_filter.mpr ⟨tt_6 (List.mem_of_getElem? (i := 148) rfl), rfl⟩
theorem se_X11_look : Cond.selects yX11_look.cls yX11_look yX11_look ∈ TW := List.mem_filter.mpr ⟨tt_6 (List.mem_of_getElem? (i := 149) rfl), rfl⟩
theorem cd_X11_look : Cond.code yX11_look cX11_look 6 (some .int) ∈ TW := List.mem_filter.mpr ⟨tt_6 (List.mem_of_getElem? (i := 150) rfl), rfl⟩
theorem ml_RX11_350 : Cond.methodLink RX11 350 yX8_tellingHour ∈ TW := List.mem_filter.mpr ⟨tt_6 (List.mem_of_getElem? (i := 151) rfl), rfl⟩
theorem im_X8_tellingHour : Cond.instanceMethod yX8_tellingHour ∈ TW := List.mem_filter.mpr ⟨tt_6 (List.mem_of_getElem? (i := 152) rfl), rfl⟩
theorem se_X8_tellingHour : Cond.selects yX8_tellingHour.cls yX8_tellingHour yX8_tellingHour ∈ TW := List.mem_filter.mpr ⟨tt_6 (List.mem_of_getElem? (i := 153) rfl), rfl⟩
theorem cd_X8_tellingHour : Cond.code yX8_tellingHour cX8_tellingHour 10 (some .int) ∈ TW := List.mem_filter.mpr ⟨tt_6 (List.mem_of_getElem? (i := 154) rfl), rfl⟩
theorem ml_RX8_74 : Cond.methodLink RX8 74 yX8_mostAlike ∈ TW := List.mem_filter.mpr ⟨tt_6 (List.mem_of_getElem? (i := 155) rfl), rfl⟩
theorem im_X8_mostAlike : Cond.instanceMethod yX8_mostAlike ∈ TW := List.mem_filter.mpr ⟨tt_6 (List.mem_of_getElem? (i := 157) rfl), rfl⟩
theorem cd_X8_mostAlike : Cond.code yX8_mostAlike cX8_mostAlike 5 (some .int) ∈ TW := List.mem_filter.mpr ⟨tt_6 (List.mem_of_getElem? (i := 158) rfl), rfl⟩
theorem ml_RX8_78 : Cond.methodLink RX8 78 Lib.Math.max.name ∈ TW := List.mem_filter.mpr ⟨tt_6 (List.mem_of_getElem? (i := 159) rfl), rfl⟩
theorem ml_RL_300 : Cond.methodLink RL 300 yL_tray ∈ TW := List.mem_filter.mpr ⟨tt_6 (List.mem_of_getElem? (i := 160) rfl), rfl⟩
theorem sm_L_tray : Cond.static yL_tray ∈ TW := List.mem_filter.mpr ⟨tt_6 (List.mem_of_getElem? (i := 161) rfl), rfl⟩
theorem ml_RL_135 : Cond.methodLink RL 135 yX11_tray ∈ TW := List.mem_filter.mpr ⟨tt_6 (List.mem_of_getElem? (i := 163) rfl), rfl⟩
theorem im_X11_tray : Cond.instanceMethod yX11_tray ∈ TW := List.mem_filter.mpr ⟨tt_6 (List.mem_of_getElem? (i := 164) rfl), rfl⟩
theorem se_X11_tray : Cond.selects yX11_tray.cls yX11_tray yX11_tray ∈ TW := List.mem_filter.mpr ⟨tt_6 (List.mem_of_getElem? (i := 165) rfl), rfl⟩
theorem cd_X11_tray : Cond.code yX11_tray cX11_tray 5 none ∈ TW := List.mem_filter.mpr ⟨tt_6 (List.mem_of_getElem? (i := 166) rfl), rfl⟩
theorem ml_RX11_357 : Cond.methodLink RX11 357 yJ7_fill_d0a16 ∈ TW := List.mem_filter.mpr ⟨tt_6 (List.mem_of_getElem? (i := 167) rfl), rfl⟩
theorem ml_RL_306 : Cond.methodLink RL 306 yL_write ∈ TW := List.mem_filter.mpr ⟨tt_6 (List.mem_of_getElem? (i := 168) rfl), rfl⟩
theorem sm_L_write : Cond.static yL_write ∈ TW := List.mem_filter.mpr ⟨tt_6 (List.mem_of_getElem? (i := 169) rfl), rfl⟩
theorem cl_RL_143 : Cond.classLink RL 143 "java/lang/IndexOutOfBoundsException" ∈ TW := List.mem_filter.mpr ⟨tt_6 (List.mem_of_getElem? (i := 171) rfl), rfl⟩
theorem ml_RL_139 : Cond.methodLink RL 139 yX11_write ∈ TW := List.mem_filter.mpr ⟨tt_6 (List.mem_of_getElem? (i := 172) rfl), rfl⟩
theorem im_X11_write : Cond.instanceMethod yX11_write ∈ TW := List.mem_filter.mpr ⟨tt_6 (List.mem_of_getElem? (i := 173) rfl), rfl⟩
theorem se_X11_write : Cond.selects yX11_write.cls yX11_write yX11_write ∈ TW := List.mem_filter.mpr ⟨tt_6 (List.mem_of_getElem? (i := 174) rfl), rfl⟩
theorem cd_X11_write : Cond.code yX11_write cX11_write 6 (some .long) ∈ TW := List.mem_filter.mpr ⟨tt_6 (List.mem_of_getElem? (i := 175) rfl), rfl⟩
theorem cl_RX11_363 : Cond.classLink RX11 363 "java/lang/IndexOutOfBoundsException" ∈ TW := List.mem_filter.mpr ⟨tt_6 (List.mem_of_getElem? (i := 176) rfl), rfl⟩
theorem ml_RX11_367 : Cond.methodLink RX11 367 ⟨"java/lang/IndexOutOfBoundsException", "<init>", "(Ljava/lang/String;)V"⟩ ∈ TW := List.mem_filter.mpr ⟨tt_6 (List.mem_of_getElem? (i := 186) rfl), rfl⟩
theorem ml_RX11_368 : Cond.methodLink RX11 368 yX9_cut ∈ TW := List.mem_filter.mpr ⟨tt_6 (List.mem_of_getElem? (i := 192) rfl), rfl⟩
theorem im_X9_cut : Cond.instanceMethod yX9_cut ∈ TW := List.mem_filter.mpr ⟨tt_6 (List.mem_of_getElem? (i := 193) rfl), rfl⟩
theorem se_X9_cut : Cond.selects yX9_cut.cls yX9_cut yX9_cut ∈ TW := List.mem_filter.mpr ⟨tt_6 (List.mem_of_getElem? (i := 194) rfl), rfl⟩
theorem cd_X9_cut : Cond.code yX9_cut cX9_cut 3 (some .long) ∈ TW := List.mem_filter.mpr ⟨tt_6 (List.mem_of_getElem? (i := 195) rfl), rfl⟩
theorem ml_RL_310 : Cond.methodLink RL 310 yL_copy ∈ TW := List.mem_filter.mpr ⟨tt_6 (List.mem_of_getElem? (i := 196) rfl), rfl⟩
theorem sm_L_copy : Cond.static yL_copy ∈ TW := List.mem_filter.mpr ⟨tt_6 (List.mem_of_getElem? (i := 197) rfl), rfl⟩
theorem ml_RL_145 : Cond.methodLink RL 145 yX11_copy ∈ TW := List.mem_filter.mpr ⟨tt_6 (List.mem_of_getElem? (i := 199) rfl), rfl⟩
theorem im_X11_copy : Cond.instanceMethod yX11_copy ∈ TW := List.mem_filter.mpr ⟨tt_6 (List.mem_of_getElem? (i := 200) rfl), rfl⟩
theorem se_X11_copy : Cond.selects yX11_copy.cls yX11_copy yX11_copy ∈ TW := List.mem_filter.mpr ⟨tt_6 (List.mem_of_getElem? (i := 201) rfl), rfl⟩
theorem cd_X11_copy : Cond.code yX11_copy cX11_copy 5 (some .int) ∈ TW := List.mem_filter.mpr ⟨tt_6 (List.mem_of_getElem? (i := 202) rfl), rfl⟩
theorem ml_RL_313 : Cond.methodLink RL 313 yL_image ∈ TW := List.mem_filter.mpr ⟨tt_6 (List.mem_of_getElem? (i := 203) rfl), rfl⟩
theorem sm_L_image : Cond.static yL_image ∈ TW := List.mem_filter.mpr ⟨tt_6 (List.mem_of_getElem? (i := 204) rfl), rfl⟩
theorem ml_RL_148 : Cond.methodLink RL 148 yX11_image ∈ TW := List.mem_filter.mpr ⟨tt_6 (List.mem_of_getElem? (i := 206) rfl), rfl⟩
theorem im_X11_image : Cond.instanceMethod yX11_image ∈ TW := List.mem_filter.mpr ⟨tt_6 (List.mem_of_getElem? (i := 207) rfl), rfl⟩
theorem se_X11_image : Cond.selects yX11_image.cls yX11_image yX11_image ∈ TW := List.mem_filter.mpr ⟨tt_6 (List.mem_of_getElem? (i := 208) rfl), rfl⟩
theorem cd_X11_image : Cond.code yX11_image cX11_image 3 none ∈ TW := List.mem_filter.mpr ⟨tt_6 (List.mem_of_getElem? (i := 209) rfl), rfl⟩
theorem ml_RX11_372 : Cond.methodLink RX11 372 yX11_needImage ∈ TW := List.mem_filter.mpr ⟨tt_6 (List.mem_of_getElem? (i := 210) rfl), rfl⟩
theorem sm_X11_needImage : Cond.static yX11_needImage ∈ TW := List.mem_filter.mpr ⟨tt_6 (List.mem_of_getElem? (i := 211) rfl), rfl⟩
theorem cd_X11_needImage : Cond.code yX11_needImage cX11_needImage 1 none ∈ TW := List.mem_filter.mpr ⟨tt_6 (List.mem_of_getElem? (i := 212) rfl), rfl⟩
theorem ib_RX1 : Cond.instantiable RX1 3 ∈ TW := List.mem_filter.mpr ⟨tt_6 (List.mem_of_getElem? (i := 214) rfl), rfl⟩
theorem ml_RX11_375 : Cond.methodLink RX11 375 yX1_init ∈ TW := List.mem_filter.mpr ⟨tt_6 (List.mem_of_getElem? (i := 215) rfl), rfl⟩
theorem im_X1_init : Cond.instanceMethod yX1_init ∈ TW := List.mem_filter.mpr ⟨tt_6 (List.mem_of_getElem? (i := 216) rfl), rfl⟩
theorem cd_X1_init : Cond.code yX1_init cX1_init 2 none ∈ TW := List.mem_filter.mpr ⟨tt_6 (List.mem_of_getElem? (i := 217) rfl), rfl⟩
theorem ml_RX1_3 : Cond.methodLink RX1 3 Lib.objectInit ∈ TW := List.mem_filter.mpr ⟨tt_6 (List.mem_of_getElem? (i := 218) rfl), rfl⟩
theorem cl_RX1_15 : Cond.classLink RX1 15 RX5 ∈ TW := List.mem_filter.mpr ⟨tt_6 (List.mem_of_getElem? (i := 219) rfl), rfl⟩
theorem fl_RX1_22 : flk RX1 22 1 0 := ⟨by decide, (RX1, TX1, 3), rfl, by decide, List.mem_filter.mpr ⟨tt_6 (List.mem_of_getElem? (i := 221) rfl), rfl⟩⟩
theorem fl_RX11_377 : flk RX11 377 1 0 := ⟨by decide, (RX1, TX1, 3), rfl, by decide, List.mem_filter.mpr ⟨tt_6 (List.mem_of_getElem? (i := 222) rfl), rfl⟩⟩
theorem fl_RX1_9 : flk RX1 9 1 1 := ⟨by decide, (RX1, TX1, 3), rfl, by decide, List.mem_filter.mpr ⟨tt_6 (List.mem_of_getElem? (i := 223) rfl), rfl⟩⟩
theorem fl_RX11_378 : flk RX11 378 1 1 := ⟨by decide, (RX1, TX1, 3), rfl, by decide, List.mem_filter.mpr ⟨tt_6 (List.mem_of_getElem? (i := 224) rfl), rfl⟩⟩
theorem fl_RX1_18 : flk RX1 18 1 2 := ⟨by decide, (RX1, TX1, 3), rfl, by decide, List.mem_filter.mpr ⟨tt_6 (List.mem_of_getElem? (i := 225) rfl), rfl⟩⟩
theorem fl_RX11_379 : flk RX11 379 1 2 := ⟨by decide, (RX1, TX1, 3), rfl, by decide, List.mem_filter.mpr ⟨tt_6 (List.mem_of_getElem? (i := 226) rfl), rfl⟩⟩
theorem ml_RX11_380 : Cond.methodLink RX11 380 yX5_become ∈ TW := List.mem_filter.mpr ⟨tt_6 (List.mem_of_getElem? (i := 234) rfl), rfl⟩
theorem im_X5_become : Cond.instanceMethod yX5_become ∈ TW := List.mem_filter.mpr ⟨tt_6 (List.mem_of_getElem? (i := 235) rfl), rfl⟩
theorem se_X5_become : Cond.selects yX5_become.cls yX5_become yX5_become ∈ TW := List.mem_filter.mpr ⟨tt_6 (List.mem_of_getElem? (i := 236) rfl), rfl⟩
theorem cd_X5_become : Cond.code yX5_become cX5_become 2 none ∈ TW := List.mem_filter.mpr ⟨tt_6 (List.mem_of_getElem? (i := 237) rfl), rfl⟩
theorem ml_RL_317 : Cond.methodLink RL 317 yL_restore ∈ TW := List.mem_filter.mpr ⟨tt_6 (List.mem_of_getElem? (i := 238) rfl), rfl⟩
theorem sm_L_restore : Cond.static yL_restore ∈ TW := List.mem_filter.mpr ⟨tt_6 (List.mem_of_getElem? (i := 239) rfl), rfl⟩
theorem ml_RL_152 : Cond.methodLink RL 152 yX11_restore ∈ TW := List.mem_filter.mpr ⟨tt_7 (List.mem_of_getElem? (i := 1) rfl), rfl⟩
theorem im_X11_restore : Cond.instanceMethod yX11_restore ∈ TW := List.mem_filter.mpr ⟨tt_7 (List.mem_of_getElem? (i := 2) rfl), rfl⟩
theorem se_X11_restore : Cond.selects yX11_restore.cls yX11_restore yX11_restore ∈ TW := List.mem_filter.mpr ⟨tt_7 (List.mem_of_getElem? (i := 3) rfl), rfl⟩
theorem cd_X11_restore : Cond.code yX11_restore cX11_restore 3 none ∈ TW := List.mem_filter.mpr ⟨tt_7 (List.mem_of_getElem? (i := 4) rfl), rfl⟩
theorem cl_RL_156 : Cond.classLink RL 156 RX12 ∈ TW := List.mem_filter.mpr ⟨tt_7 (List.mem_of_getElem? (i := 6) rfl), rfl⟩
theorem ib_RX12 : Cond.instantiable RX12 44 ∈ TW := List.mem_filter.mpr ⟨tt_7 (List.mem_of_getElem? (i := 7) rfl), rfl⟩
theorem ml_RL_158 : Cond.methodLink RL 158 yX12_init ∈ TW := List.mem_filter.mpr ⟨tt_7 (List.mem_of_getElem? (i := 8) rfl), rfl⟩
theorem im_X12_init : Cond.instanceMethod yX12_init ∈ TW := List.mem_filter.mpr ⟨tt_7 (List.mem_of_getElem? (i := 9) rfl), rfl⟩
theorem cd_X12_init : Cond.code yX12_init cX12_init 1 none ∈ TW := List.mem_filter.mpr ⟨tt_7 (List.mem_of_getElem? (i := 10) rfl), rfl⟩
theorem ml_RX12_1 : Cond.methodLink RX12 1 Lib.objectInit ∈ TW := List.mem_filter.mpr ⟨tt_7 (List.mem_of_getElem? (i := 11) rfl), rfl⟩
theorem fl_RX12_9 : flk RX12 9 12 0 := ⟨by decide, (RX12, TX12, 44), rfl, by decide, List.mem_filter.mpr ⟨tt_7 (List.mem_of_getElem? (i := 12) rfl), rfl⟩⟩
theorem fl_RX12_13 : flk RX12 13 12 1 := ⟨by decide, (RX12, TX12, 44), rfl, by decide, List.mem_filter.mpr ⟨tt_7 (List.mem_of_getElem? (i := 13) rfl), rfl⟩⟩
theorem fl_RX12_16 : flk RX12 16 12 2 := ⟨by decide, (RX12, TX12, 44), rfl, by decide, List.mem_filter.mpr ⟨tt_7 (List.mem_of_getElem? (i := 14) rfl), rfl⟩⟩
theorem fl_RX12_19 : flk RX12 19 12 3 := ⟨by decide, (RX12, TX12, 44), rfl, by decide, List.mem_filter.mpr ⟨tt_7 (List.mem_of_getElem? (i := 15) rfl), rfl⟩⟩
theorem fl_RX12_97 : flk RX12 97 12 4 := ⟨by decide, (RX12, TX12, 44), rfl, by decide, List.mem_filter.mpr ⟨tt_7 (List.mem_of_getElem? (i := 16) rfl), rfl⟩⟩
theorem fl_RX12_23 : flk RX12 23 12 5 := ⟨by decide, (RX12, TX12, 44), rfl, by decide, List.mem_filter.mpr ⟨tt_7 (List.mem_of_getElem? (i := 17) rfl), rfl⟩⟩
theorem fl_RX12_100 : flk RX12 100 12 6 := ⟨by decide, (RX12, TX12, 44), rfl, by decide, List.mem_filter.mpr ⟨tt_7 (List.mem_of_getElem? (i := 18) rfl), rfl⟩⟩
theorem fl_RX12_103 : flk RX12 103 12 7 := ⟨by decide, (RX12, TX12, 44), rfl, by decide, List.mem_filter.mpr ⟨tt_7 (List.mem_of_getElem? (i := 19) rfl), rfl⟩⟩
theorem fl_RX12_106 : flk RX12 106 12 8 := ⟨by decide, (RX12, TX12, 44), rfl, by decide, List.mem_filter.mpr ⟨tt_7 (List.mem_of_getElem? (i := 20) rfl), rfl⟩⟩
theorem fl_RX12_109 : flk RX12 109 12 9 := ⟨by decide, (RX12, TX12, 44), rfl, by decide, List.mem_filter.mpr ⟨tt_7 (List.mem_of_getElem? (i := 21) rfl), rfl⟩⟩
theorem fl_RX12_112 : flk RX12 112 12 10 := ⟨by decide, (RX12, TX12, 44), rfl, by decide, List.mem_filter.mpr ⟨tt_7 (List.mem_of_getElem? (i := 22) rfl), rfl⟩⟩
theorem fl_RX12_126 : flk RX12 126 12 11 := ⟨by decide, (RX12, TX12, 44), rfl, by decide, List.mem_filter.mpr ⟨tt_7 (List.mem_of_getElem? (i := 23) rfl), rfl⟩⟩
theorem fl_RX12_132 : flk RX12 132 12 12 := ⟨by decide, (RX12, TX12, 44), rfl, by decide, List.mem_filter.mpr ⟨tt_7 (List.mem_of_getElem? (i := 24) rfl), rfl⟩⟩
theorem fl_RX12_135 : flk RX12 135 12 13 := ⟨by decide, (RX12, TX12, 44), rfl, by decide, List.mem_filter.mpr ⟨tt_7 (List.mem_of_getElem? (i := 25) rfl), rfl⟩⟩
theorem fl_RX12_288 : flk RX12 288 12 14 := ⟨by decide, (RX12, TX12, 44), rfl, by decide, List.mem_filter.mpr ⟨tt_7 (List.mem_of_getElem? (i := 26) rfl), rfl⟩⟩
theorem fl_RX12_26 : flk RX12 26 12 15 := ⟨by decide, (RX12, TX12, 44), rfl, by decide, List.mem_filter.mpr ⟨tt_7 (List.mem_of_getElem? (i := 27) rfl), rfl⟩⟩
theorem fl_RX12_174 : flk RX12 174 12 16 := ⟨by decide, (RX12, TX12, 44), rfl, by decide, List.mem_filter.mpr ⟨tt_7 (List.mem_of_getElem? (i := 28) rfl), rfl⟩⟩
theorem fl_RX12_168 : flk RX12 168 12 17 := ⟨by decide, (RX12, TX12, 44), rfl, by decide, List.mem_filter.mpr ⟨tt_7 (List.mem_of_getElem? (i := 29) rfl), rfl⟩⟩
theorem fl_RX12_165 : flk RX12 165 12 18 := ⟨by decide, (RX12, TX12, 44), rfl, by decide, List.mem_filter.mpr ⟨tt_7 (List.mem_of_getElem? (i := 30) rfl), rfl⟩⟩
theorem fl_RX12_30 : flk RX12 30 12 19 := ⟨by decide, (RX12, TX12, 44), rfl, by decide, List.mem_filter.mpr ⟨tt_7 (List.mem_of_getElem? (i := 31) rfl), rfl⟩⟩
theorem fl_RX12_33 : flk RX12 33 12 20 := ⟨by decide, (RX12, TX12, 44), rfl, by decide, List.mem_filter.mpr ⟨tt_7 (List.mem_of_getElem? (i := 32) rfl), rfl⟩⟩
theorem fl_RX12_36 : flk RX12 36 12 21 := ⟨by decide, (RX12, TX12, 44), rfl, by decide, List.mem_filter.mpr ⟨tt_7 (List.mem_of_getElem? (i := 33) rfl), rfl⟩⟩
theorem fl_RX12_39 : flk RX12 39 12 22 := ⟨by decide, (RX12, TX12, 44), rfl, by decide, List.mem_filter.mpr ⟨tt_7 (List.mem_of_getElem? (i := 34) rfl), rfl⟩⟩
theorem fl_RX12_42 : flk RX12 42 12 23 := ⟨by decide, (RX12, TX12, 44), rfl, by decide, List.mem_filter.mpr ⟨tt_7 (List.mem_of_getElem? (i := 35) rfl), rfl⟩⟩
theorem fl_RX12_45 : flk RX12 45 12 24 := ⟨by decide, (RX12, TX12, 44), rfl, by decide, List.mem_filter.mpr ⟨tt_7 (List.mem_of_getElem? (i := 36) rfl), rfl⟩⟩
theorem fl_RX12_48 : flk RX12 48 12 25 := ⟨by decide, (RX12, TX12, 44), rfl, by decide, List.mem_filter.mpr ⟨tt_7 (List.mem_of_getElem? (i := 37) rfl), rfl⟩⟩
theorem fl_RX12_471 : flk RX12 471 12 26 := ⟨by decide, (RX12, TX12, 44), rfl, by decide, List.mem_filter.mpr ⟨tt_7 (List.mem_of_getElem? (i := 38) rfl), rfl⟩⟩
theorem fl_RX12_51 : flk RX12 51 12 27 := ⟨by decide, (RX12, TX12, 44), rfl, by decide, List.mem_filter.mpr ⟨tt_7 (List.mem_of_getElem? (i := 39) rfl), rfl⟩⟩
theorem fl_RX12_54 : flk RX12 54 12 28 := ⟨by decide, (RX12, TX12, 44), rfl, by decide, List.mem_filter.mpr ⟨tt_7 (List.mem_of_getElem? (i := 40) rfl), rfl⟩⟩
theorem fl_RX12_57 : flk RX12 57 12 29 := ⟨by decide, (RX12, TX12, 44), rfl, by decide, List.mem_filter.mpr ⟨tt_7 (List.mem_of_getElem? (i := 41) rfl), rfl⟩⟩
theorem fl_RX12_60 : flk RX12 60 12 30 := ⟨by decide, (RX12, TX12, 44), rfl, by decide, List.mem_filter.mpr ⟨tt_7 (List.mem_of_getElem? (i := 42) rfl), rfl⟩⟩
theorem fl_RX12_63 : flk RX12 63 12 31 := ⟨by decide, (RX12, TX12, 44), rfl, by decide, List.mem_filter.mpr ⟨tt_7 (List.mem_of_getElem? (i := 43) rfl), rfl⟩⟩
theorem fl_RX12_66 : flk RX12 66 12 32 := ⟨by decide, (RX12, TX12, 44), rfl, by decide, List.mem_filter.mpr ⟨tt_7 (List.mem_of_getElem? (i := 44) rfl), rfl⟩⟩
theorem fl_RX12_69 : flk RX12 69 12 33 := ⟨by decide, (RX12, TX12, 44), rfl, by decide, List.mem_filter.mpr ⟨tt_7 (List.mem_of_getElem? (i := 45) rfl), rfl⟩⟩
theorem fl_RX12_73 : flk RX12 73 12 34 := ⟨by decide, (RX12, TX12, 44), rfl, by decide, List.mem_filter.mpr ⟨tt_7 (List.mem_of_getElem? (i := 46) rfl), rfl⟩⟩
theorem fl_RX12_76 : flk RX12 76 12 35 := ⟨by decide, (RX12, TX12, 44), rfl, by decide, List.mem_filter.mpr ⟨tt_7 (List.mem_of_getElem? (i := 47) rfl), rfl⟩⟩
theorem fl_RX12_79 : flk RX12 79 12 36 := ⟨by decide, (RX12, TX12, 44), rfl, by decide, List.mem_filter.mpr ⟨tt_7 (List.mem_of_getElem? (i := 48) rfl), rfl⟩⟩
theorem fl_RX12_545 : flk RX12 545 12 37 := ⟨by decide, (RX12, TX12, 44), rfl, by decide, List.mem_filter.mpr ⟨tt_7 (List.mem_of_getElem? (i := 49) rfl), rfl⟩⟩
theorem fl_RX12_555 : flk RX12 555 12 38 := ⟨by decide, (RX12, TX12, 44), rfl, by decide, List.mem_filter.mpr ⟨tt_7 (List.mem_of_getElem? (i := 50) rfl), rfl⟩⟩
theorem fl_RX12_82 : flk RX12 82 12 39 := ⟨by decide, (RX12, TX12, 44), rfl, by decide, List.mem_filter.mpr ⟨tt_7 (List.mem_of_getElem? (i := 51) rfl), rfl⟩⟩
theorem fl_RX12_85 : flk RX12 85 12 40 := ⟨by decide, (RX12, TX12, 44), rfl, by decide, List.mem_filter.mpr ⟨tt_7 (List.mem_of_getElem? (i := 52) rfl), rfl⟩⟩
theorem fl_RX12_88 : flk RX12 88 12 41 := ⟨by decide, (RX12, TX12, 44), rfl, by decide, List.mem_filter.mpr ⟨tt_7 (List.mem_of_getElem? (i := 53) rfl), rfl⟩⟩
theorem fl_RX12_91 : flk RX12 91 12 42 := ⟨by decide, (RX12, TX12, 44), rfl, by decide, List.mem_filter.mpr ⟨tt_7 (List.mem_of_getElem? (i := 54) rfl), rfl⟩⟩
theorem fl_RX12_94 : flk RX12 94 12 43 := ⟨by decide, (RX12, TX12, 44), rfl, by decide, List.mem_filter.mpr ⟨tt_7 (List.mem_of_getElem? (i := 55) rfl), rfl⟩⟩
theorem ac_boolean : Cond.arrayClass .boolean ∈ TW := List.mem_filter.mpr ⟨tt_7 (List.mem_of_getElem? (i := 145) rfl), rfl⟩
theorem ml_RL_170 : Cond.methodLink RL 170 yX12_thrown ∈ TW := List.mem_filter.mpr ⟨tt_7 (List.mem_of_getElem? (i := 146) rfl), rfl⟩
theorem im_X12_thrown : Cond.instanceMethod yX12_thrown ∈ TW := List.mem_filter.mpr ⟨tt_7 (List.mem_of_getElem? (i := 147) rfl), rfl⟩
theorem se_X12_thrown : Cond.selects yX12_thrown.cls yX12_thrown yX12_thrown ∈ TW := List.mem_filter.mpr ⟨tt_7 (List.mem_of_getElem? (i := 148) rfl), rfl⟩
theorem cd_X12_thrown : Cond.code yX12_thrown cX12_thrown 1 (some .int) ∈ TW := List.mem_filter.mpr ⟨tt_7 (List.mem_of_getElem? (i := 149) rfl), rfl⟩
theorem ml_RL_163 : Cond.methodLink RL 163 yX12_feed ∈ TW := List.mem_filter.mpr ⟨tt_7 (List.mem_of_getElem? (i := 150) rfl), rfl⟩
theorem im_X12_feed : Cond.instanceMethod yX12_feed ∈ TW := List.mem_filter.mpr ⟨tt_7 (List.mem_of_getElem? (i := 151) rfl), rfl⟩
theorem se_X12_feed : Cond.selects yX12_feed.cls yX12_feed yX12_feed ∈ TW := List.mem_filter.mpr ⟨tt_7 (List.mem_of_getElem? (i := 152) rfl), rfl⟩
theorem cd_X12_feed : Cond.code yX12_feed cX12_feed 8 (some .int) ∈ TW := List.mem_filter.mpr ⟨tt_7 (List.mem_of_getElem? (i := 153) rfl), rfl⟩
theorem ml_RL_169 : Cond.methodLink RL 169 yX12_land ∈ TW := List.mem_filter.mpr ⟨tt_7 (List.mem_of_getElem? (i := 154) rfl), rfl⟩
theorem im_X12_land : Cond.instanceMethod yX12_land ∈ TW := List.mem_filter.mpr ⟨tt_7 (List.mem_of_getElem? (i := 155) rfl), rfl⟩
theorem se_X12_land : Cond.selects yX12_land.cls yX12_land yX12_land ∈ TW := List.mem_filter.mpr ⟨tt_7 (List.mem_of_getElem? (i := 156) rfl), rfl⟩
theorem cd_X12_land : Cond.code yX12_land cX12_land 3 (some .int) ∈ TW := List.mem_filter.mpr ⟨tt_7 (List.mem_of_getElem? (i := 157) rfl), rfl⟩
theorem ml_RX12_158 : Cond.methodLink RX12 158 yX12_within ∈ TW := List.mem_filter.mpr ⟨tt_7 (List.mem_of_getElem? (i := 158) rfl), rfl⟩
theorem sm_X12_within : Cond.static yX12_within ∈ TW := List.mem_filter.mpr ⟨tt_7 (List.mem_of_getElem? (i := 159) rfl), rfl⟩
theorem cd_X12_within : Cond.code yX12_within cX12_within 6 (some .boolean) ∈ TW := List.mem_filter.mpr ⟨tt_7 (List.mem_of_getElem? (i := 160) rfl), rfl⟩
theorem ml_RX12_282 : Cond.methodLink RX12 282 yX12_fails ∈ TW := List.mem_filter.mpr ⟨tt_7 (List.mem_of_getElem? (i := 161) rfl), rfl⟩
theorem im_X12_fails : Cond.instanceMethod yX12_fails ∈ TW := List.mem_filter.mpr ⟨tt_7 (List.mem_of_getElem? (i := 163) rfl), rfl⟩
theorem cd_X12_fails : Cond.code yX12_fails cX12_fails 2 (some .int) ∈ TW := List.mem_filter.mpr ⟨tt_7 (List.mem_of_getElem? (i := 164) rfl), rfl⟩
theorem ml_RX12_151 : Cond.methodLink RX12 151 yX12_readsOn ∈ TW := List.mem_filter.mpr ⟨tt_7 (List.mem_of_getElem? (i := 165) rfl), rfl⟩
theorem im_X12_readsOn : Cond.instanceMethod yX12_readsOn ∈ TW := List.mem_filter.mpr ⟨tt_7 (List.mem_of_getElem? (i := 167) rfl), rfl⟩
theorem cd_X12_readsOn : Cond.code yX12_readsOn cX12_readsOn 2 none ∈ TW := List.mem_filter.mpr ⟨tt_7 (List.mem_of_getElem? (i := 168) rfl), rfl⟩
theorem ml_RX12_115 : Cond.methodLink RX12 115 yX12_isLetter ∈ TW := List.mem_filter.mpr ⟨tt_7 (List.mem_of_getElem? (i := 169) rfl), rfl⟩
theorem sm_X12_isLetter : Cond.static yX12_isLetter ∈ TW := List.mem_filter.mpr ⟨tt_7 (List.mem_of_getElem? (i := 170) rfl), rfl⟩
theorem cd_X12_isLetter : Cond.code yX12_isLetter cX12_isLetter 1 (some .boolean) ∈ TW := List.mem_filter.mpr ⟨tt_7 (List.mem_of_getElem? (i := 171) rfl), rfl⟩
theorem ml_RX12_119 : Cond.methodLink RX12 119 yX12_see ∈ TW := List.mem_filter.mpr ⟨tt_7 (List.mem_of_getElem? (i := 172) rfl), rfl⟩
theorem im_X12_see : Cond.instanceMethod yX12_see ∈ TW := List.mem_filter.mpr ⟨tt_7 (List.mem_of_getElem? (i := 174) rfl), rfl⟩
theorem cd_X12_see : Cond.code yX12_see cX12_see 2 (some .int) ∈ TW := List.mem_filter.mpr ⟨tt_7 (List.mem_of_getElem? (i := 175) rfl), rfl⟩
theorem ml_RX12_123 : Cond.methodLink RX12 123 yX12_isDigit ∈ TW := List.mem_filter.mpr ⟨tt_7 (List.mem_of_getElem? (i := 176) rfl), rfl⟩
theorem sm_X12_isDigit : Cond.static yX12_isDigit ∈ TW := List.mem_filter.mpr ⟨tt_7 (List.mem_of_getElem? (i := 177) rfl), rfl⟩
theorem cd_X12_isDigit : Cond.code yX12_isDigit cX12_isDigit 1 (some .boolean) ∈ TW := List.mem_filter.mpr ⟨tt_7 (List.mem_of_getElem? (i := 178) rfl), rfl⟩
theorem ml_RX12_129 : Cond.methodLink RX12 129 yX12_isSignByte ∈ TW := List.mem_filter.mpr ⟨tt_7 (List.mem_of_getElem? (i := 179) rfl), rfl⟩
theorem sm_X12_isSignByte : Cond.static yX12_isSignByte ∈ TW := List.mem_filter.mpr ⟨tt_7 (List.mem_of_getElem? (i := 180) rfl), rfl⟩
theorem cd_X12_isSignByte : Cond.code yX12_isSignByte cX12_isSignByte 2 (some .boolean) ∈ TW := List.mem_filter.mpr ⟨tt_7 (List.mem_of_getElem? (i := 181) rfl), rfl⟩
theorem ml_RX12_285 : Cond.methodLink RX12 285 yX12_readLine ∈ TW := List.mem_filter.mpr ⟨tt_7 (List.mem_of_getElem? (i := 182) rfl), rfl⟩
theorem im_X12_readLine : Cond.instanceMethod yX12_readLine ∈ TW := List.mem_filter.mpr ⟨tt_7 (List.mem_of_getElem? (i := 184) rfl), rfl⟩
theorem cd_X12_readLine : Cond.code yX12_readLine cX12_readLine 1 none ∈ TW := List.mem_filter.mpr ⟨tt_7 (List.mem_of_getElem? (i := 185) rfl), rfl⟩
theorem ml_RX12_147 : Cond.methodLink RX12 147 yX12_isWord ∈ TW := List.mem_filter.mpr ⟨tt_7 (List.mem_of_getElem? (i := 187) rfl), rfl⟩
theorem im_X12_isWord : Cond.instanceMethod yX12_isWord ∈ TW := List.mem_filter.mpr ⟨tt_7 (List.mem_of_getElem? (i := 189) rfl), rfl⟩
theorem cd_X12_isWord : Cond.code yX12_isWord cX12_isWord 4 (some .boolean) ∈ TW := List.mem_filter.mpr ⟨tt_7 (List.mem_of_getElem? (i := 190) rfl), rfl⟩
theorem ml_RX12_138 : Cond.methodLink RX12 138 yJ0_length_8abf5 ∈ TW := List.mem_filter.mpr ⟨tt_7 (List.mem_of_getElem? (i := 191) rfl), rfl⟩
theorem ml_RX12_143 : Cond.methodLink RX12 143 yJ0_charAt_5068e ∈ TW := List.mem_filter.mpr ⟨tt_7 (List.mem_of_getElem? (i := 192) rfl), rfl⟩
theorem ml_RX12_261 : Cond.methodLink RX12 261 yX12_readWard ∈ TW := List.mem_filter.mpr ⟨tt_7 (List.mem_of_getElem? (i := 193) rfl), rfl⟩
theorem im_X12_readWard : Cond.instanceMethod yX12_readWard ∈ TW := List.mem_filter.mpr ⟨tt_7 (List.mem_of_getElem? (i := 195) rfl), rfl⟩
theorem cd_X12_readWard : Cond.code yX12_readWard cX12_readWard 5 none ∈ TW := List.mem_filter.mpr ⟨tt_7 (List.mem_of_getElem? (i := 196) rfl), rfl⟩
theorem ml_RX12_244 : Cond.methodLink RX12 244 yX12_begins ∈ TW := List.mem_filter.mpr ⟨tt_7 (List.mem_of_getElem? (i := 197) rfl), rfl⟩
theorem im_X12_begins : Cond.instanceMethod yX12_begins ∈ TW := List.mem_filter.mpr ⟨tt_7 (List.mem_of_getElem? (i := 199) rfl), rfl⟩
theorem cd_X12_begins : Cond.code yX12_begins cX12_begins 3 (some .boolean) ∈ TW := List.mem_filter.mpr ⟨tt_7 (List.mem_of_getElem? (i := 200) rfl), rfl⟩
theorem ml_RX12_154 : Cond.methodLink RX12 154 yX12_blames ∈ TW := List.mem_filter.mpr ⟨tt_7 (List.mem_of_getElem? (i := 201) rfl), rfl⟩
theorem im_X12_blames : Cond.instanceMethod yX12_blames ∈ TW := List.mem_filter.mpr ⟨tt_7 (List.mem_of_getElem? (i := 203) rfl), rfl⟩
theorem cd_X12_blames : Cond.code yX12_blames cX12_blames 2 none ∈ TW := List.mem_filter.mpr ⟨tt_7 (List.mem_of_getElem? (i := 204) rfl), rfl⟩
theorem ml_RX12_240 : Cond.methodLink RX12 240 yX12_number ∈ TW := List.mem_filter.mpr ⟨tt_7 (List.mem_of_getElem? (i := 205) rfl), rfl⟩
theorem im_X12_number : Cond.instanceMethod yX12_number ∈ TW := List.mem_filter.mpr ⟨tt_7 (List.mem_of_getElem? (i := 207) rfl), rfl⟩
theorem cd_X12_number : Cond.code yX12_number cX12_number 4 (some .int) ∈ TW := List.mem_filter.mpr ⟨tt_7 (List.mem_of_getElem? (i := 208) rfl), rfl⟩
theorem ml_RX12_162 : Cond.methodLink RX12 162 yX12_took ∈ TW := List.mem_filter.mpr ⟨tt_7 (List.mem_of_getElem? (i := 210) rfl), rfl⟩
theorem im_X12_took : Cond.instanceMethod yX12_took ∈ TW := List.mem_filter.mpr ⟨tt_7 (List.mem_of_getElem? (i := 212) rfl), rfl⟩
theorem cd_X12_took : Cond.code yX12_took cX12_took 3 (some .boolean) ∈ TW := List.mem_filter.mpr ⟨tt_7 (List.mem_of_getElem? (i := 213) rfl), rfl⟩
theorem ml_RX12_250 : Cond.methodLink RX12 250 yX12_has ∈ TW := List.mem_filter.mpr ⟨tt_7 (List.mem_of_getElem? (i := 214) rfl), rfl⟩
theorem sm_X12_has : Cond.static yX12_has ∈ TW := List.mem_filter.mpr ⟨tt_7 (List.mem_of_getElem? (i := 215) rfl), rfl⟩
theorem cd_X12_has : Cond.code yX12_has cX12_has 2 (some .boolean) ∈ TW := List.mem_filter.mpr ⟨tt_7 (List.mem_of_getElem? (i := 216) rfl), rfl⟩
theorem ml_RX12_264 : Cond.methodLink RX12 264 yX12_readAct ∈ TW := List.mem_filter.mpr ⟨tt_7 (List.mem_of_getElem? (i := 218) rfl), rfl⟩
theorem im_X12_readAct : Cond.instanceMethod yX12_readAct ∈ TW := List.mem_filter.mpr ⟨tt_7 (List.mem_of_getElem? (i := 220) rfl), rfl⟩
theorem cd_X12_readAct : Cond.code yX12_readAct cX12_readAct 6 none ∈ TW := List.mem_filter.mpr ⟨tt_7 (List.mem_of_getElem? (i := 221) rfl), rfl⟩
theorem ml_RX12_255 : Cond.methodLink RX12 255 yX12_mustWord ∈ TW := List.mem_filter.mpr ⟨tt_7 (List.mem_of_getElem? (i := 223) rfl), rfl⟩
theorem im_X12_mustWord : Cond.instanceMethod yX12_mustWord ∈ TW := List.mem_filter.mpr ⟨tt_7 (List.mem_of_getElem? (i := 225) rfl), rfl⟩
theorem cd_X12_mustWord : Cond.code yX12_mustWord cX12_mustWord 2 none ∈ TW := List.mem_filter.mpr ⟨tt_7 (List.mem_of_getElem? (i := 226) rfl), rfl⟩
theorem ml_RX12_273 : Cond.methodLink RX12 273 yX12_beginsLaw ∈ TW := List.mem_filter.mpr ⟨tt_7 (List.mem_of_getElem? (i := 233) rfl), rfl⟩
theorem im_X12_beginsLaw : Cond.instanceMethod yX12_beginsLaw ∈ TW := List.mem_filter.mpr ⟨tt_7 (List.mem_of_getElem? (i := 235) rfl), rfl⟩
theorem cd_X12_beginsLaw : Cond.code yX12_beginsLaw cX12_beginsLaw 3 none ∈ TW := List.mem_filter.mpr ⟨tt_7 (List.mem_of_getElem? (i := 236) rfl), rfl⟩
theorem ml_RX12_171 : Cond.methodLink RX12 171 yX12_mustSign ∈ TW := List.mem_filter.mpr ⟨tt_7 (List.mem_of_getElem? (i := 237) rfl), rfl⟩
theorem im_X12_mustSign : Cond.instanceMethod yX12_mustSign ∈ TW := List.mem_filter.mpr ⟨tt_7 (List.mem_of_getElem? (i := 239) rfl), rfl⟩
theorem cd_X12_mustSign : Cond.code yX12_mustSign cX12_mustSign 2 none ∈ TW := List.mem_filter.mpr ⟨tt_8 (List.mem_of_getElem? (i := 0) rfl), rfl⟩
theorem ml_RX12_201 : Cond.methodLink RX12 201 yX12_readSum ∈ TW := List.mem_filter.mpr ⟨tt_8 (List.mem_of_getElem? (i := 1) rfl), rfl⟩
theorem im_X12_readSum : Cond.instanceMethod yX12_readSum ∈ TW := List.mem_filter.mpr ⟨tt_8 (List.mem_of_getElem? (i := 3) rfl), rfl⟩
theorem cd_X12_readSum : Cond.code yX12_readSum cX12_readSum 2 none ∈ TW := List.mem_filter.mpr ⟨tt_8 (List.mem_of_getElem? (i := 4) rfl), rfl⟩
theorem ml_RX12_204 : Cond.methodLink RX12 204 yX12_readTerm ∈ TW := List.mem_filter.mpr ⟨tt_8 (List.mem_of_getElem? (i := 5) rfl), rfl⟩
theorem im_X12_readTerm : Cond.instanceMethod yX12_readTerm ∈ TW := List.mem_filter.mpr ⟨tt_8 (List.mem_of_getElem? (i := 7) rfl), rfl⟩
theorem cd_X12_readTerm : Cond.code yX12_readTerm cX12_readTerm 1 none ∈ TW := List.mem_filter.mpr ⟨tt_8 (List.mem_of_getElem? (i := 8) rfl), rfl⟩
theorem ml_RX12_207 : Cond.methodLink RX12 207 yX12_readAtom ∈ TW := List.mem_filter.mpr ⟨tt_8 (List.mem_of_getElem? (i := 9) rfl), rfl⟩
theorem im_X12_readAtom : Cond.instanceMethod yX12_readAtom ∈ TW := List.mem_filter.mpr ⟨tt_8 (List.mem_of_getElem? (i := 11) rfl), rfl⟩
theorem cd_X12_readAtom : Cond.code yX12_readAtom cX12_readAtom 3 none ∈ TW := List.mem_filter.mpr ⟨tt_8 (List.mem_of_getElem? (i := 12) rfl), rfl⟩
theorem ml_RX12_237 : Cond.methodLink RX12 237 yX12_lawWord ∈ TW := List.mem_filter.mpr ⟨tt_8 (List.mem_of_getElem? (i := 13) rfl), rfl⟩
theorem im_X12_lawWord : Cond.instanceMethod yX12_lawWord ∈ TW := List.mem_filter.mpr ⟨tt_8 (List.mem_of_getElem? (i := 15) rfl), rfl⟩
theorem cd_X12_lawWord : Cond.code yX12_lawWord cX12_lawWord 1 (some .int) ∈ TW := List.mem_filter.mpr ⟨tt_8 (List.mem_of_getElem? (i := 16) rfl), rfl⟩
theorem ml_RX12_231 : Cond.methodLink RX12 231 yX12_degreeWord ∈ TW := List.mem_filter.mpr ⟨tt_8 (List.mem_of_getElem? (i := 17) rfl), rfl⟩
theorem im_X12_degreeWord : Cond.instanceMethod yX12_degreeWord ∈ TW := List.mem_filter.mpr ⟨tt_8 (List.mem_of_getElem? (i := 19) rfl), rfl⟩
theorem cd_X12_degreeWord : Cond.code yX12_degreeWord cX12_degreeWord 1 (some .int) ∈ TW := List.mem_filter.mpr ⟨tt_8 (List.mem_of_getElem? (i := 20) rfl), rfl⟩
theorem ml_RX12_234 : Cond.methodLink RX12 234 yX12_prevailWord ∈ TW := List.mem_filter.mpr ⟨tt_8 (List.mem_of_getElem? (i := 25) rfl), rfl⟩
theorem im_X12_prevailWord : Cond.instanceMethod yX12_prevailWord ∈ TW := List.mem_filter.mpr ⟨tt_8 (List.mem_of_getElem? (i := 27) rfl), rfl⟩
theorem cd_X12_prevailWord : Cond.code yX12_prevailWord cX12_prevailWord 1 (some .int) ∈ TW := List.mem_filter.mpr ⟨tt_8 (List.mem_of_getElem? (i := 28) rfl), rfl⟩
theorem ml_RX12_182 : Cond.methodLink RX12 182 yX12_laysStep ∈ TW := List.mem_filter.mpr ⟨tt_8 (List.mem_of_getElem? (i := 32) rfl), rfl⟩
theorem im_X12_laysStep : Cond.instanceMethod yX12_laysStep ∈ TW := List.mem_filter.mpr ⟨tt_8 (List.mem_of_getElem? (i := 34) rfl), rfl⟩
theorem cd_X12_laysStep : Cond.code yX12_laysStep cX12_laysStep 2 none ∈ TW := List.mem_filter.mpr ⟨tt_8 (List.mem_of_getElem? (i := 35) rfl), rfl⟩
theorem ml_RX12_195 : Cond.methodLink RX12 195 yX12_isSign ∈ TW := List.mem_filter.mpr ⟨tt_8 (List.mem_of_getElem? (i := 36) rfl), rfl⟩
theorem im_X12_isSign : Cond.instanceMethod yX12_isSign ∈ TW := List.mem_filter.mpr ⟨tt_8 (List.mem_of_getElem? (i := 38) rfl), rfl⟩
theorem cd_X12_isSign : Cond.code yX12_isSign cX12_isSign 2 (some .boolean) ∈ TW := List.mem_filter.mpr ⟨tt_8 (List.mem_of_getElem? (i := 39) rfl), rfl⟩
theorem ml_RX12_192 : Cond.methodLink RX12 192 yX12_goesIn ∈ TW := List.mem_filter.mpr ⟨tt_8 (List.mem_of_getElem? (i := 40) rfl), rfl⟩
theorem im_X12_goesIn : Cond.instanceMethod yX12_goesIn ∈ TW := List.mem_filter.mpr ⟨tt_8 (List.mem_of_getElem? (i := 42) rfl), rfl⟩
theorem cd_X12_goesIn : Cond.code yX12_goesIn cX12_goesIn 1 none ∈ TW := List.mem_filter.mpr ⟨tt_8 (List.mem_of_getElem? (i := 43) rfl), rfl⟩
theorem ml_RX12_198 : Cond.methodLink RX12 198 yX12_readTruth ∈ TW := List.mem_filter.mpr ⟨tt_8 (List.mem_of_getElem? (i := 45) rfl), rfl⟩
theorem im_X12_readTruth : Cond.instanceMethod yX12_readTruth ∈ TW := List.mem_filter.mpr ⟨tt_8 (List.mem_of_getElem? (i := 47) rfl), rfl⟩
theorem cd_X12_readTruth : Cond.code yX12_readTruth cX12_readTruth 1 none ∈ TW := List.mem_filter.mpr ⟨tt_8 (List.mem_of_getElem? (i := 48) rfl), rfl⟩
theorem ml_RX12_177 : Cond.methodLink RX12 177 yX12_readBoth ∈ TW := List.mem_filter.mpr ⟨tt_8 (List.mem_of_getElem? (i := 49) rfl), rfl⟩
theorem im_X12_readBoth : Cond.instanceMethod yX12_readBoth ∈ TW := List.mem_filter.mpr ⟨tt_8 (List.mem_of_getElem? (i := 51) rfl), rfl⟩
theorem cd_X12_readBoth : Cond.code yX12_readBoth cX12_readBoth 1 none ∈ TW := List.mem_filter.mpr ⟨tt_8 (List.mem_of_getElem? (i := 52) rfl), rfl⟩
theorem ml_RX12_185 : Cond.methodLink RX12 185 yX12_readUnit ∈ TW := List.mem_filter.mpr ⟨tt_8 (List.mem_of_getElem? (i := 53) rfl), rfl⟩
theorem im_X12_readUnit : Cond.instanceMethod yX12_readUnit ∈ TW := List.mem_filter.mpr ⟨tt_8 (List.mem_of_getElem? (i := 55) rfl), rfl⟩
theorem cd_X12_readUnit : Cond.code yX12_readUnit cX12_readUnit 2 none ∈ TW := List.mem_filter.mpr ⟨tt_8 (List.mem_of_getElem? (i := 56) rfl), rfl⟩
theorem ml_RX12_279 : Cond.methodLink RX12 279 yX12_readStop ∈ TW := List.mem_filter.mpr ⟨tt_8 (List.mem_of_getElem? (i := 60) rfl), rfl⟩
theorem im_X12_readStop : Cond.instanceMethod yX12_readStop ∈ TW := List.mem_filter.mpr ⟨tt_8 (List.mem_of_getElem? (i := 62) rfl), rfl⟩
theorem cd_X12_readStop : Cond.code yX12_readStop cX12_readStop 1 none ∈ TW := List.mem_filter.mpr ⟨tt_8 (List.mem_of_getElem? (i := 63) rfl), rfl⟩
theorem ml_RL_177 : Cond.methodLink RL 177 yX12_fault ∈ TW := List.mem_filter.mpr ⟨tt_8 (List.mem_of_getElem? (i := 64) rfl), rfl⟩
theorem im_X12_fault : Cond.instanceMethod yX12_fault ∈ TW := List.mem_filter.mpr ⟨tt_8 (List.mem_of_getElem? (i := 65) rfl), rfl⟩
theorem se_X12_fault : Cond.selects yX12_fault.cls yX12_fault yX12_fault ∈ TW := List.mem_filter.mpr ⟨tt_8 (List.mem_of_getElem? (i := 66) rfl), rfl⟩
theorem cd_X12_fault : Cond.code yX12_fault cX12_fault 2 (some .int) ∈ TW := List.mem_filter.mpr ⟨tt_8 (List.mem_of_getElem? (i := 67) rfl), rfl⟩
theorem ml_RL_181 : Cond.methodLink RL 181 yX12_ward ∈ TW := List.mem_filter.mpr ⟨tt_8 (List.mem_of_getElem? (i := 68) rfl), rfl⟩
theorem im_X12_ward : Cond.instanceMethod yX12_ward ∈ TW := List.mem_filter.mpr ⟨tt_8 (List.mem_of_getElem? (i := 69) rfl), rfl⟩
theorem se_X12_ward : Cond.selects yX12_ward.cls yX12_ward yX12_ward ∈ TW := List.mem_filter.mpr ⟨tt_8 (List.mem_of_getElem? (i := 70) rfl), rfl⟩
theorem cd_X12_ward : Cond.code yX12_ward cX12_ward 3 (some .int) ∈ TW := List.mem_filter.mpr ⟨tt_8 (List.mem_of_getElem? (i := 71) rfl), rfl⟩
theorem ml_RX12_371 : Cond.methodLink RX12 371 yX12_isWard ∈ TW := List.mem_filter.mpr ⟨tt_8 (List.mem_of_getElem? (i := 72) rfl), rfl⟩
theorem im_X12_isWard : Cond.instanceMethod yX12_isWard ∈ TW := List.mem_filter.mpr ⟨tt_8 (List.mem_of_getElem? (i := 74) rfl), rfl⟩
theorem cd_X12_isWard : Cond.code yX12_isWard cX12_isWard 3 (some .boolean) ∈ TW := List.mem_filter.mpr ⟨tt_8 (List.mem_of_getElem? (i := 75) rfl), rfl⟩
theorem ml_RX12_291 : Cond.methodLink RX12 291 yX12_wards ∈ TW := List.mem_filter.mpr ⟨tt_8 (List.mem_of_getElem? (i := 76) rfl), rfl⟩
theorem im_X12_wards : Cond.instanceMethod yX12_wards ∈ TW := List.mem_filter.mpr ⟨tt_8 (List.mem_of_getElem? (i := 78) rfl), rfl⟩
theorem cd_X12_wards : Cond.code yX12_wards cX12_wards 1 (some .int) ∈ TW := List.mem_filter.mpr ⟨tt_8 (List.mem_of_getElem? (i := 79) rfl), rfl⟩
theorem kl_RX12_375 : Cond.constantLong RX12 375 (5 : Int64) ∈ TW := List.mem_filter.mpr ⟨tt_8 (List.mem_of_getElem? (i := 80) rfl), rfl⟩
theorem ml_RX12_324 : Cond.methodLink RX12 324 yX12_laidOn ∈ TW := List.mem_filter.mpr ⟨tt_8 (List.mem_of_getElem? (i := 81) rfl), rfl⟩
theorem im_X12_laidOn : Cond.instanceMethod yX12_laidOn ∈ TW := List.mem_filter.mpr ⟨tt_8 (List.mem_of_getElem? (i := 83) rfl), rfl⟩
theorem cd_X12_laidOn : Cond.code yX12_laidOn cX12_laidOn 4 (some .int) ∈ TW := List.mem_filter.mpr ⟨tt_8 (List.mem_of_getElem? (i := 84) rfl), rfl⟩
theorem ml_RX12_322 : Cond.methodLink RX12 322 Lib.Math.max.name ∈ TW := List.mem_filter.mpr ⟨tt_8 (List.mem_of_getElem? (i := 85) rfl), rfl⟩
theorem ml_RL_184 : Cond.methodLink RL 184 yX12_act ∈ TW := List.mem_filter.mpr ⟨tt_8 (List.mem_of_getElem? (i := 86) rfl), rfl⟩
theorem im_X12_act : Cond.instanceMethod yX12_act ∈ TW := List.mem_filter.mpr ⟨tt_8 (List.mem_of_getElem? (i := 87) rfl), rfl⟩
theorem se_X12_act : Cond.selects yX12_act.cls yX12_act yX12_act ∈ TW := List.mem_filter.mpr ⟨tt_8 (List.mem_of_getElem? (i := 88) rfl), rfl⟩
theorem cd_X12_act : Cond.code yX12_act cX12_act 3 (some .int) ∈ TW := List.mem_filter.mpr ⟨tt_8 (List.mem_of_getElem? (i := 89) rfl), rfl⟩
theorem ml_RX12_377 : Cond.methodLink RX12 377 yX12_isAct ∈ TW := List.mem_filter.mpr ⟨tt_8 (List.mem_of_getElem? (i := 90) rfl), rfl⟩
theorem im_X12_isAct : Cond.instanceMethod yX12_isAct ∈ TW := List.mem_filter.mpr ⟨tt_8 (List.mem_of_getElem? (i := 92) rfl), rfl⟩
theorem cd_X12_isAct : Cond.code yX12_isAct cX12_isAct 3 (some .boolean) ∈ TW := List.mem_filter.mpr ⟨tt_8 (List.mem_of_getElem? (i := 93) rfl), rfl⟩
theorem ml_RX12_294 : Cond.methodLink RX12 294 yX12_acts ∈ TW := List.mem_filter.mpr ⟨tt_8 (List.mem_of_getElem? (i := 94) rfl), rfl⟩
theorem im_X12_acts : Cond.instanceMethod yX12_acts ∈ TW := List.mem_filter.mpr ⟨tt_8 (List.mem_of_getElem? (i := 96) rfl), rfl⟩
theorem cd_X12_acts : Cond.code yX12_acts cX12_acts 1 (some .int) ∈ TW := List.mem_filter.mpr ⟨tt_8 (List.mem_of_getElem? (i := 97) rfl), rfl⟩
theorem kl_RX12_380 : Cond.constantLong RX12 380 (4 : Int64) ∈ TW := List.mem_filter.mpr ⟨tt_8 (List.mem_of_getElem? (i := 98) rfl), rfl⟩
theorem ml_RL_187 : Cond.methodLink RL 187 yX12_degree ∈ TW := List.mem_filter.mpr ⟨tt_8 (List.mem_of_getElem? (i := 99) rfl), rfl⟩
theorem im_X12_degree : Cond.instanceMethod yX12_degree ∈ TW := List.mem_filter.mpr ⟨tt_8 (List.mem_of_getElem? (i := 100) rfl), rfl⟩
theorem se_X12_degree : Cond.selects yX12_degree.cls yX12_degree yX12_degree ∈ TW := List.mem_filter.mpr ⟨tt_8 (List.mem_of_getElem? (i := 101) rfl), rfl⟩
theorem cd_X12_degree : Cond.code yX12_degree cX12_degree 3 (some .int) ∈ TW := List.mem_filter.mpr ⟨tt_8 (List.mem_of_getElem? (i := 102) rfl), rfl⟩
theorem kl_RX12_382 : Cond.constantLong RX12 382 (999 : Int64) ∈ TW := List.mem_filter.mpr ⟨tt_8 (List.mem_of_getElem? (i := 103) rfl), rfl⟩
theorem ml_RX12_344 : Cond.methodLink RX12 344 yX12_degreeIn ∈ TW := List.mem_filter.mpr ⟨tt_8 (List.mem_of_getElem? (i := 104) rfl), rfl⟩
theorem im_X12_degreeIn : Cond.instanceMethod yX12_degreeIn ∈ TW := List.mem_filter.mpr ⟨tt_8 (List.mem_of_getElem? (i := 106) rfl), rfl⟩
theorem cd_X12_degreeIn : Cond.code yX12_degreeIn cX12_degreeIn 5 (some .int) ∈ TW := List.mem_filter.mpr ⟨tt_8 (List.mem_of_getElem? (i := 107) rfl), rfl⟩
theorem ml_RX12_328 : Cond.methodLink RX12 328 yX12_kept ∈ TW := List.mem_filter.mpr ⟨tt_8 (List.mem_of_getElem? (i := 108) rfl), rfl⟩
theorem sm_X12_kept : Cond.static yX12_kept ∈ TW := List.mem_filter.mpr ⟨tt_8 (List.mem_of_getElem? (i := 109) rfl), rfl⟩
theorem cd_X12_kept : Cond.code yX12_kept cX12_kept 1 (some .int) ∈ TW := List.mem_filter.mpr ⟨tt_8 (List.mem_of_getElem? (i := 110) rfl), rfl⟩
theorem ml_RX12_320 : Cond.methodLink RX12 320 Lib.Math.min.name ∈ TW := List.mem_filter.mpr ⟨tt_8 (List.mem_of_getElem? (i := 111) rfl), rfl⟩
theorem ml_RX12_331 : Cond.methodLink RX12 331 yX12_lawOf ∈ TW := List.mem_filter.mpr ⟨tt_8 (List.mem_of_getElem? (i := 112) rfl), rfl⟩
theorem im_X12_lawOf : Cond.instanceMethod yX12_lawOf ∈ TW := List.mem_filter.mpr ⟨tt_8 (List.mem_of_getElem? (i := 114) rfl), rfl⟩
theorem cd_X12_lawOf : Cond.code yX12_lawOf cX12_lawOf 6 (some .int) ∈ TW := List.mem_filter.mpr ⟨tt_8 (List.mem_of_getElem? (i := 115) rfl), rfl⟩
theorem ml_RX12_316 : Cond.methodLink RX12 316 yX12_doneStep ∈ TW := List.mem_filter.mpr ⟨tt_8 (List.mem_of_getElem? (i := 116) rfl), rfl⟩
theorem sm_X12_doneStep : Cond.static yX12_doneStep ∈ TW := List.mem_filter.mpr ⟨tt_8 (List.mem_of_getElem? (i := 117) rfl), rfl⟩
theorem cd_X12_doneStep : Cond.code yX12_doneStep cX12_doneStep 5 (some .int) ∈ TW := List.mem_filter.mpr ⟨tt_8 (List.mem_of_getElem? (i := 118) rfl), rfl⟩
theorem ml_RX12_312 : Cond.methodLink RX12 312 yX12_bound ∈ TW := List.mem_filter.mpr ⟨tt_8 (List.mem_of_getElem? (i := 119) rfl), rfl⟩
theorem sm_X12_bound : Cond.static yX12_bound ∈ TW := List.mem_filter.mpr ⟨tt_8 (List.mem_of_getElem? (i := 120) rfl), rfl⟩
theorem cd_X12_bound : Cond.code yX12_bound cX12_bound 2 (some .int) ∈ TW := List.mem_filter.mpr ⟨tt_8 (List.mem_of_getElem? (i := 121) rfl), rfl⟩
theorem kl_RX12_299 : Cond.constantLong RX12 299 (-1000000 : Int64) ∈ TW := List.mem_filter.mpr ⟨tt_8 (List.mem_of_getElem? (i := 122) rfl), rfl⟩
theorem kl_RX12_301 : Cond.constantLong RX12 301 (1000000 : Int64) ∈ TW := List.mem_filter.mpr ⟨tt_8 (List.mem_of_getElem? (i := 123) rfl), rfl⟩
theorem ml_RX12_303 : Cond.methodLink RX12 303 Lib.MathLoose.min_long.x ∈ TW := List.mem_filter.mpr ⟨tt_8 (List.mem_of_getElem? (i := 124) rfl), rfl⟩
theorem sm_J9_min_f86c9 : Cond.static yJ9_min_f86c9 ∈ TW := List.mem_filter.mpr ⟨tt_8 (List.mem_of_getElem? (i := 125) rfl), rfl⟩
theorem sm_mminl : Cond.static Lib.MathLoose.min_long.x ∈ TW := List.mem_filter.mpr ⟨tt_8 (List.mem_of_getElem? (i := 125) rfl), rfl⟩
theorem cd_J9_min_f86c9 : Cond.code yJ9_min_f86c9 cJ9_min_f86c9 4 (some .long) ∈ TW := List.mem_filter.mpr ⟨tt_8 (List.mem_of_getElem? (i := 126) rfl), rfl⟩
theorem cd_mminl : Cond.code Lib.MathLoose.min_long.x Lib.MathLoose.min_long.code 4 (some .long) ∈ TW := List.mem_filter.mpr ⟨tt_8 (List.mem_of_getElem? (i := 126) rfl), rfl⟩
theorem ml_RX12_309 : Cond.methodLink RX12 309 Lib.MathLoose.max_long.x ∈ TW := List.mem_filter.mpr ⟨tt_8 (List.mem_of_getElem? (i := 127) rfl), rfl⟩
theorem sm_J9_max_f86c9 : Cond.static yJ9_max_f86c9 ∈ TW := List.mem_filter.mpr ⟨tt_8 (List.mem_of_getElem? (i := 128) rfl), rfl⟩
theorem sm_mmaxl : Cond.static Lib.MathLoose.max_long.x ∈ TW := List.mem_filter.mpr ⟨tt_8 (List.mem_of_getElem? (i := 128) rfl), rfl⟩
theorem cd_J9_max_f86c9 : Cond.code yJ9_max_f86c9 cJ9_max_f86c9 4 (some .long) ∈ TW := List.mem_filter.mpr ⟨tt_8 (List.mem_of_getElem? (i := 129) rfl), rfl⟩
theorem cd_mmaxl : Cond.code Lib.MathLoose.max_long.x Lib.MathLoose.max_long.code 4 (some .long) ∈ TW := List.mem_filter.mpr ⟨tt_8 (List.mem_of_getElem? (i := 129) rfl), rfl⟩
theorem ml_RL_190 : Cond.methodLink RL 190 yX12_code ∈ TW := List.mem_filter.mpr ⟨tt_8 (List.mem_of_getElem? (i := 130) rfl), rfl⟩
theorem im_X12_code : Cond.instanceMethod yX12_code ∈ TW := List.mem_filter.mpr ⟨tt_8 (List.mem_of_getElem? (i := 131) rfl), rfl⟩
theorem se_X12_code : Cond.selects yX12_code.cls yX12_code yX12_code ∈ TW := List.mem_filter.mpr ⟨tt_8 (List.mem_of_getElem? (i := 132) rfl), rfl⟩
theorem cd_X12_code : Cond.code yX12_code cX12_code 3 (some .int) ∈ TW := List.mem_filter.mpr ⟨tt_8 (List.mem_of_getElem? (i := 133) rfl), rfl⟩
theorem ml_RX12_384 : Cond.methodLink RX12 384 yX12_codeIn ∈ TW := List.mem_filter.mpr ⟨tt_8 (List.mem_of_getElem? (i := 134) rfl), rfl⟩
theorem im_X12_codeIn : Cond.instanceMethod yX12_codeIn ∈ TW := List.mem_filter.mpr ⟨tt_8 (List.mem_of_getElem? (i := 136) rfl), rfl⟩
theorem cd_X12_codeIn : Cond.code yX12_codeIn cX12_codeIn 3 (some .int) ∈ TW := List.mem_filter.mpr ⟨tt_8 (List.mem_of_getElem? (i := 137) rfl), rfl⟩
theorem ml_RX12_347 : Cond.methodLink RX12 347 yX12_allActs ∈ TW := List.mem_filter.mpr ⟨tt_8 (List.mem_of_getElem? (i := 138) rfl), rfl⟩
theorem im_X12_allActs : Cond.instanceMethod yX12_allActs ∈ TW := List.mem_filter.mpr ⟨tt_8 (List.mem_of_getElem? (i := 140) rfl), rfl⟩
theorem cd_X12_allActs : Cond.code yX12_allActs cX12_allActs 1 (some .int) ∈ TW := List.mem_filter.mpr ⟨tt_8 (List.mem_of_getElem? (i := 141) rfl), rfl⟩
theorem ml_RX12_350 : Cond.methodLink RX12 350 yX12_codeAt ∈ TW := List.mem_filter.mpr ⟨tt_8 (List.mem_of_getElem? (i := 142) rfl), rfl⟩
theorem im_X12_codeAt : Cond.instanceMethod yX12_codeAt ∈ TW := List.mem_filter.mpr ⟨tt_8 (List.mem_of_getElem? (i := 144) rfl), rfl⟩
theorem cd_X12_codeAt : Cond.code yX12_codeAt cX12_codeAt 7 (some .int) ∈ TW := List.mem_filter.mpr ⟨tt_8 (List.mem_of_getElem? (i := 145) rfl), rfl⟩
theorem ml_RX12_334 : Cond.methodLink RX12 334 yX12_speaks ∈ TW := List.mem_filter.mpr ⟨tt_8 (List.mem_of_getElem? (i := 146) rfl), rfl⟩
theorem im_X12_speaks : Cond.instanceMethod yX12_speaks ∈ TW := List.mem_filter.mpr ⟨tt_8 (List.mem_of_getElem? (i := 148) rfl), rfl⟩
theorem cd_X12_speaks : Cond.code yX12_speaks cX12_speaks 4 (some .boolean) ∈ TW := List.mem_filter.mpr ⟨tt_8 (List.mem_of_getElem? (i := 149) rfl), rfl⟩
theorem ml_RX12_338 : Cond.methodLink RX12 338 yX12_speaking ∈ TW := List.mem_filter.mpr ⟨tt_8 (List.mem_of_getElem? (i := 150) rfl), rfl⟩
theorem im_X12_speaking : Cond.instanceMethod yX12_speaking ∈ TW := List.mem_filter.mpr ⟨tt_8 (List.mem_of_getElem? (i := 152) rfl), rfl⟩
theorem cd_X12_speaking : Cond.code yX12_speaking cX12_speaking 6 (some .int) ∈ TW := List.mem_filter.mpr ⟨tt_8 (List.mem_of_getElem? (i := 153) rfl), rfl⟩
theorem ml_RX12_341 : Cond.methodLink RX12 341 yX12_prevails ∈ TW := List.mem_filter.mpr ⟨tt_8 (List.mem_of_getElem? (i := 154) rfl), rfl⟩
theorem im_X12_prevails : Cond.instanceMethod yX12_prevails ∈ TW := List.mem_filter.mpr ⟨tt_8 (List.mem_of_getElem? (i := 156) rfl), rfl⟩
theorem cd_X12_prevails : Cond.code yX12_prevails cX12_prevails 5 (some .boolean) ∈ TW := List.mem_filter.mpr ⟨tt_8 (List.mem_of_getElem? (i := 157) rfl), rfl⟩
theorem ml_RL_194 : Cond.methodLink RL 194 yX12_fine ∈ TW := List.mem_filter.mpr ⟨tt_8 (List.mem_of_getElem? (i := 158) rfl), rfl⟩
theorem im_X12_fine : Cond.instanceMethod yX12_fine ∈ TW := List.mem_filter.mpr ⟨tt_8 (List.mem_of_getElem? (i := 159) rfl), rfl⟩
theorem se_X12_fine : Cond.selects yX12_fine.cls yX12_fine yX12_fine ∈ TW := List.mem_filter.mpr ⟨tt_8 (List.mem_of_getElem? (i := 160) rfl), rfl⟩
theorem cd_X12_fine : Cond.code yX12_fine cX12_fine 5 (some .int) ∈ TW := List.mem_filter.mpr ⟨tt_8 (List.mem_of_getElem? (i := 161) rfl), rfl⟩
theorem ml_RX12_395 : Cond.methodLink RX12 395 yX12_isDeedOut ∈ TW := List.mem_filter.mpr ⟨tt_8 (List.mem_of_getElem? (i := 162) rfl), rfl⟩
theorem im_X12_isDeedOut : Cond.instanceMethod yX12_isDeedOut ∈ TW := List.mem_filter.mpr ⟨tt_8 (List.mem_of_getElem? (i := 164) rfl), rfl⟩
theorem cd_X12_isDeedOut : Cond.code yX12_isDeedOut cX12_isDeedOut 5 (some .boolean) ∈ TW := List.mem_filter.mpr ⟨tt_8 (List.mem_of_getElem? (i := 165) rfl), rfl⟩
theorem ml_RX12_389 : Cond.methodLink RX12 389 yX12_isKind ∈ TW := List.mem_filter.mpr ⟨tt_8 (List.mem_of_getElem? (i := 166) rfl), rfl⟩
theorem sm_X12_isKind : Cond.static yX12_isKind ∈ TW := List.mem_filter.mpr ⟨tt_8 (List.mem_of_getElem? (i := 167) rfl), rfl⟩
theorem cd_X12_isKind : Cond.code yX12_isKind cX12_isKind 1 (some .boolean) ∈ TW := List.mem_filter.mpr ⟨tt_8 (List.mem_of_getElem? (i := 168) rfl), rfl⟩
theorem kl_RX12_297 : Cond.constantLong RX12 297 (9 : Int64) ∈ TW := List.mem_filter.mpr ⟨tt_8 (List.mem_of_getElem? (i := 169) rfl), rfl⟩
theorem ml_RX12_392 : Cond.methodLink RX12 392 yX12_isLong ∈ TW := List.mem_filter.mpr ⟨tt_8 (List.mem_of_getElem? (i := 170) rfl), rfl⟩
theorem sm_X12_isLong : Cond.static yX12_isLong ∈ TW := List.mem_filter.mpr ⟨tt_8 (List.mem_of_getElem? (i := 171) rfl), rfl⟩
theorem cd_X12_isLong : Cond.code yX12_isLong cX12_isLong 1 (some .boolean) ∈ TW := List.mem_filter.mpr ⟨tt_8 (List.mem_of_getElem? (i := 172) rfl), rfl⟩
theorem kl_RX12_387 : Cond.constantLong RX12 387 (24 : Int64) ∈ TW := List.mem_filter.mpr ⟨tt_8 (List.mem_of_getElem? (i := 173) rfl), rfl⟩
theorem ml_RX12_398 : Cond.methodLink RX12 398 yX12_laysHours ∈ TW := List.mem_filter.mpr ⟨tt_8 (List.mem_of_getElem? (i := 174) rfl), rfl⟩
theorem im_X12_laysHours : Cond.instanceMethod yX12_laysHours ∈ TW := List.mem_filter.mpr ⟨tt_8 (List.mem_of_getElem? (i := 176) rfl), rfl⟩
theorem cd_X12_laysHours : Cond.code yX12_laysHours cX12_laysHours 5 none ∈ TW := List.mem_filter.mpr ⟨tt_8 (List.mem_of_getElem? (i := 177) rfl), rfl⟩
theorem ml_RX12_360 : Cond.methodLink RX12 360 yX12_laysCodes ∈ TW := List.mem_filter.mpr ⟨tt_8 (List.mem_of_getElem? (i := 178) rfl), rfl⟩
theorem im_X12_laysCodes : Cond.instanceMethod yX12_laysCodes ∈ TW := List.mem_filter.mpr ⟨tt_8 (List.mem_of_getElem? (i := 180) rfl), rfl⟩
theorem cd_X12_laysCodes : Cond.code yX12_laysCodes cX12_laysCodes 5 none ∈ TW := List.mem_filter.mpr ⟨tt_8 (List.mem_of_getElem? (i := 181) rfl), rfl⟩
theorem ml_RX12_363 : Cond.methodLink RX12 363 yX12_laysDegrees ∈ TW := List.mem_filter.mpr ⟨tt_8 (List.mem_of_getElem? (i := 182) rfl), rfl⟩
theorem im_X12_laysDegrees : Cond.instanceMethod yX12_laysDegrees ∈ TW := List.mem_filter.mpr ⟨tt_8 (List.mem_of_getElem? (i := 184) rfl), rfl⟩
theorem cd_X12_laysDegrees : Cond.code yX12_laysDegrees cX12_laysDegrees 5 none ∈ TW := List.mem_filter.mpr ⟨tt_8 (List.mem_of_getElem? (i := 185) rfl), rfl⟩
theorem ml_RX12_367 : Cond.methodLink RX12 367 yX12_laysRow ∈ TW := List.mem_filter.mpr ⟨tt_8 (List.mem_of_getElem? (i := 186) rfl), rfl⟩
theorem im_X12_laysRow : Cond.instanceMethod yX12_laysRow ∈ TW := List.mem_filter.mpr ⟨tt_8 (List.mem_of_getElem? (i := 188) rfl), rfl⟩
theorem cd_X12_laysRow : Cond.code yX12_laysRow cX12_laysRow 9 none ∈ TW := List.mem_filter.mpr ⟨tt_8 (List.mem_of_getElem? (i := 189) rfl), rfl⟩
theorem ml_RX12_354 : Cond.methodLink RX12 354 yX12_ofKind ∈ TW := List.mem_filter.mpr ⟨tt_8 (List.mem_of_getElem? (i := 190) rfl), rfl⟩
theorem im_X12_ofKind : Cond.instanceMethod yX12_ofKind ∈ TW := List.mem_filter.mpr ⟨tt_8 (List.mem_of_getElem? (i := 192) rfl), rfl⟩
theorem cd_X12_ofKind : Cond.code yX12_ofKind cX12_ofKind 4 (some .int) ∈ TW := List.mem_filter.mpr ⟨tt_8 (List.mem_of_getElem? (i := 193) rfl), rfl⟩
theorem ml_RX12_357 : Cond.methodLink RX12 357 yX12_finesOf ∈ TW := List.mem_filter.mpr ⟨tt_8 (List.mem_of_getElem? (i := 194) rfl), rfl⟩
theorem im_X12_finesOf : Cond.instanceMethod yX12_finesOf ∈ TW := List.mem_filter.mpr ⟨tt_8 (List.mem_of_getElem? (i := 196) rfl), rfl⟩
theorem cd_X12_finesOf : Cond.code yX12_finesOf cX12_finesOf 4 (some .int) ∈ TW := List.mem_filter.mpr ⟨tt_8 (List.mem_of_getElem? (i := 197) rfl), rfl⟩
theorem ml_RX12_402 : Cond.methodLink RX12 402 yX12_fineOf ∈ TW := List.mem_filter.mpr ⟨tt_8 (List.mem_of_getElem? (i := 198) rfl), rfl⟩
theorem im_X12_fineOf : Cond.instanceMethod yX12_fineOf ∈ TW := List.mem_filter.mpr ⟨tt_8 (List.mem_of_getElem? (i := 200) rfl), rfl⟩
theorem cd_X12_fineOf : Cond.code yX12_fineOf cX12_fineOf 6 (some .int) ∈ TW := List.mem_filter.mpr ⟨tt_8 (List.mem_of_getElem? (i := 201) rfl), rfl⟩
theorem ml_RL_197 : Cond.methodLink RL 197 yX12_lawful ∈ TW := List.mem_filter.mpr ⟨tt_8 (List.mem_of_getElem? (i := 202) rfl), rfl⟩
theorem im_X12_lawful : Cond.instanceMethod yX12_lawful ∈ TW := List.mem_filter.mpr ⟨tt_8 (List.mem_of_getElem? (i := 203) rfl), rfl⟩
theorem se_X12_lawful : Cond.selects yX12_lawful.cls yX12_lawful yX12_lawful ∈ TW := List.mem_filter.mpr ⟨tt_8 (List.mem_of_getElem? (i := 204) rfl), rfl⟩
theorem cd_X12_lawful : Cond.code yX12_lawful cX12_lawful 5 (some .boolean) ∈ TW := List.mem_filter.mpr ⟨tt_8 (List.mem_of_getElem? (i := 205) rfl), rfl⟩
theorem ml_RX12_405 : Cond.methodLink RX12 405 yX12_isLawful ∈ TW := List.mem_filter.mpr ⟨tt_8 (List.mem_of_getElem? (i := 206) rfl), rfl⟩
theorem im_X12_isLawful : Cond.instanceMethod yX12_isLawful ∈ TW := List.mem_filter.mpr ⟨tt_8 (List.mem_of_getElem? (i := 208) rfl), rfl⟩
theorem cd_X12_isLawful : Cond.code yX12_isLawful cX12_isLawful 5 (some .boolean) ∈ TW := List.mem_filter.mpr ⟨tt_8 (List.mem_of_getElem? (i := 209) rfl), rfl⟩
theorem ml_RL_201 : Cond.methodLink RL 201 yX12_fire ∈ TW := List.mem_filter.mpr ⟨tt_8 (List.mem_of_getElem? (i := 210) rfl), rfl⟩
theorem im_X12_fire : Cond.instanceMethod yX12_fire ∈ TW := List.mem_filter.mpr ⟨tt_8 (List.mem_of_getElem? (i := 211) rfl), rfl⟩
theorem se_X12_fire : Cond.selects yX12_fire.cls yX12_fire yX12_fire ∈ TW := List.mem_filter.mpr ⟨tt_8 (List.mem_of_getElem? (i := 212) rfl), rfl⟩
theorem cd_X12_fire : Cond.code yX12_fire cX12_fire 4 (some .int) ∈ TW := List.mem_filter.mpr ⟨tt_8 (List.mem_of_getElem? (i := 213) rfl), rfl⟩
theorem ml_RX12_418 : Cond.methodLink RX12 418 yX12_lays ∈ TW := List.mem_filter.mpr ⟨tt_8 (List.mem_of_getElem? (i := 214) rfl), rfl⟩
theorem im_X12_lays : Cond.instanceMethod yX12_lays ∈ TW := List.mem_filter.mpr ⟨tt_8 (List.mem_of_getElem? (i := 216) rfl), rfl⟩
theorem cd_X12_lays : Cond.code yX12_lays cX12_lays 5 (some .int) ∈ TW := List.mem_filter.mpr ⟨tt_8 (List.mem_of_getElem? (i := 217) rfl), rfl⟩
theorem kl_RX12_408 : Cond.constantLong RX12 408 (60 : Int64) ∈ TW := List.mem_filter.mpr ⟨tt_8 (List.mem_of_getElem? (i := 218) rfl), rfl⟩
theorem kl_RX12_410 : Cond.constantLong RX12 410 (99 : Int64) ∈ TW := List.mem_filter.mpr ⟨tt_8 (List.mem_of_getElem? (i := 219) rfl), rfl⟩
theorem ml_RX12_412 : Cond.methodLink RX12 412 yX12_keeps ∈ TW := List.mem_filter.mpr ⟨tt_8 (List.mem_of_getElem? (i := 220) rfl), rfl⟩
theorem im_X12_keeps : Cond.instanceMethod yX12_keeps ∈ TW := List.mem_filter.mpr ⟨tt_8 (List.mem_of_getElem? (i := 222) rfl), rfl⟩
theorem cd_X12_keeps : Cond.code yX12_keeps cX12_keeps 2 none ∈ TW := List.mem_filter.mpr ⟨tt_8 (List.mem_of_getElem? (i := 223) rfl), rfl⟩
theorem ml_RX12_415 : Cond.methodLink RX12 415 yX12_laysOn ∈ TW := List.mem_filter.mpr ⟨tt_8 (List.mem_of_getElem? (i := 224) rfl), rfl⟩
theorem im_X12_laysOn : Cond.instanceMethod yX12_laysOn ∈ TW := List.mem_filter.mpr ⟨tt_8 (List.mem_of_getElem? (i := 226) rfl), rfl⟩
theorem cd_X12_laysOn : Cond.code yX12_laysOn cX12_laysOn 5 none ∈ TW := List.mem_filter.mpr ⟨tt_8 (List.mem_of_getElem? (i := 227) rfl), rfl⟩
theorem ml_RL_204 : Cond.methodLink RL 204 yX12_ice ∈ TW := List.mem_filter.mpr ⟨tt_8 (List.mem_of_getElem? (i := 228) rfl), rfl⟩
theorem im_X12_ice : Cond.instanceMethod yX12_ice ∈ TW := List.mem_filter.mpr ⟨tt_8 (List.mem_of_getElem? (i := 229) rfl), rfl⟩
theorem se_X12_ice : Cond.selects yX12_ice.cls yX12_ice yX12_ice ∈ TW := List.mem_filter.mpr ⟨tt_8 (List.mem_of_getElem? (i := 230) rfl), rfl⟩
theorem cd_X12_ice : Cond.code yX12_ice cX12_ice 4 (some .int) ∈ TW := List.mem_filter.mpr ⟨tt_8 (List.mem_of_getElem? (i := 231) rfl), rfl⟩
theorem ml_RL_207 : Cond.methodLink RL 207 yX12_amend ∈ TW := List.mem_filter.mpr ⟨tt_8 (List.mem_of_getElem? (i := 232) rfl), rfl⟩
theorem im_X12_amend : Cond.instanceMethod yX12_amend ∈ TW := List.mem_filter.mpr ⟨tt_8 (List.mem_of_getElem? (i := 233) rfl), rfl⟩
theorem se_X12_amend : Cond.selects yX12_amend.cls yX12_amend yX12_amend ∈ TW := List.mem_filter.mpr ⟨tt_8 (List.mem_of_getElem? (i := 234) rfl), rfl⟩
theorem cd_X12_amend : Cond.code yX12_amend cX12_amend 6 (some .int) ∈ TW := List.mem_filter.mpr ⟨tt_8 (List.mem_of_getElem? (i := 235) rfl), rfl⟩
theorem ml_RL_210 : Cond.methodLink RL 210 yX12_repeal ∈ TW := List.mem_filter.mpr ⟨tt_8 (List.mem_of_getElem? (i := 236) rfl), rfl⟩
theorem im_X12_repeal : Cond.instanceMethod yX12_repeal ∈ TW := List.mem_filter.mpr ⟨tt_8 (List.mem_of_getElem? (i := 237) rfl), rfl⟩
theorem se_X12_repeal : Cond.selects yX12_repeal.cls yX12_repeal yX12_repeal ∈ TW := List.mem_filter.mpr ⟨tt_8 (List.mem_of_getElem? (i := 238) rfl), rfl⟩
theorem cd_X12_repeal : Cond.code yX12_repeal cX12_repeal 2 (some .int) ∈ TW := List.mem_filter.mpr ⟨tt_8 (List.mem_of_getElem? (i := 239) rfl), rfl⟩
theorem ml_RX12_421 : Cond.methodLink RX12 421 yX12_size ∈ TW := List.mem_filter.mpr ⟨tt_9 (List.mem_of_getElem? (i := 0) rfl), rfl⟩
theorem sm_X12_size : Cond.static yX12_size ∈ TW := List.mem_filter.mpr ⟨tt_9 (List.mem_of_getElem? (i := 1) rfl), rfl⟩
theorem cd_X12_size : Cond.code yX12_size cX12_size 3 (some .int) ∈ TW := List.mem_filter.mpr ⟨tt_9 (List.mem_of_getElem? (i := 2) rfl), rfl⟩
theorem ml_RL_213 : Cond.methodLink RL 213 yX12_hours ∈ TW := List.mem_filter.mpr ⟨tt_9 (List.mem_of_getElem? (i := 3) rfl), rfl⟩
theorem im_X12_hours : Cond.instanceMethod yX12_hours ∈ TW := List.mem_filter.mpr ⟨tt_9 (List.mem_of_getElem? (i := 4) rfl), rfl⟩
theorem se_X12_hours : Cond.selects yX12_hours.cls yX12_hours yX12_hours ∈ TW := List.mem_filter.mpr ⟨tt_9 (List.mem_of_getElem? (i := 5) rfl), rfl⟩
theorem cd_X12_hours : Cond.code yX12_hours cX12_hours 2 (some .int) ∈ TW := List.mem_filter.mpr ⟨tt_9 (List.mem_of_getElem? (i := 6) rfl), rfl⟩
theorem ml_RL_216 : Cond.methodLink RL 216 yX12_done ∈ TW := List.mem_filter.mpr ⟨tt_9 (List.mem_of_getElem? (i := 7) rfl), rfl⟩
theorem im_X12_done : Cond.instanceMethod yX12_done ∈ TW := List.mem_filter.mpr ⟨tt_9 (List.mem_of_getElem? (i := 8) rfl), rfl⟩
theorem se_X12_done : Cond.selects yX12_done.cls yX12_done yX12_done ∈ TW := List.mem_filter.mpr ⟨tt_9 (List.mem_of_getElem? (i := 9) rfl), rfl⟩
theorem cd_X12_done : Cond.code yX12_done cX12_done 4 (some .int) ∈ TW := List.mem_filter.mpr ⟨tt_9 (List.mem_of_getElem? (i := 10) rfl), rfl⟩
theorem ml_RX12_424 : Cond.methodLink RX12 424 yX12_doesDeed ∈ TW := List.mem_filter.mpr ⟨tt_9 (List.mem_of_getElem? (i := 11) rfl), rfl⟩
theorem im_X12_doesDeed : Cond.instanceMethod yX12_doesDeed ∈ TW := List.mem_filter.mpr ⟨tt_9 (List.mem_of_getElem? (i := 13) rfl), rfl⟩
theorem cd_X12_doesDeed : Cond.code yX12_doesDeed cX12_doesDeed 5 (some .int) ∈ TW := List.mem_filter.mpr ⟨tt_9 (List.mem_of_getElem? (i := 14) rfl), rfl⟩
theorem ml_RL_219 : Cond.methodLink RL 219 yX12_undo ∈ TW := List.mem_filter.mpr ⟨tt_9 (List.mem_of_getElem? (i := 15) rfl), rfl⟩
theorem im_X12_undo : Cond.instanceMethod yX12_undo ∈ TW := List.mem_filter.mpr ⟨tt_9 (List.mem_of_getElem? (i := 16) rfl), rfl⟩
theorem se_X12_undo : Cond.selects yX12_undo.cls yX12_undo yX12_undo ∈ TW := List.mem_filter.mpr ⟨tt_9 (List.mem_of_getElem? (i := 17) rfl), rfl⟩
theorem cd_X12_undo : Cond.code yX12_undo cX12_undo 3 (some .int) ∈ TW := List.mem_filter.mpr ⟨tt_9 (List.mem_of_getElem? (i := 18) rfl), rfl⟩
theorem kl_RX12_427 : Cond.constantLong RX12 427 (10 : Int64) ∈ TW := List.mem_filter.mpr ⟨tt_9 (List.mem_of_getElem? (i := 19) rfl), rfl⟩
theorem ml_RL_222 : Cond.methodLink RL 222 yX12_judge ∈ TW := List.mem_filter.mpr ⟨tt_9 (List.mem_of_getElem? (i := 20) rfl), rfl⟩
theorem im_X12_judge : Cond.instanceMethod yX12_judge ∈ TW := List.mem_filter.mpr ⟨tt_9 (List.mem_of_getElem? (i := 21) rfl), rfl⟩
theorem se_X12_judge : Cond.selects yX12_judge.cls yX12_judge yX12_judge ∈ TW := List.mem_filter.mpr ⟨tt_9 (List.mem_of_getElem? (i := 22) rfl), rfl⟩
theorem cd_X12_judge : Cond.code yX12_judge cX12_judge 7 (some .int) ∈ TW := List.mem_filter.mpr ⟨tt_9 (List.mem_of_getElem? (i := 23) rfl), rfl⟩
theorem ml_RX12_453 : Cond.methodLink RX12 453 yX12_trayFault ∈ TW := List.mem_filter.mpr ⟨tt_9 (List.mem_of_getElem? (i := 24) rfl), rfl⟩
theorem im_X12_trayFault : Cond.instanceMethod yX12_trayFault ∈ TW := List.mem_filter.mpr ⟨tt_9 (List.mem_of_getElem? (i := 26) rfl), rfl⟩
theorem cd_X12_trayFault : Cond.code yX12_trayFault cX12_trayFault 2 (some .int) ∈ TW := List.mem_filter.mpr ⟨tt_9 (List.mem_of_getElem? (i := 27) rfl), rfl⟩
theorem ml_RX12_429 : Cond.methodLink RX12 429 yX12_isTray ∈ TW := List.mem_filter.mpr ⟨tt_9 (List.mem_of_getElem? (i := 28) rfl), rfl⟩
theorem sm_X12_isTray : Cond.static yX12_isTray ∈ TW := List.mem_filter.mpr ⟨tt_9 (List.mem_of_getElem? (i := 29) rfl), rfl⟩
theorem cd_X12_isTray : Cond.code yX12_isTray cX12_isTray 1 (some .boolean) ∈ TW := List.mem_filter.mpr ⟨tt_9 (List.mem_of_getElem? (i := 30) rfl), rfl⟩
theorem kl_RX12_456 : Cond.constantLong RX12 456 (3 : Int64) ∈ TW := List.mem_filter.mpr ⟨tt_9 (List.mem_of_getElem? (i := 31) rfl), rfl⟩
theorem ml_RX12_458 : Cond.methodLink RX12 458 yX12_putsAside ∈ TW := List.mem_filter.mpr ⟨tt_9 (List.mem_of_getElem? (i := 32) rfl), rfl⟩
theorem im_X12_putsAside : Cond.instanceMethod yX12_putsAside ∈ TW := List.mem_filter.mpr ⟨tt_9 (List.mem_of_getElem? (i := 34) rfl), rfl⟩
theorem cd_X12_putsAside : Cond.code yX12_putsAside cX12_putsAside 2 none ∈ TW := List.mem_filter.mpr ⟨tt_9 (List.mem_of_getElem? (i := 35) rfl), rfl⟩
theorem ml_RX12_461 : Cond.methodLink RX12 461 yX12_whyTold ∈ TW := List.mem_filter.mpr ⟨tt_9 (List.mem_of_getElem? (i := 36) rfl), rfl⟩
theorem im_X12_whyTold : Cond.instanceMethod yX12_whyTold ∈ TW := List.mem_filter.mpr ⟨tt_9 (List.mem_of_getElem? (i := 38) rfl), rfl⟩
theorem cd_X12_whyTold : Cond.code yX12_whyTold cX12_whyTold 3 (some .int) ∈ TW := List.mem_filter.mpr ⟨tt_9 (List.mem_of_getElem? (i := 39) rfl), rfl⟩
theorem kl_RX12_432 : Cond.constantLong RX12 432 (-1 : Int64) ∈ TW := List.mem_filter.mpr ⟨tt_9 (List.mem_of_getElem? (i := 40) rfl), rfl⟩
theorem kl_RX12_434 : Cond.constantLong RX12 434 (9999 : Int64) ∈ TW := List.mem_filter.mpr ⟨tt_9 (List.mem_of_getElem? (i := 41) rfl), rfl⟩
theorem kl_RX12_436 : Cond.constantLong RX12 436 (100 : Int64) ∈ TW := List.mem_filter.mpr ⟨tt_9 (List.mem_of_getElem? (i := 42) rfl), rfl⟩
theorem kl_RX12_438 : Cond.constantLong RX12 438 (20000 : Int64) ∈ TW := List.mem_filter.mpr ⟨tt_9 (List.mem_of_getElem? (i := 43) rfl), rfl⟩
theorem kl_RX12_440 : Cond.constantLong RX12 440 (20999 : Int64) ∈ TW := List.mem_filter.mpr ⟨tt_9 (List.mem_of_getElem? (i := 44) rfl), rfl⟩
theorem kl_RX12_442 : Cond.constantLong RX12 442 (30000 : Int64) ∈ TW := List.mem_filter.mpr ⟨tt_9 (List.mem_of_getElem? (i := 45) rfl), rfl⟩
theorem kl_RX12_444 : Cond.constantLong RX12 444 (30999 : Int64) ∈ TW := List.mem_filter.mpr ⟨tt_9 (List.mem_of_getElem? (i := 46) rfl), rfl⟩
theorem kl_RX12_446 : Cond.constantLong RX12 446 (10000 : Int64) ∈ TW := List.mem_filter.mpr ⟨tt_9 (List.mem_of_getElem? (i := 47) rfl), rfl⟩
theorem kl_RX12_448 : Cond.constantLong RX12 448 (40000 : Int64) ∈ TW := List.mem_filter.mpr ⟨tt_9 (List.mem_of_getElem? (i := 48) rfl), rfl⟩
theorem kl_RX12_450 : Cond.constantLong RX12 450 (40099 : Int64) ∈ TW := List.mem_filter.mpr ⟨tt_9 (List.mem_of_getElem? (i := 49) rfl), rfl⟩
theorem kc_RX12_452 : Cond.constant RX12 452 (40000 : Int32) ∈ TW := List.mem_filter.mpr ⟨tt_9 (List.mem_of_getElem? (i := 50) rfl), rfl⟩
theorem ml_RX12_464 : Cond.methodLink RX12 464 yX12_does ∈ TW := List.mem_filter.mpr ⟨tt_9 (List.mem_of_getElem? (i := 51) rfl), rfl⟩
theorem im_X12_does : Cond.instanceMethod yX12_does ∈ TW := List.mem_filter.mpr ⟨tt_9 (List.mem_of_getElem? (i := 53) rfl), rfl⟩
theorem cd_X12_does : Cond.code yX12_does cX12_does 2 none ∈ TW := List.mem_filter.mpr ⟨tt_9 (List.mem_of_getElem? (i := 54) rfl), rfl⟩
theorem ml_RX12_467 : Cond.methodLink RX12 467 yX12_putsBack ∈ TW := List.mem_filter.mpr ⟨tt_9 (List.mem_of_getElem? (i := 55) rfl), rfl⟩
theorem im_X12_putsBack : Cond.instanceMethod yX12_putsBack ∈ TW := List.mem_filter.mpr ⟨tt_9 (List.mem_of_getElem? (i := 57) rfl), rfl⟩
theorem cd_X12_putsBack : Cond.code yX12_putsBack cX12_putsBack 2 none ∈ TW := List.mem_filter.mpr ⟨tt_9 (List.mem_of_getElem? (i := 58) rfl), rfl⟩
theorem ml_RL_225 : Cond.methodLink RL 225 yX12_perform ∈ TW := List.mem_filter.mpr ⟨tt_9 (List.mem_of_getElem? (i := 59) rfl), rfl⟩
theorem im_X12_perform : Cond.instanceMethod yX12_perform ∈ TW := List.mem_filter.mpr ⟨tt_9 (List.mem_of_getElem? (i := 60) rfl), rfl⟩
theorem se_X12_perform : Cond.selects yX12_perform.cls yX12_perform yX12_perform ∈ TW := List.mem_filter.mpr ⟨tt_9 (List.mem_of_getElem? (i := 61) rfl), rfl⟩
theorem cd_X12_perform : Cond.code yX12_perform cX12_perform 3 (some .int) ∈ TW := List.mem_filter.mpr ⟨tt_9 (List.mem_of_getElem? (i := 62) rfl), rfl⟩
theorem ml_RL_228 : Cond.methodLink RL 228 yX12_season ∈ TW := List.mem_filter.mpr ⟨tt_9 (List.mem_of_getElem? (i := 63) rfl), rfl⟩
theorem im_X12_season : Cond.instanceMethod yX12_season ∈ TW := List.mem_filter.mpr ⟨tt_9 (List.mem_of_getElem? (i := 64) rfl), rfl⟩
theorem se_X12_season : Cond.selects yX12_season.cls yX12_season yX12_season ∈ TW := List.mem_filter.mpr ⟨tt_9 (List.mem_of_getElem? (i := 65) rfl), rfl⟩
theorem cd_X12_season : Cond.code yX12_season cX12_season 7 (some .int) ∈ TW := List.mem_filter.mpr ⟨tt_9 (List.mem_of_getElem? (i := 66) rfl), rfl⟩
theorem kl_RX12_474 : Cond.constantLong RX12 474 (30 : Int64) ∈ TW := List.mem_filter.mpr ⟨tt_9 (List.mem_of_getElem? (i := 67) rfl), rfl⟩
theorem ml_RX12_476 : Cond.methodLink RX12 476 yX12_draw ∈ TW := List.mem_filter.mpr ⟨tt_9 (List.mem_of_getElem? (i := 68) rfl), rfl⟩
theorem im_X12_draw : Cond.instanceMethod yX12_draw ∈ TW := List.mem_filter.mpr ⟨tt_9 (List.mem_of_getElem? (i := 70) rfl), rfl⟩
theorem cd_X12_draw : Cond.code yX12_draw cX12_draw 2 (some .int) ∈ TW := List.mem_filter.mpr ⟨tt_9 (List.mem_of_getElem? (i := 71) rfl), rfl⟩
theorem kc_RX12_470 : Cond.constant RX12 470 (1103515245 : Int32) ∈ TW := List.mem_filter.mpr ⟨tt_9 (List.mem_of_getElem? (i := 72) rfl), rfl⟩
theorem ml_RL_231 : Cond.methodLink RL 231 yX12_soonest ∈ TW := List.mem_filter.mpr ⟨tt_9 (List.mem_of_getElem? (i := 73) rfl), rfl⟩
theorem im_X12_soonest : Cond.instanceMethod yX12_soonest ∈ TW := List.mem_filter.mpr ⟨tt_9 (List.mem_of_getElem? (i := 74) rfl), rfl⟩
theorem se_X12_soonest : Cond.selects yX12_soonest.cls yX12_soonest yX12_soonest ∈ TW := List.mem_filter.mpr ⟨tt_9 (List.mem_of_getElem? (i := 75) rfl), rfl⟩
theorem cd_X12_soonest : Cond.code yX12_soonest cX12_soonest 4 (some .int) ∈ TW := List.mem_filter.mpr ⟨tt_9 (List.mem_of_getElem? (i := 76) rfl), rfl⟩
theorem ml_RX12_482 : Cond.methodLink RX12 482 yX12_soonestOf ∈ TW := List.mem_filter.mpr ⟨tt_9 (List.mem_of_getElem? (i := 77) rfl), rfl⟩
theorem im_X12_soonestOf : Cond.instanceMethod yX12_soonestOf ∈ TW := List.mem_filter.mpr ⟨tt_9 (List.mem_of_getElem? (i := 79) rfl), rfl⟩
theorem cd_X12_soonestOf : Cond.code yX12_soonestOf cX12_soonestOf 4 (some .int) ∈ TW := List.mem_filter.mpr ⟨tt_9 (List.mem_of_getElem? (i := 80) rfl), rfl⟩
theorem ml_RX12_479 : Cond.methodLink RX12 479 yX12_firstLawful ∈ TW := List.mem_filter.mpr ⟨tt_9 (List.mem_of_getElem? (i := 81) rfl), rfl⟩
theorem im_X12_firstLawful : Cond.instanceMethod yX12_firstLawful ∈ TW := List.mem_filter.mpr ⟨tt_9 (List.mem_of_getElem? (i := 83) rfl), rfl⟩
theorem cd_X12_firstLawful : Cond.code yX12_firstLawful cX12_firstLawful 5 (some .int) ∈ TW := List.mem_filter.mpr ⟨tt_9 (List.mem_of_getElem? (i := 84) rfl), rfl⟩
theorem ml_RL_234 : Cond.methodLink RL 234 yX12_where ∈ TW := List.mem_filter.mpr ⟨tt_9 (List.mem_of_getElem? (i := 85) rfl), rfl⟩
theorem im_X12_where : Cond.instanceMethod yX12_where ∈ TW := List.mem_filter.mpr ⟨tt_9 (List.mem_of_getElem? (i := 86) rfl), rfl⟩
theorem se_X12_where : Cond.selects yX12_where.cls yX12_where yX12_where ∈ TW := List.mem_filter.mpr ⟨tt_9 (List.mem_of_getElem? (i := 87) rfl), rfl⟩
theorem cd_X12_where : Cond.code yX12_where cX12_where 7 (some .int) ∈ TW := List.mem_filter.mpr ⟨tt_9 (List.mem_of_getElem? (i := 88) rfl), rfl⟩
theorem kc_RX12_485 : Cond.constant RX12 485 (536870912 : Int32) ∈ TW := List.mem_filter.mpr ⟨tt_9 (List.mem_of_getElem? (i := 89) rfl), rfl⟩
theorem ml_RL_237 : Cond.methodLink RL 237 yX12_cheapest ∈ TW := List.mem_filter.mpr ⟨tt_9 (List.mem_of_getElem? (i := 90) rfl), rfl⟩
theorem im_X12_cheapest : Cond.instanceMethod yX12_cheapest ∈ TW := List.mem_filter.mpr ⟨tt_9 (List.mem_of_getElem? (i := 91) rfl), rfl⟩
theorem se_X12_cheapest : Cond.selects yX12_cheapest.cls yX12_cheapest yX12_cheapest ∈ TW := List.mem_filter.mpr ⟨tt_9 (List.mem_of_getElem? (i := 92) rfl), rfl⟩
theorem cd_X12_cheapest : Cond.code yX12_cheapest cX12_cheapest 6 (some .int) ∈ TW := List.mem_filter.mpr ⟨tt_9 (List.mem_of_getElem? (i := 93) rfl), rfl⟩
theorem ml_RL_240 : Cond.methodLink RL 240 yX12_freeHours ∈ TW := List.mem_filter.mpr ⟨tt_9 (List.mem_of_getElem? (i := 94) rfl), rfl⟩
theorem im_X12_freeHours : Cond.instanceMethod yX12_freeHours ∈ TW := List.mem_filter.mpr ⟨tt_9 (List.mem_of_getElem? (i := 95) rfl), rfl⟩
theorem se_X12_freeHours : Cond.selects yX12_freeHours.cls yX12_freeHours yX12_freeHours ∈ TW := List.mem_filter.mpr ⟨tt_9 (List.mem_of_getElem? (i := 96) rfl), rfl⟩
theorem cd_X12_freeHours : Cond.code yX12_freeHours cX12_freeHours 6 (some .int) ∈ TW := List.mem_filter.mpr ⟨tt_9 (List.mem_of_getElem? (i := 97) rfl), rfl⟩
theorem kl_RX12_486 : Cond.constantLong RX12 486 (200 : Int64) ∈ TW := List.mem_filter.mpr ⟨tt_9 (List.mem_of_getElem? (i := 98) rfl), rfl⟩
theorem ml_RL_243 : Cond.methodLink RL 243 yX12_spell ∈ TW := List.mem_filter.mpr ⟨tt_9 (List.mem_of_getElem? (i := 99) rfl), rfl⟩
theorem im_X12_spell : Cond.instanceMethod yX12_spell ∈ TW := List.mem_filter.mpr ⟨tt_9 (List.mem_of_getElem? (i := 100) rfl), rfl⟩
theorem se_X12_spell : Cond.selects yX12_spell.cls yX12_spell yX12_spell ∈ TW := List.mem_filter.mpr ⟨tt_9 (List.mem_of_getElem? (i := 101) rfl), rfl⟩
theorem cd_X12_spell : Cond.code yX12_spell cX12_spell 9 (some .int) ∈ TW := List.mem_filter.mpr ⟨tt_9 (List.mem_of_getElem? (i := 102) rfl), rfl⟩
theorem ml_RL_246 : Cond.methodLink RL 246 yX12_lawless ∈ TW := List.mem_filter.mpr ⟨tt_9 (List.mem_of_getElem? (i := 103) rfl), rfl⟩
theorem im_X12_lawless : Cond.instanceMethod yX12_lawless ∈ TW := List.mem_filter.mpr ⟨tt_9 (List.mem_of_getElem? (i := 104) rfl), rfl⟩
theorem se_X12_lawless : Cond.selects yX12_lawless.cls yX12_lawless yX12_lawless ∈ TW := List.mem_filter.mpr ⟨tt_9 (List.mem_of_getElem? (i := 105) rfl), rfl⟩
theorem cd_X12_lawless : Cond.code yX12_lawless cX12_lawless 3 (some .int) ∈ TW := List.mem_filter.mpr ⟨tt_9 (List.mem_of_getElem? (i := 106) rfl), rfl⟩
theorem ml_RL_250 : Cond.methodLink RL 250 yX12_alwaysBarred ∈ TW := List.mem_filter.mpr ⟨tt_9 (List.mem_of_getElem? (i := 107) rfl), rfl⟩
theorem im_X12_alwaysBarred : Cond.instanceMethod yX12_alwaysBarred ∈ TW := List.mem_filter.mpr ⟨tt_9 (List.mem_of_getElem? (i := 108) rfl), rfl⟩
theorem se_X12_alwaysBarred : Cond.selects yX12_alwaysBarred.cls yX12_alwaysBarred yX12_alwaysBarred ∈ TW := List.mem_filter.mpr ⟨tt_9 (List.mem_of_getElem? (i := 109) rfl), rfl⟩
theorem cd_X12_alwaysBarred : Cond.code yX12_alwaysBarred cX12_alwaysBarred 4 (some .int) ∈ TW := List.mem_filter.mpr ⟨tt_9 (List.mem_of_getElem? (i := 110) rfl), rfl⟩
theorem ml_RX12_488 : Cond.methodLink RX12 488 yX12_barredHours ∈ TW := List.mem_filter.mpr ⟨tt_9 (List.mem_of_getElem? (i := 111) rfl), rfl⟩
theorem im_X12_barredHours : Cond.instanceMethod yX12_barredHours ∈ TW := List.mem_filter.mpr ⟨tt_9 (List.mem_of_getElem? (i := 113) rfl), rfl⟩
theorem cd_X12_barredHours : Cond.code yX12_barredHours cX12_barredHours 3 (some .int) ∈ TW := List.mem_filter.mpr ⟨tt_9 (List.mem_of_getElem? (i := 114) rfl), rfl⟩
theorem ml_RL_254 : Cond.methodLink RL 254 yX12_strictest ∈ TW := List.mem_filter.mpr ⟨tt_9 (List.mem_of_getElem? (i := 115) rfl), rfl⟩
theorem im_X12_strictest : Cond.instanceMethod yX12_strictest ∈ TW := List.mem_filter.mpr ⟨tt_9 (List.mem_of_getElem? (i := 116) rfl), rfl⟩
theorem se_X12_strictest : Cond.selects yX12_strictest.cls yX12_strictest yX12_strictest ∈ TW := List.mem_filter.mpr ⟨tt_9 (List.mem_of_getElem? (i := 117) rfl), rfl⟩
theorem cd_X12_strictest : Cond.code yX12_strictest cX12_strictest 3 (some .int) ∈ TW := List.mem_filter.mpr ⟨tt_9 (List.mem_of_getElem? (i := 118) rfl), rfl⟩
theorem ml_RL_257 : Cond.methodLink RL 257 yX12_heat ∈ TW := List.mem_filter.mpr ⟨tt_9 (List.mem_of_getElem? (i := 119) rfl), rfl⟩
theorem im_X12_heat : Cond.instanceMethod yX12_heat ∈ TW := List.mem_filter.mpr ⟨tt_9 (List.mem_of_getElem? (i := 120) rfl), rfl⟩
theorem se_X12_heat : Cond.selects yX12_heat.cls yX12_heat yX12_heat ∈ TW := List.mem_filter.mpr ⟨tt_9 (List.mem_of_getElem? (i := 121) rfl), rfl⟩
theorem cd_X12_heat : Cond.code yX12_heat cX12_heat 5 (some .int) ∈ TW := List.mem_filter.mpr ⟨tt_9 (List.mem_of_getElem? (i := 122) rfl), rfl⟩
theorem ml_RX12_494 : Cond.methodLink RX12 494 yX12_heatOf ∈ TW := List.mem_filter.mpr ⟨tt_9 (List.mem_of_getElem? (i := 123) rfl), rfl⟩
theorem im_X12_heatOf : Cond.instanceMethod yX12_heatOf ∈ TW := List.mem_filter.mpr ⟨tt_9 (List.mem_of_getElem? (i := 125) rfl), rfl⟩
theorem cd_X12_heatOf : Cond.code yX12_heatOf cX12_heatOf 5 (some .int) ∈ TW := List.mem_filter.mpr ⟨tt_9 (List.mem_of_getElem? (i := 126) rfl), rfl⟩
theorem ml_RX12_491 : Cond.methodLink RX12 491 yX12_isLawfulBy ∈ TW := List.mem_filter.mpr ⟨tt_9 (List.mem_of_getElem? (i := 127) rfl), rfl⟩
theorem im_X12_isLawfulBy : Cond.instanceMethod yX12_isLawfulBy ∈ TW := List.mem_filter.mpr ⟨tt_9 (List.mem_of_getElem? (i := 129) rfl), rfl⟩
theorem cd_X12_isLawfulBy : Cond.code yX12_isLawfulBy cX12_isLawfulBy 7 (some .boolean) ∈ TW := List.mem_filter.mpr ⟨tt_9 (List.mem_of_getElem? (i := 130) rfl), rfl⟩
theorem ml_RL_260 : Cond.methodLink RL 260 yX12_leastHeat ∈ TW := List.mem_filter.mpr ⟨tt_9 (List.mem_of_getElem? (i := 131) rfl), rfl⟩
theorem im_X12_leastHeat : Cond.instanceMethod yX12_leastHeat ∈ TW := List.mem_filter.mpr ⟨tt_9 (List.mem_of_getElem? (i := 132) rfl), rfl⟩
theorem se_X12_leastHeat : Cond.selects yX12_leastHeat.cls yX12_leastHeat yX12_leastHeat ∈ TW := List.mem_filter.mpr ⟨tt_9 (List.mem_of_getElem? (i := 133) rfl), rfl⟩
theorem cd_X12_leastHeat : Cond.code yX12_leastHeat cX12_leastHeat 8 (some .int) ∈ TW := List.mem_filter.mpr ⟨tt_9 (List.mem_of_getElem? (i := 134) rfl), rfl⟩
theorem ml_RX12_497 : Cond.methodLink RX12 497 Lib.Math.abs.name ∈ TW := List.mem_filter.mpr ⟨tt_9 (List.mem_of_getElem? (i := 135) rfl), rfl⟩
theorem sm_J9_abs_0f7a4 : Cond.static yJ9_abs_0f7a4 ∈ TW := List.mem_filter.mpr ⟨tt_9 (List.mem_of_getElem? (i := 136) rfl), rfl⟩
theorem sm_mabs : Cond.static Lib.Math.abs.name ∈ TW := List.mem_filter.mpr ⟨tt_9 (List.mem_of_getElem? (i := 136) rfl), rfl⟩
theorem cd_J9_abs_0f7a4 : Cond.code yJ9_abs_0f7a4 cJ9_abs_0f7a4 1 (some .int) ∈ TW := List.mem_filter.mpr ⟨tt_9 (List.mem_of_getElem? (i := 137) rfl), rfl⟩
theorem cd_mabs : Cond.code Lib.Math.abs.name Lib.Math.abs.code 1 (some .int) ∈ TW := List.mem_filter.mpr ⟨tt_9 (List.mem_of_getElem? (i := 137) rfl), rfl⟩
theorem ml_RL_263 : Cond.methodLink RL 263 yX12_cover ∈ TW := List.mem_filter.mpr ⟨tt_9 (List.mem_of_getElem? (i := 138) rfl), rfl⟩
theorem im_X12_cover : Cond.instanceMethod yX12_cover ∈ TW := List.mem_filter.mpr ⟨tt_9 (List.mem_of_getElem? (i := 139) rfl), rfl⟩
theorem se_X12_cover : Cond.selects yX12_cover.cls yX12_cover yX12_cover ∈ TW := List.mem_filter.mpr ⟨tt_9 (List.mem_of_getElem? (i := 140) rfl), rfl⟩
theorem cd_X12_cover : Cond.code yX12_cover cX12_cover 7 (some .int) ∈ TW := List.mem_filter.mpr ⟨tt_9 (List.mem_of_getElem? (i := 141) rfl), rfl⟩
theorem ml_RX12_500 : Cond.methodLink RX12 500 yX12_isCovered ∈ TW := List.mem_filter.mpr ⟨tt_9 (List.mem_of_getElem? (i := 142) rfl), rfl⟩
theorem im_X12_isCovered : Cond.instanceMethod yX12_isCovered ∈ TW := List.mem_filter.mpr ⟨tt_9 (List.mem_of_getElem? (i := 144) rfl), rfl⟩
theorem cd_X12_isCovered : Cond.code yX12_isCovered cX12_isCovered 4 (some .boolean) ∈ TW := List.mem_filter.mpr ⟨tt_9 (List.mem_of_getElem? (i := 145) rfl), rfl⟩
theorem ml_RL_266 : Cond.methodLink RL 266 yX12_widen ∈ TW := List.mem_filter.mpr ⟨tt_9 (List.mem_of_getElem? (i := 146) rfl), rfl⟩
theorem im_X12_widen : Cond.instanceMethod yX12_widen ∈ TW := List.mem_filter.mpr ⟨tt_9 (List.mem_of_getElem? (i := 147) rfl), rfl⟩
theorem se_X12_widen : Cond.selects yX12_widen.cls yX12_widen yX12_widen ∈ TW := List.mem_filter.mpr ⟨tt_9 (List.mem_of_getElem? (i := 148) rfl), rfl⟩
theorem cd_X12_widen : Cond.code yX12_widen cX12_widen 6 (some .int) ∈ TW := List.mem_filter.mpr ⟨tt_9 (List.mem_of_getElem? (i := 149) rfl), rfl⟩
theorem ml_RL_269 : Cond.methodLink RL 269 yX12_heaviest ∈ TW := List.mem_filter.mpr ⟨tt_9 (List.mem_of_getElem? (i := 150) rfl), rfl⟩
theorem im_X12_heaviest : Cond.instanceMethod yX12_heaviest ∈ TW := List.mem_filter.mpr ⟨tt_9 (List.mem_of_getElem? (i := 151) rfl), rfl⟩
theorem se_X12_heaviest : Cond.selects yX12_heaviest.cls yX12_heaviest yX12_heaviest ∈ TW := List.mem_filter.mpr ⟨tt_9 (List.mem_of_getElem? (i := 152) rfl), rfl⟩
theorem cd_X12_heaviest : Cond.code yX12_heaviest cX12_heaviest 6 (some .int) ∈ TW := List.mem_filter.mpr ⟨tt_9 (List.mem_of_getElem? (i := 153) rfl), rfl⟩
theorem ml_RX12_503 : Cond.methodLink RX12 503 yX12_barredBy ∈ TW := List.mem_filter.mpr ⟨tt_9 (List.mem_of_getElem? (i := 154) rfl), rfl⟩
theorem im_X12_barredBy : Cond.instanceMethod yX12_barredBy ∈ TW := List.mem_filter.mpr ⟨tt_9 (List.mem_of_getElem? (i := 156) rfl), rfl⟩
theorem cd_X12_barredBy : Cond.code yX12_barredBy cX12_barredBy 7 (some .int) ∈ TW := List.mem_filter.mpr ⟨tt_9 (List.mem_of_getElem? (i := 157) rfl), rfl⟩
theorem ml_RL_272 : Cond.methodLink RL 272 yX12_freeWay ∈ TW := List.mem_filter.mpr ⟨tt_9 (List.mem_of_getElem? (i := 158) rfl), rfl⟩
theorem im_X12_freeWay : Cond.instanceMethod yX12_freeWay ∈ TW := List.mem_filter.mpr ⟨tt_9 (List.mem_of_getElem? (i := 159) rfl), rfl⟩
theorem se_X12_freeWay : Cond.selects yX12_freeWay.cls yX12_freeWay yX12_freeWay ∈ TW := List.mem_filter.mpr ⟨tt_9 (List.mem_of_getElem? (i := 160) rfl), rfl⟩
theorem cd_X12_freeWay : Cond.code yX12_freeWay cX12_freeWay 4 (some .int) ∈ TW := List.mem_filter.mpr ⟨tt_9 (List.mem_of_getElem? (i := 161) rfl), rfl⟩
theorem ml_RX12_512 : Cond.methodLink RX12 512 yX12_isWayOut ∈ TW := List.mem_filter.mpr ⟨tt_9 (List.mem_of_getElem? (i := 162) rfl), rfl⟩
theorem im_X12_isWayOut : Cond.instanceMethod yX12_isWayOut ∈ TW := List.mem_filter.mpr ⟨tt_9 (List.mem_of_getElem? (i := 164) rfl), rfl⟩
theorem cd_X12_isWayOut : Cond.code yX12_isWayOut cX12_isWayOut 4 (some .boolean) ∈ TW := List.mem_filter.mpr ⟨tt_9 (List.mem_of_getElem? (i := 165) rfl), rfl⟩
theorem ml_RX12_515 : Cond.methodLink RX12 515 yX12_laysWays ∈ TW := List.mem_filter.mpr ⟨tt_9 (List.mem_of_getElem? (i := 166) rfl), rfl⟩
theorem im_X12_laysWays : Cond.instanceMethod yX12_laysWays ∈ TW := List.mem_filter.mpr ⟨tt_9 (List.mem_of_getElem? (i := 168) rfl), rfl⟩
theorem cd_X12_laysWays : Cond.code yX12_laysWays cX12_laysWays 4 none ∈ TW := List.mem_filter.mpr ⟨tt_9 (List.mem_of_getElem? (i := 169) rfl), rfl⟩
theorem ml_RX12_518 : Cond.methodLink RX12 518 yX12_laysFree ∈ TW := List.mem_filter.mpr ⟨tt_9 (List.mem_of_getElem? (i := 170) rfl), rfl⟩
theorem im_X12_laysFree : Cond.instanceMethod yX12_laysFree ∈ TW := List.mem_filter.mpr ⟨tt_9 (List.mem_of_getElem? (i := 172) rfl), rfl⟩
theorem cd_X12_laysFree : Cond.code yX12_laysFree cX12_laysFree 6 (some .int) ∈ TW := List.mem_filter.mpr ⟨tt_9 (List.mem_of_getElem? (i := 173) rfl), rfl⟩
theorem ml_RX12_506 : Cond.methodLink RX12 506 yX12_freeIn ∈ TW := List.mem_filter.mpr ⟨tt_9 (List.mem_of_getElem? (i := 174) rfl), rfl⟩
theorem im_X12_freeIn : Cond.instanceMethod yX12_freeIn ∈ TW := List.mem_filter.mpr ⟨tt_9 (List.mem_of_getElem? (i := 176) rfl), rfl⟩
theorem cd_X12_freeIn : Cond.code yX12_freeIn cX12_freeIn 4 (some .int) ∈ TW := List.mem_filter.mpr ⟨tt_9 (List.mem_of_getElem? (i := 177) rfl), rfl⟩
theorem ml_RX12_509 : Cond.methodLink RX12 509 yX12_nextTo ∈ TW := List.mem_filter.mpr ⟨tt_9 (List.mem_of_getElem? (i := 178) rfl), rfl⟩
theorem im_X12_nextTo : Cond.instanceMethod yX12_nextTo ∈ TW := List.mem_filter.mpr ⟨tt_9 (List.mem_of_getElem? (i := 180) rfl), rfl⟩
theorem cd_X12_nextTo : Cond.code yX12_nextTo cX12_nextTo 4 (some .int) ∈ TW := List.mem_filter.mpr ⟨tt_9 (List.mem_of_getElem? (i := 181) rfl), rfl⟩
theorem ml_RL_275 : Cond.methodLink RL 275 yX12_freeAt ∈ TW := List.mem_filter.mpr ⟨tt_9 (List.mem_of_getElem? (i := 182) rfl), rfl⟩
theorem im_X12_freeAt : Cond.instanceMethod yX12_freeAt ∈ TW := List.mem_filter.mpr ⟨tt_9 (List.mem_of_getElem? (i := 183) rfl), rfl⟩
theorem se_X12_freeAt : Cond.selects yX12_freeAt.cls yX12_freeAt yX12_freeAt ∈ TW := List.mem_filter.mpr ⟨tt_9 (List.mem_of_getElem? (i := 184) rfl), rfl⟩
theorem cd_X12_freeAt : Cond.code yX12_freeAt cX12_freeAt 8 (some .int) ∈ TW := List.mem_filter.mpr ⟨tt_9 (List.mem_of_getElem? (i := 185) rfl), rfl⟩
theorem ml_RX12_521 : Cond.methodLink RX12 521 yX12_firstOf ∈ TW := List.mem_filter.mpr ⟨tt_9 (List.mem_of_getElem? (i := 186) rfl), rfl⟩
theorem sm_X12_firstOf : Cond.static yX12_firstOf ∈ TW := List.mem_filter.mpr ⟨tt_9 (List.mem_of_getElem? (i := 187) rfl), rfl⟩
theorem cd_X12_firstOf : Cond.code yX12_firstOf cX12_firstOf 2 (some .int) ∈ TW := List.mem_filter.mpr ⟨tt_9 (List.mem_of_getElem? (i := 188) rfl), rfl⟩
theorem ml_RL_278 : Cond.methodLink RL 278 yX12_wayFine ∈ TW := List.mem_filter.mpr ⟨tt_9 (List.mem_of_getElem? (i := 189) rfl), rfl⟩
theorem im_X12_wayFine : Cond.instanceMethod yX12_wayFine ∈ TW := List.mem_filter.mpr ⟨tt_9 (List.mem_of_getElem? (i := 190) rfl), rfl⟩
theorem se_X12_wayFine : Cond.selects yX12_wayFine.cls yX12_wayFine yX12_wayFine ∈ TW := List.mem_filter.mpr ⟨tt_9 (List.mem_of_getElem? (i := 191) rfl), rfl⟩
theorem cd_X12_wayFine : Cond.code yX12_wayFine cX12_wayFine 7 (some .int) ∈ TW := List.mem_filter.mpr ⟨tt_9 (List.mem_of_getElem? (i := 192) rfl), rfl⟩
theorem ml_RX12_524 : Cond.methodLink RX12 524 yX12_leastBeside ∈ TW := List.mem_filter.mpr ⟨tt_9 (List.mem_of_getElem? (i := 193) rfl), rfl⟩
theorem im_X12_leastBeside : Cond.instanceMethod yX12_leastBeside ∈ TW := List.mem_filter.mpr ⟨tt_9 (List.mem_of_getElem? (i := 195) rfl), rfl⟩
theorem cd_X12_leastBeside : Cond.code yX12_leastBeside cX12_leastBeside 4 (some .int) ∈ TW := List.mem_filter.mpr ⟨tt_9 (List.mem_of_getElem? (i := 196) rfl), rfl⟩
theorem ml_RL_281 : Cond.methodLink RL 281 yX12_freeWays ∈ TW := List.mem_filter.mpr ⟨tt_9 (List.mem_of_getElem? (i := 197) rfl), rfl⟩
theorem im_X12_freeWays : Cond.instanceMethod yX12_freeWays ∈ TW := List.mem_filter.mpr ⟨tt_9 (List.mem_of_getElem? (i := 198) rfl), rfl⟩
theorem se_X12_freeWays : Cond.selects yX12_freeWays.cls yX12_freeWays yX12_freeWays ∈ TW := List.mem_filter.mpr ⟨tt_9 (List.mem_of_getElem? (i := 199) rfl), rfl⟩
theorem cd_X12_freeWays : Cond.code yX12_freeWays cX12_freeWays 7 (some .long) ∈ TW := List.mem_filter.mpr ⟨tt_9 (List.mem_of_getElem? (i := 200) rfl), rfl⟩
theorem kl_RX12_527 : Cond.constantLong RX12 527 (20 : Int64) ∈ TW := List.mem_filter.mpr ⟨tt_9 (List.mem_of_getElem? (i := 201) rfl), rfl⟩
theorem ml_RX12_529 : Cond.methodLink RX12 529 yX12_manyBeside ∈ TW := List.mem_filter.mpr ⟨tt_9 (List.mem_of_getElem? (i := 202) rfl), rfl⟩
theorem im_X12_manyBeside : Cond.instanceMethod yX12_manyBeside ∈ TW := List.mem_filter.mpr ⟨tt_9 (List.mem_of_getElem? (i := 204) rfl), rfl⟩
theorem cd_X12_manyBeside : Cond.code yX12_manyBeside cX12_manyBeside 5 (some .long) ∈ TW := List.mem_filter.mpr ⟨tt_9 (List.mem_of_getElem? (i := 205) rfl), rfl⟩
theorem ml_RL_284 : Cond.methodLink RL 284 yX12_guard ∈ TW := List.mem_filter.mpr ⟨tt_9 (List.mem_of_getElem? (i := 206) rfl), rfl⟩
theorem im_X12_guard : Cond.instanceMethod yX12_guard ∈ TW := List.mem_filter.mpr ⟨tt_9 (List.mem_of_getElem? (i := 207) rfl), rfl⟩
theorem se_X12_guard : Cond.selects yX12_guard.cls yX12_guard yX12_guard ∈ TW := List.mem_filter.mpr ⟨tt_9 (List.mem_of_getElem? (i := 208) rfl), rfl⟩
theorem cd_X12_guard : Cond.code yX12_guard cX12_guard 9 (some .int) ∈ TW := List.mem_filter.mpr ⟨tt_9 (List.mem_of_getElem? (i := 209) rfl), rfl⟩
theorem ml_RL_287 : Cond.methodLink RL 287 yX12_errands ∈ TW := List.mem_filter.mpr ⟨tt_9 (List.mem_of_getElem? (i := 210) rfl), rfl⟩
theorem im_X12_errands : Cond.instanceMethod yX12_errands ∈ TW := List.mem_filter.mpr ⟨tt_9 (List.mem_of_getElem? (i := 211) rfl), rfl⟩
theorem se_X12_errands : Cond.selects yX12_errands.cls yX12_errands yX12_errands ∈ TW := List.mem_filter.mpr ⟨tt_9 (List.mem_of_getElem? (i := 212) rfl), rfl⟩
theorem cd_X12_errands : Cond.code yX12_errands cX12_errands 4 (some .int) ∈ TW := List.mem_filter.mpr ⟨tt_9 (List.mem_of_getElem? (i := 213) rfl), rfl⟩
theorem ml_RX12_536 : Cond.methodLink RX12 536 yX12_errandsFault ∈ TW := List.mem_filter.mpr ⟨tt_9 (List.mem_of_getElem? (i := 214) rfl), rfl⟩
theorem im_X12_errandsFault : Cond.instanceMethod yX12_errandsFault ∈ TW := List.mem_filter.mpr ⟨tt_9 (List.mem_of_getElem? (i := 216) rfl), rfl⟩
theorem cd_X12_errandsFault : Cond.code yX12_errandsFault cX12_errandsFault 7 (some .int) ∈ TW := List.mem_filter.mpr ⟨tt_9 (List.mem_of_getElem? (i := 217) rfl), rfl⟩
theorem ml_RX12_539 : Cond.methodLink RX12 539 yX12_laysErrands ∈ TW := List.mem_filter.mpr ⟨tt_9 (List.mem_of_getElem? (i := 218) rfl), rfl⟩
theorem im_X12_laysErrands : Cond.instanceMethod yX12_laysErrands ∈ TW := List.mem_filter.mpr ⟨tt_9 (List.mem_of_getElem? (i := 220) rfl), rfl⟩
theorem cd_X12_laysErrands : Cond.code yX12_laysErrands cX12_laysErrands 3 none ∈ TW := List.mem_filter.mpr ⟨tt_9 (List.mem_of_getElem? (i := 221) rfl), rfl⟩
theorem ml_RX12_533 : Cond.methodLink RX12 533 yX12_told ∈ TW := List.mem_filter.mpr ⟨tt_9 (List.mem_of_getElem? (i := 222) rfl), rfl⟩
theorem im_X12_told : Cond.instanceMethod yX12_told ∈ TW := List.mem_filter.mpr ⟨tt_9 (List.mem_of_getElem? (i := 224) rfl), rfl⟩
theorem cd_X12_told : Cond.code yX12_told cX12_told 3 (some .int) ∈ TW := List.mem_filter.mpr ⟨tt_9 (List.mem_of_getElem? (i := 225) rfl), rfl⟩
theorem ml_RX12_542 : Cond.methodLink RX12 542 yX12_doneBy ∈ TW := List.mem_filter.mpr ⟨tt_9 (List.mem_of_getElem? (i := 226) rfl), rfl⟩
theorem im_X12_doneBy : Cond.instanceMethod yX12_doneBy ∈ TW := List.mem_filter.mpr ⟨tt_9 (List.mem_of_getElem? (i := 228) rfl), rfl⟩
theorem cd_X12_doneBy : Cond.code yX12_doneBy cX12_doneBy 6 (some .int) ∈ TW := List.mem_filter.mpr ⟨tt_9 (List.mem_of_getElem? (i := 229) rfl), rfl⟩
theorem ml_RL_290 : Cond.methodLink RL 290 yX12_bestOrder ∈ TW := List.mem_filter.mpr ⟨tt_9 (List.mem_of_getElem? (i := 230) rfl), rfl⟩
theorem im_X12_bestOrder : Cond.instanceMethod yX12_bestOrder ∈ TW := List.mem_filter.mpr ⟨tt_9 (List.mem_of_getElem? (i := 231) rfl), rfl⟩
theorem se_X12_bestOrder : Cond.selects yX12_bestOrder.cls yX12_bestOrder yX12_bestOrder ∈ TW := List.mem_filter.mpr ⟨tt_9 (List.mem_of_getElem? (i := 232) rfl), rfl⟩
theorem cd_X12_bestOrder : Cond.code yX12_bestOrder cX12_bestOrder 3 (some .int) ∈ TW := List.mem_filter.mpr ⟨tt_9 (List.mem_of_getElem? (i := 233) rfl), rfl⟩
theorem kl_RX12_551 : Cond.constantLong RX12 551 (13 : Int64) ∈ TW := List.mem_filter.mpr ⟨tt_9 (List.mem_of_getElem? (i := 234) rfl), rfl⟩
theorem ml_RX12_548 : Cond.methodLink RX12 548 yX12_goesOrders ∈ TW := List.mem_filter.mpr ⟨tt_9 (List.mem_of_getElem? (i := 235) rfl), rfl⟩
theorem im_X12_goesOrders : Cond.instanceMethod yX12_goesOrders ∈ TW := List.mem_filter.mpr ⟨tt_9 (List.mem_of_getElem? (i := 237) rfl), rfl⟩
theorem cd_X12_goesOrders : Cond.code yX12_goesOrders cX12_goesOrders 7 none ∈ TW := List.mem_filter.mpr ⟨tt_9 (List.mem_of_getElem? (i := 238) rfl), rfl⟩
theorem ml_RL_293 : Cond.methodLink RL 293 yX12_seen ∈ TW := List.mem_filter.mpr ⟨tt_9 (List.mem_of_getElem? (i := 239) rfl), rfl⟩
theorem im_X12_seen : Cond.instanceMethod yX12_seen ∈ TW := List.mem_filter.mpr ⟨tt_10 (List.mem_of_getElem? (i := 0) rfl), rfl⟩
theorem se_X12_seen : Cond.selects yX12_seen.cls yX12_seen yX12_seen ∈ TW := List.mem_filter.mpr ⟨tt_10 (List.mem_of_getElem? (i := 1) rfl), rfl⟩
theorem cd_X12_seen : Cond.code yX12_seen cX12_seen 4 (some .int) ∈ TW := List.mem_filter.mpr ⟨tt_10 (List.mem_of_getElem? (i := 2) rfl), rfl⟩
theorem ml_RX12_558 : Cond.methodLink RX12 558 yX12_seenFault ∈ TW := List.mem_filter.mpr ⟨tt_10 (List.mem_of_getElem? (i := 3) rfl), rfl⟩
theorem im_X12_seenFault : Cond.instanceMethod yX12_seenFault ∈ TW := List.mem_filter.mpr ⟨tt_10 (List.mem_of_getElem? (i := 5) rfl), rfl⟩
theorem cd_X12_seenFault : Cond.code yX12_seenFault cX12_seenFault 6 (some .int) ∈ TW := List.mem_filter.mpr ⟨tt_10 (List.mem_of_getElem? (i := 6) rfl), rfl⟩
theorem kl_RX12_553 : Cond.constantLong RX12 553 (792 : Int64) ∈ TW := List.mem_filter.mpr ⟨tt_10 (List.mem_of_getElem? (i := 7) rfl), rfl⟩
theorem ml_RX12_561 : Cond.methodLink RX12 561 yX12_laysBreaths ∈ TW := List.mem_filter.mpr ⟨tt_10 (List.mem_of_getElem? (i := 8) rfl), rfl⟩
theorem im_X12_laysBreaths : Cond.instanceMethod yX12_laysBreaths ∈ TW := List.mem_filter.mpr ⟨tt_10 (List.mem_of_getElem? (i := 10) rfl), rfl⟩
theorem cd_X12_laysBreaths : Cond.code yX12_laysBreaths cX12_laysBreaths 8 none ∈ TW := List.mem_filter.mpr ⟨tt_10 (List.mem_of_getElem? (i := 11) rfl), rfl⟩
theorem ml_RL_296 : Cond.methodLink RL 296 yX12_breath ∈ TW := List.mem_filter.mpr ⟨tt_10 (List.mem_of_getElem? (i := 12) rfl), rfl⟩
theorem im_X12_breath : Cond.instanceMethod yX12_breath ∈ TW := List.mem_filter.mpr ⟨tt_10 (List.mem_of_getElem? (i := 13) rfl), rfl⟩
theorem se_X12_breath : Cond.selects yX12_breath.cls yX12_breath yX12_breath ∈ TW := List.mem_filter.mpr ⟨tt_10 (List.mem_of_getElem? (i := 14) rfl), rfl⟩
theorem cd_X12_breath : Cond.code yX12_breath cX12_breath 5 (some .int) ∈ TW := List.mem_filter.mpr ⟨tt_10 (List.mem_of_getElem? (i := 15) rfl), rfl⟩
theorem ml_RL_299 : Cond.methodLink RL 299 yX12_look ∈ TW := List.mem_filter.mpr ⟨tt_10 (List.mem_of_getElem? (i := 16) rfl), rfl⟩
theorem im_X12_look : Cond.instanceMethod yX12_look ∈ TW := List.mem_filter.mpr ⟨tt_10 (List.mem_of_getElem? (i := 17) rfl), rfl⟩
theorem se_X12_look : Cond.selects yX12_look.cls yX12_look yX12_look ∈ TW := List.mem_filter.mpr ⟨tt_10 (List.mem_of_getElem? (i := 18) rfl), rfl⟩
theorem cd_X12_look : Cond.code yX12_look cX12_look 8 (some .int) ∈ TW := List.mem_filter.mpr ⟨tt_10 (List.mem_of_getElem? (i := 19) rfl), rfl⟩
theorem ml_RX12_564 : Cond.methodLink RX12 564 yX12_mostLike ∈ TW := List.mem_filter.mpr ⟨tt_10 (List.mem_of_getElem? (i := 20) rfl), rfl⟩
theorem im_X12_mostLike : Cond.instanceMethod yX12_mostLike ∈ TW := List.mem_filter.mpr ⟨tt_10 (List.mem_of_getElem? (i := 22) rfl), rfl⟩
theorem cd_X12_mostLike : Cond.code yX12_mostLike cX12_mostLike 7 (some .int) ∈ TW := List.mem_filter.mpr ⟨tt_10 (List.mem_of_getElem? (i := 23) rfl), rfl⟩
theorem ml_RL_303 : Cond.methodLink RL 303 yX12_tray ∈ TW := List.mem_filter.mpr ⟨tt_10 (List.mem_of_getElem? (i := 24) rfl), rfl⟩
theorem im_X12_tray : Cond.instanceMethod yX12_tray ∈ TW := List.mem_filter.mpr ⟨tt_10 (List.mem_of_getElem? (i := 25) rfl), rfl⟩
theorem se_X12_tray : Cond.selects yX12_tray.cls yX12_tray yX12_tray ∈ TW := List.mem_filter.mpr ⟨tt_10 (List.mem_of_getElem? (i := 26) rfl), rfl⟩
theorem cd_X12_tray : Cond.code yX12_tray cX12_tray 5 none ∈ TW := List.mem_filter.mpr ⟨tt_10 (List.mem_of_getElem? (i := 27) rfl), rfl⟩
theorem ml_RL_309 : Cond.methodLink RL 309 yX12_write ∈ TW := List.mem_filter.mpr ⟨tt_10 (List.mem_of_getElem? (i := 28) rfl), rfl⟩
theorem im_X12_write : Cond.instanceMethod yX12_write ∈ TW := List.mem_filter.mpr ⟨tt_10 (List.mem_of_getElem? (i := 29) rfl), rfl⟩
theorem se_X12_write : Cond.selects yX12_write.cls yX12_write yX12_write ∈ TW := List.mem_filter.mpr ⟨tt_10 (List.mem_of_getElem? (i := 30) rfl), rfl⟩
theorem cd_X12_write : Cond.code yX12_write cX12_write 5 (some .long) ∈ TW := List.mem_filter.mpr ⟨tt_10 (List.mem_of_getElem? (i := 31) rfl), rfl⟩
theorem ml_RX12_567 : Cond.methodLink RX12 567 yX12_cut ∈ TW := List.mem_filter.mpr ⟨tt_10 (List.mem_of_getElem? (i := 32) rfl), rfl⟩
theorem im_X12_cut : Cond.instanceMethod yX12_cut ∈ TW := List.mem_filter.mpr ⟨tt_10 (List.mem_of_getElem? (i := 34) rfl), rfl⟩
theorem cd_X12_cut : Cond.code yX12_cut cX12_cut 6 (some .long) ∈ TW := List.mem_filter.mpr ⟨tt_10 (List.mem_of_getElem? (i := 35) rfl), rfl⟩
theorem ml_RL_312 : Cond.methodLink RL 312 yX12_copy ∈ TW := List.mem_filter.mpr ⟨tt_10 (List.mem_of_getElem? (i := 36) rfl), rfl⟩
theorem im_X12_copy : Cond.instanceMethod yX12_copy ∈ TW := List.mem_filter.mpr ⟨tt_10 (List.mem_of_getElem? (i := 37) rfl), rfl⟩
theorem se_X12_copy : Cond.selects yX12_copy.cls yX12_copy yX12_copy ∈ TW := List.mem_filter.mpr ⟨tt_10 (List.mem_of_getElem? (i := 38) rfl), rfl⟩
theorem cd_X12_copy : Cond.code yX12_copy cX12_copy 4 (some .int) ∈ TW := List.mem_filter.mpr ⟨tt_10 (List.mem_of_getElem? (i := 39) rfl), rfl⟩
theorem ml_RL_316 : Cond.methodLink RL 316 yX12_image ∈ TW := List.mem_filter.mpr ⟨tt_10 (List.mem_of_getElem? (i := 40) rfl), rfl⟩
theorem im_X12_image : Cond.instanceMethod yX12_image ∈ TW := List.mem_filter.mpr ⟨tt_10 (List.mem_of_getElem? (i := 41) rfl), rfl⟩
theorem se_X12_image : Cond.selects yX12_image.cls yX12_image yX12_image ∈ TW := List.mem_filter.mpr ⟨tt_10 (List.mem_of_getElem? (i := 42) rfl), rfl⟩
theorem cd_X12_image : Cond.code yX12_image cX12_image 3 none ∈ TW := List.mem_filter.mpr ⟨tt_10 (List.mem_of_getElem? (i := 43) rfl), rfl⟩
theorem kl_RX12_571 : Cond.constantLong RX12 571 (2 : Int64) ∈ TW := List.mem_filter.mpr ⟨tt_10 (List.mem_of_getElem? (i := 44) rfl), rfl⟩
theorem ml_RL_319 : Cond.methodLink RL 319 yX12_restore ∈ TW := List.mem_filter.mpr ⟨tt_10 (List.mem_of_getElem? (i := 45) rfl), rfl⟩
theorem im_X12_restore : Cond.instanceMethod yX12_restore ∈ TW := List.mem_filter.mpr ⟨tt_10 (List.mem_of_getElem? (i := 46) rfl), rfl⟩
theorem se_X12_restore : Cond.selects yX12_restore.cls yX12_restore yX12_restore ∈ TW := List.mem_filter.mpr ⟨tt_10 (List.mem_of_getElem? (i := 47) rfl), rfl⟩
theorem cd_X12_restore : Cond.code yX12_restore cX12_restore 3 none ∈ TW := List.mem_filter.mpr ⟨tt_10 (List.mem_of_getElem? (i := 48) rfl), rfl⟩
theorem ml_RL_323 : Cond.methodLink RL 323 yX12_count ∈ TW := List.mem_filter.mpr ⟨tt_10 (List.mem_of_getElem? (i := 49) rfl), rfl⟩
theorem im_X12_count : Cond.instanceMethod yX12_count ∈ TW := List.mem_filter.mpr ⟨tt_10 (List.mem_of_getElem? (i := 50) rfl), rfl⟩
theorem se_X12_count : Cond.selects yX12_count.cls yX12_count yX12_count ∈ TW := List.mem_filter.mpr ⟨tt_10 (List.mem_of_getElem? (i := 51) rfl), rfl⟩
theorem cd_X12_count : Cond.code yX12_count cX12_count 2 (some .int) ∈ TW := List.mem_filter.mpr ⟨tt_10 (List.mem_of_getElem? (i := 52) rfl), rfl⟩
theorem kl_RL_304 : Cond.constantLong RL 304 (4294967295 : Int64) ∈ TW := List.mem_filter.mpr ⟨tt_10 (List.mem_of_getElem? (i := 53) rfl), rfl⟩
theorem se_X7_prevails : Cond.selects yX7_prevails.cls yX7_prevails yX7_prevails ∈ TW := List.mem_filter.mpr ⟨tp_1 (q := (yX7_prevails, 4)) (List.mem_of_getElem? (i := 0) rfl), rfl⟩
theorem se_X6_advance : Cond.selects yX6_advance.cls yX6_advance yX6_advance ∈ TW := List.mem_filter.mpr ⟨tp_1 (q := (yX6_advance, 13)) (List.mem_of_getElem? (i := 2) rfl), rfl⟩
theorem se_X6_skip : Cond.selects yX6_skip.cls yX6_skip yX6_skip ∈ TW := List.mem_filter.mpr ⟨tp_1 (q := (yX6_skip, 13)) (List.mem_of_getElem? (i := 3) rfl), rfl⟩
theorem se_X6_wordHere : Cond.selects yX6_wordHere.cls yX6_wordHere yX6_wordHere ∈ TW := List.mem_filter.mpr ⟨tp_1 (q := (yX6_wordHere, 13)) (List.mem_of_getElem? (i := 4) rfl), rfl⟩
theorem se_X6_numberHere : Cond.selects yX6_numberHere.cls yX6_numberHere yX6_numberHere ∈ TW := List.mem_filter.mpr ⟨tp_1 (q := (yX6_numberHere, 13)) (List.mem_of_getElem? (i := 5) rfl), rfl⟩
theorem se_X6_readWard : Cond.selects yX6_readWard.cls yX6_readWard yX6_readWard ∈ TW := List.mem_filter.mpr ⟨tp_1 (q := (yX6_readWard, 13)) (List.mem_of_getElem? (i := 6) rfl), rfl⟩
theorem se_X6_fail : Cond.selects yX6_fail.cls yX6_fail yX6_fail ∈ TW := List.mem_filter.mpr ⟨tp_1 (q := (yX6_fail, 13)) (List.mem_of_getElem? (i := 7) rfl), rfl⟩
theorem se_X6_takeNumber : Cond.selects yX6_takeNumber.cls yX6_takeNumber yX6_takeNumber ∈ TW := List.mem_filter.mpr ⟨tp_1 (q := (yX6_takeNumber, 13)) (List.mem_of_getElem? (i := 8) rfl), rfl⟩
theorem se_X6_refuse : Cond.selects yX6_refuse.cls yX6_refuse yX6_refuse ∈ TW := List.mem_filter.mpr ⟨tp_1 (q := (yX6_refuse, 13)) (List.mem_of_getElem? (i := 9) rfl), rfl⟩
theorem se_X6_readBeside : Cond.selects yX6_readBeside.cls yX6_readBeside yX6_readBeside ∈ TW := List.mem_filter.mpr ⟨tp_1 (q := (yX6_readBeside, 13)) (List.mem_of_getElem? (i := 10) rfl), rfl⟩
theorem se_X6_readAct : Cond.selects yX6_readAct.cls yX6_readAct yX6_readAct ∈ TW := List.mem_filter.mpr ⟨tp_1 (q := (yX6_readAct, 13)) (List.mem_of_getElem? (i := 11) rfl), rfl⟩
theorem se_X6_take : Cond.selects yX6_take.cls yX6_take yX6_take ∈ TW := List.mem_filter.mpr ⟨tp_1 (q := (yX6_take, 13)) (List.mem_of_getElem? (i := 12) rfl), rfl⟩
theorem se_X6_beginLaw : Cond.selects yX6_beginLaw.cls yX6_beginLaw yX6_beginLaw ∈ TW := List.mem_filter.mpr ⟨tp_1 (q := (yX6_beginLaw, 13)) (List.mem_of_getElem? (i := 13) rfl), rfl⟩
theorem se_X6_readSum : Cond.selects yX6_readSum.cls yX6_readSum yX6_readSum ∈ TW := List.mem_filter.mpr ⟨tp_1 (q := (yX6_readSum, 13)) (List.mem_of_getElem? (i := 14) rfl), rfl⟩
theorem se_X6_readTerm : Cond.selects yX6_readTerm.cls yX6_readTerm yX6_readTerm ∈ TW := List.mem_filter.mpr ⟨tp_1 (q := (yX6_readTerm, 13)) (List.mem_of_getElem? (i := 15) rfl), rfl⟩
theorem se_X6_readAtom : Cond.selects yX6_readAtom.cls yX6_readAtom yX6_readAtom ∈ TW := List.mem_filter.mpr ⟨tp_2 (q := (yX6_readAtom, 13)) (List.mem_of_getElem? (i := 0) rfl), rfl⟩
theorem se_X6_put : Cond.selects yX6_put.cls yX6_put yX6_put ∈ TW := List.mem_filter.mpr ⟨tp_2 (q := (yX6_put, 13)) (List.mem_of_getElem? (i := 1) rfl), rfl⟩
theorem se_X6_goesDeeper : Cond.selects yX6_goesDeeper.cls yX6_goesDeeper yX6_goesDeeper ∈ TW := List.mem_filter.mpr ⟨tp_2 (q := (yX6_goesDeeper, 13)) (List.mem_of_getElem? (i := 2) rfl), rfl⟩
theorem se_X6_isOfPrevails : Cond.selects yX6_isOfPrevails.cls yX6_isOfPrevails yX6_isOfPrevails ∈ TW := List.mem_filter.mpr ⟨tp_2 (q := (yX6_isOfPrevails, 13)) (List.mem_of_getElem? (i := 3) rfl), rfl⟩
theorem se_X6_isOfDegree : Cond.selects yX6_isOfDegree.cls yX6_isOfDegree yX6_isOfDegree ∈ TW := List.mem_filter.mpr ⟨tp_2 (q := (yX6_isOfDegree, 13)) (List.mem_of_getElem? (i := 4) rfl), rfl⟩
theorem se_X6_readTruth : Cond.selects yX6_readTruth.cls yX6_readTruth yX6_readTruth ∈ TW := List.mem_filter.mpr ⟨tp_2 (q := (yX6_readTruth, 13)) (List.mem_of_getElem? (i := 5) rfl), rfl⟩
theorem se_X6_readBoth : Cond.selects yX6_readBoth.cls yX6_readBoth yX6_readBoth ∈ TW := List.mem_filter.mpr ⟨tp_2 (q := (yX6_readBoth, 13)) (List.mem_of_getElem? (i := 6) rfl), rfl⟩
theorem se_X6_readUnit : Cond.selects yX6_readUnit.cls yX6_readUnit yX6_readUnit ∈ TW := List.mem_filter.mpr ⟨tp_2 (q := (yX6_readUnit, 13)) (List.mem_of_getElem? (i := 7) rfl), rfl⟩
theorem se_X11_needWard : Cond.selects yX11_needWard.cls yX11_needWard yX11_needWard ∈ TW := List.mem_filter.mpr ⟨tp_2 (q := (yX11_needWard, 11)) (List.mem_of_getElem? (i := 8) rfl), rfl⟩
theorem se_X11_needAct : Cond.selects yX11_needAct.cls yX11_needAct yX11_needAct ∈ TW := List.mem_filter.mpr ⟨tp_2 (q := (yX11_needAct, 11)) (List.mem_of_getElem? (i := 9) rfl), rfl⟩
theorem se_X11_needDeed : Cond.selects yX11_needDeed.cls yX11_needDeed yX11_needDeed ∈ TW := List.mem_filter.mpr ⟨tp_2 (q := (yX11_needDeed, 11)) (List.mem_of_getElem? (i := 10) rfl), rfl⟩
theorem se_X11_ahead : Cond.selects yX11_ahead.cls yX11_ahead yX11_ahead ∈ TW := List.mem_filter.mpr ⟨tp_2 (q := (yX11_ahead, 11)) (List.mem_of_getElem? (i := 11) rfl), rfl⟩
theorem se_X4_layDegrees : Cond.selects yX4_layDegrees.cls yX4_layDegrees yX4_layDegrees ∈ TW := List.mem_filter.mpr ⟨tp_2 (q := (yX4_layDegrees, 5)) (List.mem_of_getElem? (i := 12) rfl), rfl⟩
theorem se_X4_layBarring : Cond.selects yX4_layBarring.cls yX4_layBarring yX4_layBarring ∈ TW := List.mem_filter.mpr ⟨tp_2 (q := (yX4_layBarring, 5)) (List.mem_of_getElem? (i := 13) rfl), rfl⟩
theorem se_X4_isFree : Cond.selects yX4_isFree.cls yX4_isFree yX4_isFree ∈ TW := List.mem_filter.mpr ⟨tp_2 (q := (yX4_isFree, 5)) (List.mem_of_getElem? (i := 14) rfl), rfl⟩
theorem se_X11_layOn : Cond.selects yX11_layOn.cls yX11_layOn yX11_layOn ∈ TW := List.mem_filter.mpr ⟨tp_2 (q := (yX11_layOn, 11)) (List.mem_of_getElem? (i := 15) rfl), rfl⟩
theorem se_X11_trayAt : Cond.selects yX11_trayAt.cls yX11_trayAt yX11_trayAt ∈ TW := List.mem_filter.mpr ⟨tp_3 (q := (yX11_trayAt, 11)) (List.mem_of_getElem? (i := 0) rfl), rfl⟩
theorem se_X11_drawBelow : Cond.selects yX11_drawBelow.cls yX11_drawBelow yX11_drawBelow ∈ TW := List.mem_filter.mpr ⟨tp_3 (q := (yX11_drawBelow, 11)) (List.mem_of_getElem? (i := 1) rfl), rfl⟩
theorem se_X11_carryOutDrawn : Cond.selects yX11_carryOutDrawn.cls yX11_carryOutDrawn yX11_carryOutDrawn ∈ TW := List.mem_filter.mpr ⟨tp_3 (q := (yX11_carryOutDrawn, 11)) (List.mem_of_getElem? (i := 2) rfl), rfl⟩
theorem se_X4_layOut : Cond.selects yX4_layOut.cls yX4_layOut yX4_layOut ∈ TW := List.mem_filter.mpr ⟨tp_3 (q := (yX4_layOut, 5)) (List.mem_of_getElem? (i := 3) rfl), rfl⟩
theorem se_X4_firstFree : Cond.selects yX4_firstFree.cls yX4_firstFree yX4_firstFree ∈ TW := List.mem_filter.mpr ⟨tp_3 (q := (yX4_firstFree, 5)) (List.mem_of_getElem? (i := 4) rfl), rfl⟩
theorem se_X4_layHeated : Cond.selects yX4_layHeated.cls yX4_layHeated yX4_layHeated ∈ TW := List.mem_filter.mpr ⟨tp_3 (q := (yX4_layHeated, 5)) (List.mem_of_getElem? (i := 5) rfl), rfl⟩
theorem se_X4_barredHours : Cond.selects yX4_barredHours.cls yX4_barredHours yX4_barredHours ∈ TW := List.mem_filter.mpr ⟨tp_3 (q := (yX4_barredHours, 5)) (List.mem_of_getElem? (i := 6) rfl), rfl⟩
theorem se_X11_needWay : Cond.selects yX11_needWay.cls yX11_needWay yX11_needWay ∈ TW := List.mem_filter.mpr ⟨tp_3 (q := (yX11_needWay, 11)) (List.mem_of_getElem? (i := 7) rfl), rfl⟩
theorem se_X11_waysOf : Cond.selects yX11_waysOf.cls yX11_waysOf yX11_waysOf ∈ TW := List.mem_filter.mpr ⟨tp_3 (q := (yX11_waysOf, 11)) (List.mem_of_getElem? (i := 8) rfl), rfl⟩
theorem se_X10_stepFromAll : Cond.selects yX10_stepFromAll.cls yX10_stepFromAll yX10_stepFromAll ∈ TW := List.mem_filter.mpr ⟨tp_3 (q := (yX10_stepFromAll, 8)) (List.mem_of_getElem? (i := 9) rfl), rfl⟩
theorem se_X10_stepFrom : Cond.selects yX10_stepFrom.cls yX10_stepFrom yX10_stepFrom ∈ TW := List.mem_filter.mpr ⟨tp_3 (q := (yX10_stepFrom, 8)) (List.mem_of_getElem? (i := 10) rfl), rfl⟩
theorem se_X10_leastAmong : Cond.selects yX10_leastAmong.cls yX10_leastAmong yX10_leastAmong ∈ TW := List.mem_filter.mpr ⟨tp_3 (q := (yX10_leastAmong, 8)) (List.mem_of_getElem? (i := 11) rfl), rfl⟩
theorem se_X10_manyAmong : Cond.selects yX10_manyAmong.cls yX10_manyAmong yX10_manyAmong ∈ TW := List.mem_filter.mpr ⟨tp_3 (q := (yX10_manyAmong, 8)) (List.mem_of_getElem? (i := 12) rfl), rfl⟩
theorem se_X11_needErrands : Cond.selects yX11_needErrands.cls yX11_needErrands yX11_needErrands ∈ TW := List.mem_filter.mpr ⟨tp_3 (q := (yX11_needErrands, 11)) (List.mem_of_getElem? (i := 13) rfl), rfl⟩
theorem se_X11_agendaOf : Cond.selects yX11_agendaOf.cls yX11_agendaOf yX11_agendaOf ∈ TW := List.mem_filter.mpr ⟨tp_3 (q := (yX11_agendaOf, 11)) (List.mem_of_getElem? (i := 14) rfl), rfl⟩
theorem se_X0_endOf : Cond.selects yX0_endOf.cls yX0_endOf yX0_endOf ∈ TW := List.mem_filter.mpr ⟨tp_3 (q := (yX0_endOf, 7)) (List.mem_of_getElem? (i := 15) rfl), rfl⟩
theorem se_X0_isBarred : Cond.selects yX0_isBarred.cls yX0_isBarred yX0_isBarred ∈ TW := List.mem_filter.mpr ⟨tp_4 (q := (yX0_isBarred, 7)) (List.mem_of_getElem? (i := 0) rfl), rfl⟩
theorem se_X11_needSeen : Cond.selects yX11_needSeen.cls yX11_needSeen yX11_needSeen ∈ TW := List.mem_filter.mpr ⟨tp_4 (q := (yX11_needSeen, 11)) (List.mem_of_getElem? (i := 1) rfl), rfl⟩
theorem se_X11_glass : Cond.selects yX11_glass.cls yX11_glass yX11_glass ∈ TW := List.mem_filter.mpr ⟨tp_4 (q := (yX11_glass, 11)) (List.mem_of_getElem? (i := 2) rfl), rfl⟩
theorem se_X8_fits : Cond.selects yX8_fits.cls yX8_fits yX8_fits ∈ TW := List.mem_filter.mpr ⟨tp_4 (q := (yX8_fits, 5)) (List.mem_of_getElem? (i := 3) rfl), rfl⟩
theorem se_X8_finedBy : Cond.selects yX8_finedBy.cls yX8_finedBy yX8_finedBy ∈ TW := List.mem_filter.mpr ⟨tp_4 (q := (yX8_finedBy, 5)) (List.mem_of_getElem? (i := 4) rfl), rfl⟩
theorem se_X8_mostAlike : Cond.selects yX8_mostAlike.cls yX8_mostAlike yX8_mostAlike ∈ TW := List.mem_filter.mpr ⟨tp_4 (q := (yX8_mostAlike, 5)) (List.mem_of_getElem? (i := 5) rfl), rfl⟩
theorem se_X12_fails : Cond.selects yX12_fails.cls yX12_fails yX12_fails ∈ TW := List.mem_filter.mpr ⟨tp_4 (q := (yX12_fails, 44)) (List.mem_of_getElem? (i := 6) rfl), rfl⟩
theorem se_X12_readsOn : Cond.selects yX12_readsOn.cls yX12_readsOn yX12_readsOn ∈ TW := List.mem_filter.mpr ⟨tp_4 (q := (yX12_readsOn, 44)) (List.mem_of_getElem? (i := 7) rfl), rfl⟩
theorem se_X12_see : Cond.selects yX12_see.cls yX12_see yX12_see ∈ TW := List.mem_filter.mpr ⟨tp_4 (q := (yX12_see, 44)) (List.mem_of_getElem? (i := 8) rfl), rfl⟩
theorem se_X12_readLine : Cond.selects yX12_readLine.cls yX12_readLine yX12_readLine ∈ TW := List.mem_filter.mpr ⟨tp_4 (q := (yX12_readLine, 44)) (List.mem_of_getElem? (i := 9) rfl), rfl⟩
theorem se_X12_isWord : Cond.selects yX12_isWord.cls yX12_isWord yX12_isWord ∈ TW := List.mem_filter.mpr ⟨tp_4 (q := (yX12_isWord, 44)) (List.mem_of_getElem? (i := 10) rfl), rfl⟩
theorem se_X12_readWard : Cond.selects yX12_readWard.cls yX12_readWard yX12_readWard ∈ TW := List.mem_filter.mpr ⟨tp_4 (q := (yX12_readWard, 44)) (List.mem_of_getElem? (i := 11) rfl), rfl⟩
theorem se_X12_begins : Cond.selects yX12_begins.cls yX12_begins yX12_begins ∈ TW := List.mem_filter.mpr ⟨tp_4 (q := (yX12_begins, 44)) (List.mem_of_getElem? (i := 12) rfl), rfl⟩
theorem se_X12_blames : Cond.selects yX12_blames.cls yX12_blames yX12_blames ∈ TW := List.mem_filter.mpr ⟨tp_4 (q := (yX12_blames, 44)) (List.mem_of_getElem? (i := 13) rfl), rfl⟩
theorem se_X12_number : Cond.selects yX12_number.cls yX12_number yX12_number ∈ TW := List.mem_filter.mpr ⟨tp_4 (q := (yX12_number, 44)) (List.mem_of_getElem? (i := 14) rfl), rfl⟩
theorem se_X12_took : Cond.selects yX12_took.cls yX12_took yX12_took ∈ TW := List.mem_filter.mpr ⟨tp_4 (q := (yX12_took, 44)) (List.mem_of_getElem? (i := 15) rfl), rfl⟩
theorem se_X12_readAct : Cond.selects yX12_readAct.cls yX12_readAct yX12_readAct ∈ TW := List.mem_filter.mpr ⟨tp_5 (q := (yX12_readAct, 44)) (List.mem_of_getElem? (i := 0) rfl), rfl⟩
theorem se_X12_mustWord : Cond.selects yX12_mustWord.cls yX12_mustWord yX12_mustWord ∈ TW := List.mem_filter.mpr ⟨tp_5 (q := (yX12_mustWord, 44)) (List.mem_of_getElem? (i := 1) rfl), rfl⟩
theorem se_X12_beginsLaw : Cond.selects yX12_beginsLaw.cls yX12_beginsLaw yX12_beginsLaw ∈ TW := List.mem_filter.mpr ⟨tp_5 (q := (yX12_beginsLaw, 44)) (List.mem_of_getElem? (i := 2) rfl), rfl⟩
theorem se_X12_mustSign : Cond.selects yX12_mustSign.cls yX12_mustSign yX12_mustSign ∈ TW := List.mem_filter.mpr ⟨tp_5 (q := (yX12_mustSign, 44)) (List.mem_of_getElem? (i := 3) rfl), rfl⟩
theorem se_X12_readSum : Cond.selects yX12_readSum.cls yX12_readSum yX12_readSum ∈ TW := List.mem_filter.mpr ⟨tp_5 (q := (yX12_readSum, 44)) (List.mem_of_getElem? (i := 4) rfl), rfl⟩
theorem se_X12_readTerm : Cond.selects yX12_readTerm.cls yX12_readTerm yX12_readTerm ∈ TW := List.mem_filter.mpr ⟨tp_5 (q := (yX12_readTerm, 44)) (List.mem_of_getElem? (i := 5) rfl), rfl⟩
theorem se_X12_readAtom : Cond.selects yX12_readAtom.cls yX12_readAtom yX12_readAtom ∈ TW := List.mem_filter.mpr ⟨tp_5 (q := (yX12_readAtom, 44)) (List.mem_of_getElem? (i := 6) rfl), rfl⟩
theorem se_X12_lawWord : Cond.selects yX12_lawWord.cls yX12_lawWord yX12_lawWord ∈ TW := List.mem_filter.mpr ⟨tp_5 (q := (yX12_lawWord, 44)) (List.mem_of_getElem? (i := 7) rfl), rfl⟩
theorem se_X12_degreeWord : Cond.selects yX12_degreeWord.cls yX12_degreeWord yX12_degreeWord ∈ TW := List.mem_filter.mpr ⟨tp_5 (q := (yX12_degreeWord, 44)) (List.mem_of_getElem? (i := 8) rfl), rfl⟩
theorem se_X12_prevailWord : Cond.selects yX12_prevailWord.cls yX12_prevailWord yX12_prevailWord ∈ TW := List.mem_filter.mpr ⟨tp_5 (q := (yX12_prevailWord, 44)) (List.mem_of_getElem? (i := 9) rfl), rfl⟩
theorem se_X12_laysStep : Cond.selects yX12_laysStep.cls yX12_laysStep yX12_laysStep ∈ TW := List.mem_filter.mpr ⟨tp_5 (q := (yX12_laysStep, 44)) (List.mem_of_getElem? (i := 10) rfl), rfl⟩
theorem se_X12_isSign : Cond.selects yX12_isSign.cls yX12_isSign yX12_isSign ∈ TW := List.mem_filter.mpr ⟨tp_5 (q := (yX12_isSign, 44)) (List.mem_of_getElem? (i := 11) rfl), rfl⟩
theorem se_X12_goesIn : Cond.selects yX12_goesIn.cls yX12_goesIn yX12_goesIn ∈ TW := List.mem_filter.mpr ⟨tp_5 (q := (yX12_goesIn, 44)) (List.mem_of_getElem? (i := 12) rfl), rfl⟩
theorem se_X12_readTruth : Cond.selects yX12_readTruth.cls yX12_readTruth yX12_readTruth ∈ TW := List.mem_filter.mpr ⟨tp_5 (q := (yX12_readTruth, 44)) (List.mem_of_getElem? (i := 13) rfl), rfl⟩
theorem se_X12_readBoth : Cond.selects yX12_readBoth.cls yX12_readBoth yX12_readBoth ∈ TW := List.mem_filter.mpr ⟨tp_5 (q := (yX12_readBoth, 44)) (List.mem_of_getElem? (i := 14) rfl), rfl⟩
theorem se_X12_readUnit : Cond.selects yX12_readUnit.cls yX12_readUnit yX12_readUnit ∈ TW := List.mem_filter.mpr ⟨tp_5 (q := (yX12_readUnit, 44)) (List.mem_of_getElem? (i := 15) rfl), rfl⟩
theorem se_X12_readStop : Cond.selects yX12_readStop.cls yX12_readStop yX12_readStop ∈ TW := List.mem_filter.mpr ⟨tp_6 (q := (yX12_readStop, 44)) (List.mem_of_getElem? (i := 0) rfl), rfl⟩
theorem se_X12_isWard : Cond.selects yX12_isWard.cls yX12_isWard yX12_isWard ∈ TW := List.mem_filter.mpr ⟨tp_6 (q := (yX12_isWard, 44)) (List.mem_of_getElem? (i := 1) rfl), rfl⟩
theorem se_X12_wards : Cond.selects yX12_wards.cls yX12_wards yX12_wards ∈ TW := List.mem_filter.mpr ⟨tp_6 (q := (yX12_wards, 44)) (List.mem_of_getElem? (i := 2) rfl), rfl⟩
theorem se_X12_laidOn : Cond.selects yX12_laidOn.cls yX12_laidOn yX12_laidOn ∈ TW := List.mem_filter.mpr ⟨tp_6 (q := (yX12_laidOn, 44)) (List.mem_of_getElem? (i := 3) rfl), rfl⟩
theorem se_X12_isAct : Cond.selects yX12_isAct.cls yX12_isAct yX12_isAct ∈ TW := List.mem_filter.mpr ⟨tp_6 (q := (yX12_isAct, 44)) (List.mem_of_getElem? (i := 4) rfl), rfl⟩
theorem se_X12_acts : Cond.selects yX12_acts.cls yX12_acts yX12_acts ∈ TW := List.mem_filter.mpr ⟨tp_6 (q := (yX12_acts, 44)) (List.mem_of_getElem? (i := 5) rfl), rfl⟩
theorem se_X12_degreeIn : Cond.selects yX12_degreeIn.cls yX12_degreeIn yX12_degreeIn ∈ TW := List.mem_filter.mpr ⟨tp_6 (q := (yX12_degreeIn, 44)) (List.mem_of_getElem? (i := 6) rfl), rfl⟩
theorem se_X12_lawOf : Cond.selects yX12_lawOf.cls yX12_lawOf yX12_lawOf ∈ TW := List.mem_filter.mpr ⟨tp_6 (q := (yX12_lawOf, 44)) (List.mem_of_getElem? (i := 7) rfl), rfl⟩
theorem se_X12_codeIn : Cond.selects yX12_codeIn.cls yX12_codeIn yX12_codeIn ∈ TW := List.mem_filter.mpr ⟨tp_6 (q := (yX12_codeIn, 44)) (List.mem_of_getElem? (i := 8) rfl), rfl⟩
theorem se_X12_allActs : Cond.selects yX12_allActs.cls yX12_allActs yX12_allActs ∈ TW := List.mem_filter.mpr ⟨tp_6 (q := (yX12_allActs, 44)) (List.mem_of_getElem? (i := 9) rfl), rfl⟩
theorem se_X12_codeAt : Cond.selects yX12_codeAt.cls yX12_codeAt yX12_codeAt ∈ TW := List.mem_filter.mpr ⟨tp_6 (q := (yX12_codeAt, 44)) (List.mem_of_getElem? (i := 10) rfl), rfl⟩
theorem se_X12_speaks : Cond.selects yX12_speaks.cls yX12_speaks yX12_speaks ∈ TW := List.mem_filter.mpr ⟨tp_6 (q := (yX12_speaks, 44)) (List.mem_of_getElem? (i := 11) rfl), rfl⟩
theorem se_X12_speaking : Cond.selects yX12_speaking.cls yX12_speaking yX12_speaking ∈ TW := List.mem_filter.mpr ⟨tp_6 (q := (yX12_speaking, 44)) (List.mem_of_getElem? (i := 12) rfl), rfl⟩
theorem se_X12_prevails : Cond.selects yX12_prevails.cls yX12_prevails yX12_prevails ∈ TW := List.mem_filter.mpr ⟨tp_6 (q := (yX12_prevails, 44)) (List.mem_of_getElem? (i := 13) rfl), rfl⟩
theorem se_X12_isDeedOut : Cond.selects yX12_isDeedOut.cls yX12_isDeedOut yX12_isDeedOut ∈ TW := List.mem_filter.mpr ⟨tp_6 (q := (yX12_isDeedOut, 44)) (List.mem_of_getElem? (i := 14) rfl), rfl⟩
theorem se_X12_laysHours : Cond.selects yX12_laysHours.cls yX12_laysHours yX12_laysHours ∈ TW := List.mem_filter.mpr ⟨tp_6 (q := (yX12_laysHours, 44)) (List.mem_of_getElem? (i := 15) rfl), rfl⟩
theorem se_X12_laysCodes : Cond.selects yX12_laysCodes.cls yX12_laysCodes yX12_laysCodes ∈ TW := List.mem_filter.mpr ⟨tp_7 (q := (yX12_laysCodes, 44)) (List.mem_of_getElem? (i := 0) rfl), rfl⟩
theorem se_X12_laysDegrees : Cond.selects yX12_laysDegrees.cls yX12_laysDegrees yX12_laysDegrees ∈ TW := List.mem_filter.mpr ⟨tp_7 (q := (yX12_laysDegrees, 44)) (List.mem_of_getElem? (i := 1) rfl), rfl⟩
theorem se_X12_laysRow : Cond.selects yX12_laysRow.cls yX12_laysRow yX12_laysRow ∈ TW := List.mem_filter.mpr ⟨tp_7 (q := (yX12_laysRow, 44)) (List.mem_of_getElem? (i := 2) rfl), rfl⟩
theorem se_X12_ofKind : Cond.selects yX12_ofKind.cls yX12_ofKind yX12_ofKind ∈ TW := List.mem_filter.mpr ⟨tp_7 (q := (yX12_ofKind, 44)) (List.mem_of_getElem? (i := 3) rfl), rfl⟩
theorem se_X12_finesOf : Cond.selects yX12_finesOf.cls yX12_finesOf yX12_finesOf ∈ TW := List.mem_filter.mpr ⟨tp_7 (q := (yX12_finesOf, 44)) (List.mem_of_getElem? (i := 4) rfl), rfl⟩
theorem se_X12_fineOf : Cond.selects yX12_fineOf.cls yX12_fineOf yX12_fineOf ∈ TW := List.mem_filter.mpr ⟨tp_7 (q := (yX12_fineOf, 44)) (List.mem_of_getElem? (i := 5) rfl), rfl⟩
theorem se_X12_isLawful : Cond.selects yX12_isLawful.cls yX12_isLawful yX12_isLawful ∈ TW := List.mem_filter.mpr ⟨tp_7 (q := (yX12_isLawful, 44)) (List.mem_of_getElem? (i := 6) rfl), rfl⟩
theorem se_X12_lays : Cond.selects yX12_lays.cls yX12_lays yX12_lays ∈ TW := List.mem_filter.mpr ⟨tp_7 (q := (yX12_lays, 44)) (List.mem_of_getElem? (i := 7) rfl), rfl⟩
theorem se_X12_keeps : Cond.selects yX12_keeps.cls yX12_keeps yX12_keeps ∈ TW := List.mem_filter.mpr ⟨tp_7 (q := (yX12_keeps, 44)) (List.mem_of_getElem? (i := 8) rfl), rfl⟩
theorem se_X12_laysOn : Cond.selects yX12_laysOn.cls yX12_laysOn yX12_laysOn ∈ TW := List.mem_filter.mpr ⟨tp_7 (q := (yX12_laysOn, 44)) (List.mem_of_getElem? (i := 9) rfl), rfl⟩
theorem se_X12_doesDeed : Cond.selects yX12_doesDeed.cls yX12_doesDeed yX12_doesDeed ∈ TW := List.mem_filter.mpr ⟨tp_7 (q := (yX12_doesDeed, 44)) (List.mem_of_getElem? (i := 10) rfl), rfl⟩
theorem se_X12_trayFault : Cond.selects yX12_trayFault.cls yX12_trayFault yX12_trayFault ∈ TW := List.mem_filter.mpr ⟨tp_7 (q := (yX12_trayFault, 44)) (List.mem_of_getElem? (i := 11) rfl), rfl⟩
theorem se_X12_putsAside : Cond.selects yX12_putsAside.cls yX12_putsAside yX12_putsAside ∈ TW := List.mem_filter.mpr ⟨tp_7 (q := (yX12_putsAside, 44)) (List.mem_of_getElem? (i := 12) rfl), rfl⟩
theorem se_X12_whyTold : Cond.selects yX12_whyTold.cls yX12_whyTold yX12_whyTold ∈ TW := List.mem_filter.mpr ⟨tp_7 (q := (yX12_whyTold, 44)) (List.mem_of_getElem? (i := 13) rfl), rfl⟩
theorem se_X12_does : Cond.selects yX12_does.cls yX12_does yX12_does ∈ TW := List.mem_filter.mpr ⟨tp_7 (q := (yX12_does, 44)) (List.mem_of_getElem? (i := 14) rfl), rfl⟩
theorem se_X12_putsBack : Cond.selects yX12_putsBack.cls yX12_putsBack yX12_putsBack ∈ TW := List.mem_filter.mpr ⟨tp_7 (q := (yX12_putsBack, 44)) (List.mem_of_getElem? (i := 15) rfl), rfl⟩
theorem se_X12_draw : Cond.selects yX12_draw.cls yX12_draw yX12_draw ∈ TW := List.mem_filter.mpr ⟨tp_8 (q := (yX12_draw, 44)) (List.mem_of_getElem? (i := 0) rfl), rfl⟩
theorem se_X12_soonestOf : Cond.selects yX12_soonestOf.cls yX12_soonestOf yX12_soonestOf ∈ TW := List.mem_filter.mpr ⟨tp_8 (q := (yX12_soonestOf, 44)) (List.mem_of_getElem? (i := 1) rfl), rfl⟩
theorem se_X12_firstLawful : Cond.selects yX12_firstLawful.cls yX12_firstLawful yX12_firstLawful ∈ TW := List.mem_filter.mpr ⟨tp_8 (q := (yX12_firstLawful, 44)) (List.mem_of_getElem? (i := 2) rfl), rfl⟩
theorem se_X12_barredHours : Cond.selects yX12_barredHours.cls yX12_barredHours yX12_barredHours ∈ TW := List.mem_filter.mpr ⟨tp_8 (q := (yX12_barredHours, 44)) (List.mem_of_getElem? (i := 3) rfl), rfl⟩
theorem se_X12_heatOf : Cond.selects yX12_heatOf.cls yX12_heatOf yX12_heatOf ∈ TW := List.mem_filter.mpr ⟨tp_8 (q := (yX12_heatOf, 44)) (List.mem_of_getElem? (i := 4) rfl), rfl⟩
theorem se_X12_isLawfulBy : Cond.selects yX12_isLawfulBy.cls yX12_isLawfulBy yX12_isLawfulBy ∈ TW := List.mem_filter.mpr ⟨tp_8 (q := (yX12_isLawfulBy, 44)) (List.mem_of_getElem? (i := 5) rfl), rfl⟩
theorem se_X12_isCovered : Cond.selects yX12_isCovered.cls yX12_isCovered yX12_isCovered ∈ TW := List.mem_filter.mpr ⟨tp_8 (q := (yX12_isCovered, 44)) (List.mem_of_getElem? (i := 6) rfl), rfl⟩
theorem se_X12_barredBy : Cond.selects yX12_barredBy.cls yX12_barredBy yX12_barredBy ∈ TW := List.mem_filter.mpr ⟨tp_8 (q := (yX12_barredBy, 44)) (List.mem_of_getElem? (i := 7) rfl), rfl⟩
theorem se_X12_isWayOut : Cond.selects yX12_isWayOut.cls yX12_isWayOut yX12_isWayOut ∈ TW := List.mem_filter.mpr ⟨tp_8 (q := (yX12_isWayOut, 44)) (List.mem_of_getElem? (i := 8) rfl), rfl⟩
theorem se_X12_laysWays : Cond.selects yX12_laysWays.cls yX12_laysWays yX12_laysWays ∈ TW := List.mem_filter.mpr ⟨tp_8 (q := (yX12_laysWays, 44)) (List.mem_of_getElem? (i := 9) rfl), rfl⟩
theorem se_X12_laysFree : Cond.selects yX12_laysFree.cls yX12_laysFree yX12_laysFree ∈ TW := List.mem_filter.mpr ⟨tp_8 (q := (yX12_laysFree, 44)) (List.mem_of_getElem? (i := 10) rfl), rfl⟩
theorem se_X12_freeIn : Cond.selects yX12_freeIn.cls yX12_freeIn yX12_freeIn ∈ TW := List.mem_filter.mpr ⟨tp_8 (q := (yX12_freeIn, 44)) (List.mem_of_getElem? (i := 11) rfl), rfl⟩
theorem se_X12_nextTo : Cond.selects yX12_nextTo.cls yX12_nextTo yX12_nextTo ∈ TW := List.mem_filter.mpr ⟨tp_8 (q := (yX12_nextTo, 44)) (List.mem_of_getElem? (i := 12) rfl), rfl⟩
theorem se_X12_leastBeside : Cond.selects yX12_leastBeside.cls yX12_leastBeside yX12_leastBeside ∈ TW := List.mem_filter.mpr ⟨tp_8 (q := (yX12_leastBeside, 44)) (List.mem_of_getElem? (i := 13) rfl), rfl⟩
theorem se_X12_manyBeside : Cond.selects yX12_manyBeside.cls yX12_manyBeside yX12_manyBeside ∈ TW := List.mem_filter.mpr ⟨tp_8 (q := (yX12_manyBeside, 44)) (List.mem_of_getElem? (i := 14) rfl), rfl⟩
theorem se_X12_errandsFault : Cond.selects yX12_errandsFault.cls yX12_errandsFault yX12_errandsFault ∈ TW := List.mem_filter.mpr ⟨tp_8 (q := (yX12_errandsFault, 44)) (List.mem_of_getElem? (i := 15) rfl), rfl⟩
theorem se_X12_laysErrands : Cond.selects yX12_laysErrands.cls yX12_laysErrands yX12_laysErrands ∈ TW := List.mem_filter.mpr ⟨tp_9 (q := (yX12_laysErrands, 44)) (List.mem_of_getElem? (i := 0) rfl), rfl⟩
theorem se_X12_told : Cond.selects yX12_told.cls yX12_told yX12_told ∈ TW := List.mem_filter.mpr ⟨tp_9 (q := (yX12_told, 44)) (List.mem_of_getElem? (i := 1) rfl), rfl⟩
theorem se_X12_doneBy : Cond.selects yX12_doneBy.cls yX12_doneBy yX12_doneBy ∈ TW := List.mem_filter.mpr ⟨tp_9 (q := (yX12_doneBy, 44)) (List.mem_of_getElem? (i := 2) rfl), rfl⟩
theorem se_X12_goesOrders : Cond.selects yX12_goesOrders.cls yX12_goesOrders yX12_goesOrders ∈ TW := List.mem_filter.mpr ⟨tp_9 (q := (yX12_goesOrders, 44)) (List.mem_of_getElem? (i := 3) rfl), rfl⟩
theorem se_X12_seenFault : Cond.selects yX12_seenFault.cls yX12_seenFault yX12_seenFault ∈ TW := List.mem_filter.mpr ⟨tp_9 (q := (yX12_seenFault, 44)) (List.mem_of_getElem? (i := 4) rfl), rfl⟩
theorem se_X12_laysBreaths : Cond.selects yX12_laysBreaths.cls yX12_laysBreaths yX12_laysBreaths ∈ TW := List.mem_filter.mpr ⟨tp_9 (q := (yX12_laysBreaths, 44)) (List.mem_of_getElem? (i := 5) rfl), rfl⟩
theorem se_X12_mostLike : Cond.selects yX12_mostLike.cls yX12_mostLike yX12_mostLike ∈ TW := List.mem_filter.mpr ⟨tp_9 (q := (yX12_mostLike, 44)) (List.mem_of_getElem? (i := 6) rfl), rfl⟩
theorem se_X12_cut : Cond.selects yX12_cut.cls yX12_cut yX12_cut ∈ TW := List.mem_filter.mpr ⟨tp_9 (q := (yX12_cut, 44)) (List.mem_of_getElem? (i := 7) rfl), rfl⟩
abbrev mX11_init : Mt := (yX11_init, cX11_init, 2, none, [])
theorem ok_X11_init : mOK mX11_init 0 := ⟨cd_X11_init, in_RX11, rfl, ⟨by decide, by decide⟩, by decide +kernel, by decide⟩
abbrev mX6_init : Mt := (yX6_init, cX6_init, 1, none, [])
theorem ok_X6_init : mOK mX6_init 0 := ⟨cd_X6_init, in_RX6, rfl, ⟨by decide, by decide⟩, by decide +kernel, by decide⟩
abbrev mX2_init : Mt := (yX2_init, cX2_init, 1, none, [])
theorem ok_X2_init : mOK mX2_init 0 := ⟨cd_X2_init, in_RX2, rfl, ⟨by decide, by decide⟩, by decide +kernel, by decide⟩
abbrev mX7_init : Mt := (yX7_init, cX7_init, 1, none, [])
theorem ok_X7_init : mOK mX7_init 0 := ⟨cd_X7_init, in_RX7, rfl, ⟨by decide, by decide⟩, by decide +kernel, by decide⟩
abbrev mX3_init : Mt := (yX3_init, cX3_init, 1, none, [])
theorem ok_X3_init : mOK mX3_init 0 := ⟨cd_X3_init, in_RX3, rfl, ⟨by decide, by decide⟩, by decide +kernel, by decide⟩
abbrev mX5_init : Mt := (yX5_init, cX5_init, 1, none, [])
theorem ok_X5_init : mOK mX5_init 0 := ⟨cd_X5_init, in_RX5, rfl, ⟨by decide, by decide⟩, by decide +kernel, by decide⟩
abbrev mX9_init : Mt := (yX9_init, cX9_init, 1, none, [])
theorem ok_X9_init : mOK mX9_init 0 := ⟨cd_X9_init, in_RX9, rfl, ⟨by decide, by decide⟩, by decide +kernel, by decide⟩
abbrev mX11_feed : Mt := (yX11_feed, cX11_feed, 6, (some .int), [])
theorem ok_X11_feed : mOK mX11_feed 5 := ⟨cd_X11_feed, in_RX11, rfl, ⟨by decide, by decide⟩, by decide +kernel, by decide⟩
abbrev mX6_append : Mt := (yX6_append, cX6_append, 3, none, [])
theorem ok_X6_append : mOK mX6_append 1 := ⟨cd_X6_append, in_RX6, rfl, ⟨by decide, by decide⟩, by decide +kernel, by decide⟩
abbrev mX11_fault : Mt := (yX11_fault, cX11_fault, 2, (some .int), [])
theorem ok_X11_fault : mOK mX11_fault 1 := ⟨cd_X11_fault, in_RX11, rfl, ⟨by decide, by decide⟩, by decide +kernel, by decide⟩
abbrev mX11_alwaysBarred : Mt := (yX11_alwaysBarred, cX11_alwaysBarred, 5, (some .int), [])
theorem ok_X11_alwaysBarred : mOK mX11_alwaysBarred 0 := ⟨cd_X11_alwaysBarred, in_RX11, rfl, ⟨by decide, by decide⟩, by decide +kernel, by decide⟩
abbrev mX7_codeIn : Mt := (yX7_codeIn, cX7_codeIn, 3, (some .int), [])
theorem ok_X7_codeIn : mOK mX7_codeIn 2 := ⟨cd_X7_codeIn, in_RX7, rfl, ⟨by decide, by decide⟩, by decide +kernel, by decide⟩
abbrev mX7_degreeIn : Mt := (yX7_degreeIn, cX7_degreeIn, 6, (some .int), [])
theorem ok_X7_degreeIn : mOK mX7_degreeIn 2 := ⟨cd_X7_degreeIn, in_RX7, rfl, ⟨by decide, by decide⟩, by decide +kernel, by decide⟩
abbrev mX7_laidOn : Mt := (yX7_laidOn, cX7_laidOn, 4, (some .int), [])
theorem ok_X7_laidOn : mOK mX7_laidOn 3 := ⟨cd_X7_laidOn, in_RX7, rfl, ⟨by decide, by decide⟩, by decide +kernel, by decide⟩
abbrev mX7_keptDegree : Mt := (yX7_keptDegree, cX7_keptDegree, 1, (some .int), [])
theorem ok_X7_keptDegree : mOK mX7_keptDegree 1 := ⟨cd_X7_keptDegree, in_RX7, rfl, ⟨by decide, by decide⟩, by decide +kernel, by decide⟩
abbrev mJ9_min_7cf53 : Mt := (yJ9_min_7cf53, cJ9_min_7cf53, 2, (some .int), [])
theorem ok_J9_min_7cf53 : mOK mJ9_min_7cf53 2 := ⟨cd_J9_min_7cf53, in_RJ9, rfl, ⟨by decide, by decide⟩, by decide +kernel, by decide⟩
abbrev mJ9_max_7cf53 : Mt := (yJ9_max_7cf53, cJ9_max_7cf53, 2, (some .int), [])
theorem ok_J9_max_7cf53 : mOK mJ9_max_7cf53 2 := ⟨cd_J9_max_7cf53, in_RJ9, rfl, ⟨by decide, by decide⟩, by decide +kernel, by decide⟩
abbrev mX7_hourOfDay : Mt := (yX7_hourOfDay, cX7_hourOfDay, 1, (some .int), [])
theorem ok_X7_hourOfDay : mOK mX7_hourOfDay 1 := ⟨cd_X7_hourOfDay, in_RX7, rfl, ⟨by decide, by decide⟩, by decide +kernel, by decide⟩
abbrev mJ9_floorMod_7cf53 : Mt := (yJ9_floorMod_7cf53, cJ9_floorMod_7cf53, 3, (some .int), [])
theorem ok_J9_floorMod_7cf53 : mOK mJ9_floorMod_7cf53 2 := ⟨cd_J9_floorMod_7cf53, in_RJ9, rfl, ⟨by decide, by decide⟩, by decide +kernel, by decide⟩
abbrev mX3_valueOf : Mt := (yX3_valueOf, cX3_valueOf, 11, (some .int), [])
theorem ok_X3_valueOf : mOK mX3_valueOf 1 := ⟨cd_X3_valueOf, in_RX3, rfl, ⟨by decide, by decide⟩, by decide +kernel, by decide⟩
abbrev mX7_liveActs : Mt := (yX7_liveActs, cX7_liveActs, 1, (some .int), [])
theorem ok_X7_liveActs : mOK mX7_liveActs 0 := ⟨cd_X7_liveActs, in_RX7, rfl, ⟨by decide, by decide⟩, by decide +kernel, by decide⟩
abbrev mX7_inForce : Mt := (yX7_inForce, cX7_inForce, 9, (some .int), [])
theorem ok_X7_inForce : mOK mX7_inForce 4 := ⟨cd_X7_inForce, in_RX7, rfl, ⟨by decide, by decide⟩, by decide +kernel, by decide⟩
abbrev mJ6_bitCount_0f7a4 : Mt := (yJ6_bitCount_0f7a4, cJ6_bitCount_0f7a4, 1, (some .int), [])
theorem ok_J6_bitCount_0f7a4 : mOK mJ6_bitCount_0f7a4 1 := ⟨cd_J6_bitCount_0f7a4, in_RJ6, rfl, ⟨by decide, by decide⟩, by decide +kernel, by decide⟩
abbrev mX7_prevails : Mt := (yX7_prevails, cX7_prevails, 8, (some .boolean), [])
theorem ok_X7_prevails : mOK mX7_prevails 4 := ⟨cd_X7_prevails, in_RX7, rfl, ⟨by decide, by decide⟩, by decide +kernel, by decide⟩
abbrev mX2_kindsOf : Mt := (yX2_kindsOf, cX2_kindsOf, 4, (some .int), [])
theorem ok_X2_kindsOf : mOK mX2_kindsOf 1 := ⟨cd_X2_kindsOf, in_RX2, rfl, ⟨by decide, by decide⟩, by decide +kernel, by decide⟩
abbrev mX11_strictest : Mt := (yX11_strictest, cX11_strictest, 6, (some .int), [])
theorem ok_X11_strictest : mOK mX11_strictest 0 := ⟨cd_X11_strictest, in_RX11, rfl, ⟨by decide, by decide⟩, by decide +kernel, by decide⟩
abbrev mX11_count : Mt := (yX11_count, cX11_count, 2, (some .int), [])
theorem ok_X11_count : mOK mX11_count 1 := ⟨cd_X11_count, in_RX11, rfl, ⟨by decide, by decide⟩, by decide +kernel, by decide⟩
abbrev mX11_land : Mt := (yX11_land, cX11_land, 3, (some .int), [])
theorem ok_X11_land : mOK mX11_land 1 := ⟨cd_X11_land, in_RX11, rfl, ⟨by decide, by decide⟩, by decide +kernel, by decide⟩
abbrev mX11_needWithin : Mt := (yX11_needWithin, cX11_needWithin, 3, none, [])
theorem ok_X11_needWithin : mOK mX11_needWithin 3 := ⟨cd_X11_needWithin, in_RX11, rfl, ⟨by decide, by decide⟩, by decide +kernel, by decide⟩
abbrev mX6_readLand : Mt := (yX6_readLand, cX6_readLand, 3, (some (.object "DegreeLaws$Land")), [])
theorem ok_X6_readLand : mOK mX6_readLand 1 := ⟨cd_X6_readLand, in_RX6, rfl, ⟨by decide, by decide⟩, by decide +kernel, by decide⟩
abbrev mX6_advance : Mt := (yX6_advance, cX6_advance, 1, none, [])
theorem ok_X6_advance : mOK mX6_advance 0 := ⟨cd_X6_advance, in_RX6, rfl, ⟨by decide, by decide⟩, by decide +kernel, by decide⟩
abbrev mX6_skip : Mt := (yX6_skip, cX6_skip, 3, none, [])
theorem ok_X6_skip : mOK mX6_skip 2 := ⟨cd_X6_skip, in_RX6, rfl, ⟨by decide, by decide⟩, by decide +kernel, by decide⟩
abbrev mX6_wordHere : Mt := (yX6_wordHere, cX6_wordHere, 5, (some .int), [])
theorem ok_X6_wordHere : mOK mX6_wordHere 0 := ⟨cd_X6_wordHere, in_RX6, rfl, ⟨by decide, by decide⟩, by decide +kernel, by decide⟩
abbrev mJ0_length_8abf5 : Mt := (yJ0_length_8abf5, cJ0_length_8abf5, 1, (some .int), [])
theorem ok_J0_length_8abf5 : mOK mJ0_length_8abf5 0 := ⟨cd_J0_length_8abf5, in_RJ0, rfl, ⟨by decide, by decide⟩, by decide +kernel, by decide⟩
abbrev mJ0_coder_7d493 : Mt := (yJ0_coder_7d493, cJ0_coder_7d493, 1, (some .byte), [])
theorem ok_J0_coder_7d493 : mOK mJ0_coder_7d493 0 := ⟨cd_J0_coder_7d493, in_RJ0, rfl, ⟨by decide, by decide⟩, by decide +kernel, by decide⟩
abbrev mJ0_charAt_5068e : Mt := (yJ0_charAt_5068e, cJ0_charAt_5068e, 2, (some .char), [])
theorem ok_J0_charAt_5068e : mOK mJ0_charAt_5068e 1 := ⟨cd_J0_charAt_5068e, in_RJ0, rfl, ⟨by decide, by decide⟩, by decide +kernel, by decide⟩
abbrev mJ0_isLatin1_aae02 : Mt := (yJ0_isLatin1_aae02, cJ0_isLatin1_aae02, 1, (some .boolean), [])
theorem ok_J0_isLatin1_aae02 : mOK mJ0_isLatin1_aae02 0 := ⟨cd_J0_isLatin1_aae02, in_RJ0, rfl, ⟨by decide, by decide⟩, by decide +kernel, by decide⟩
abbrev mJ1_charAt_3b067 : Mt := (yJ1_charAt_3b067, cJ1_charAt_3b067, 2, (some .char), [])
theorem ok_J1_charAt_3b067 : mOK mJ1_charAt_3b067 2 := ⟨cd_J1_charAt_3b067, in_RJ1, rfl, ⟨by decide, by decide⟩, by decide +kernel, by decide⟩
abbrev mJ0_checkIndex_df160 : Mt := (yJ0_checkIndex_df160, cJ0_checkIndex_df160, 2, none, [])
theorem ok_J0_checkIndex_df160 : mOK mJ0_checkIndex_df160 2 := ⟨cd_J0_checkIndex_df160, in_RJ0, rfl, ⟨by decide, by decide⟩, by decide +kernel, by decide⟩
abbrev mJ3_checkIndex_8e157 : Mt := (yJ3_checkIndex_8e157, cJ3_checkIndex_8e157, 3, (some .int), [])
theorem ok_J3_checkIndex_8e157 : mOK mJ3_checkIndex_8e157 3 := ⟨cd_J3_checkIndex_8e157, in_RJ3, rfl, ⟨by decide, by decide⟩, by decide +kernel, by decide⟩
abbrev mJ2_charAt_3b067 : Mt := (yJ2_charAt_3b067, cJ2_charAt_3b067, 2, (some .char), [])
theorem ok_J2_charAt_3b067 : mOK mJ2_charAt_3b067 2 := ⟨cd_J2_charAt_3b067, in_RJ2, rfl, ⟨by decide, by decide⟩, by decide +kernel, by decide⟩
abbrev mJ2_checkIndex_2214a : Mt := (yJ2_checkIndex_2214a, cJ2_checkIndex_2214a, 2, none, [])
theorem ok_J2_checkIndex_2214a : mOK mJ2_checkIndex_2214a 2 := ⟨cd_J2_checkIndex_2214a, in_RJ2, rfl, ⟨by decide, by decide⟩, by decide +kernel, by decide⟩
abbrev mJ2_length_9d52b : Mt := (yJ2_length_9d52b, cJ2_length_9d52b, 1, (some .int), [])
theorem ok_J2_length_9d52b : mOK mJ2_length_9d52b 1 := ⟨cd_J2_length_9d52b, in_RJ2, rfl, ⟨by decide, by decide⟩, by decide +kernel, by decide⟩
abbrev mJ2_getChar_3b067 : Mt := (yJ2_getChar_3b067, cJ2_getChar_3b067, 2, (some .char), [])
theorem ok_J2_getChar_3b067 : mOK mJ2_getChar_3b067 2 := ⟨cd_J2_getChar_3b067, in_RJ2, rfl, ⟨by decide, by decide⟩, by decide +kernel, by decide⟩
abbrev mX6_numberHere : Mt := (yX6_numberHere, cX6_numberHere, 3, (some .int), [])
theorem ok_X6_numberHere : mOK mX6_numberHere 0 := ⟨cd_X6_numberHere, in_RX6, rfl, ⟨by decide, by decide⟩, by decide +kernel, by decide⟩
abbrev mX6_isSign : Mt := (yX6_isSign, cX6_isSign, 1, (some .boolean), [])
theorem ok_X6_isSign : mOK mX6_isSign 1 := ⟨cd_X6_isSign, in_RX6, rfl, ⟨by decide, by decide⟩, by decide +kernel, by decide⟩
abbrev mX6_readWard : Mt := (yX6_readWard, cX6_readWard, 3, none, [])
theorem ok_X6_readWard : mOK mX6_readWard 0 := ⟨cd_X6_readWard, in_RX6, rfl, ⟨by decide, by decide⟩, by decide +kernel, by decide⟩
abbrev mX6_fail : Mt := (yX6_fail, cX6_fail, 2, none, [])
theorem ok_X6_fail : mOK mX6_fail 1 := ⟨cd_X6_fail, in_RX6, rfl, ⟨by decide, by decide⟩, by decide +kernel, by decide⟩
abbrev mX6_takeNumber : Mt := (yX6_takeNumber, cX6_takeNumber, 4, (some .int), [])
theorem ok_X6_takeNumber : mOK mX6_takeNumber 2 := ⟨cd_X6_takeNumber, in_RX6, rfl, ⟨by decide, by decide⟩, by decide +kernel, by decide⟩
abbrev mX6_refuse : Mt := (yX6_refuse, cX6_refuse, 1, none, [])
theorem ok_X6_refuse : mOK mX6_refuse 0 := ⟨cd_X6_refuse, in_RX6, rfl, ⟨by decide, by decide⟩, by decide +kernel, by decide⟩
abbrev mX6_readBeside : Mt := (yX6_readBeside, cX6_readBeside, 3, none, [])
theorem ok_X6_readBeside : mOK mX6_readBeside 1 := ⟨cd_X6_readBeside, in_RX6, rfl, ⟨by decide, by decide⟩, by decide +kernel, by decide⟩
abbrev mX6_readAct : Mt := (yX6_readAct, cX6_readAct, 3, none, [])
theorem ok_X6_readAct : mOK mX6_readAct 0 := ⟨cd_X6_readAct, in_RX6, rfl, ⟨by decide, by decide⟩, by decide +kernel, by decide⟩
abbrev mX6_take : Mt := (yX6_take, cX6_take, 2, none, [])
theorem ok_X6_take : mOK mX6_take 1 := ⟨cd_X6_take, in_RX6, rfl, ⟨by decide, by decide⟩, by decide +kernel, by decide⟩
abbrev mX6_beginLaw : Mt := (yX6_beginLaw, cX6_beginLaw, 2, none, [])
theorem ok_X6_beginLaw : mOK mX6_beginLaw 1 := ⟨cd_X6_beginLaw, in_RX6, rfl, ⟨by decide, by decide⟩, by decide +kernel, by decide⟩
abbrev mX6_readSum : Mt := (yX6_readSum, cX6_readSum, 4, none, [])
theorem ok_X6_readSum : mOK mX6_readSum 1 := ⟨cd_X6_readSum, in_RX6, rfl, ⟨by decide, by decide⟩, by decide +kernel, by decide⟩
abbrev mX6_readTerm : Mt := (yX6_readTerm, cX6_readTerm, 3, none, [])
theorem ok_X6_readTerm : mOK mX6_readTerm 1 := ⟨cd_X6_readTerm, in_RX6, rfl, ⟨by decide, by decide⟩, by decide +kernel, by decide⟩
abbrev mX6_readAtom : Mt := (yX6_readAtom, cX6_readAtom, 2, none, [])
theorem ok_X6_readAtom : mOK mX6_readAtom 1 := ⟨cd_X6_readAtom, in_RX6, rfl, ⟨by decide, by decide⟩, by decide +kernel, by decide⟩
abbrev mX6_put : Mt := (yX6_put, cX6_put, 2, none, [])
theorem ok_X6_put : mOK mX6_put 1 := ⟨cd_X6_put, in_RX6, rfl, ⟨by decide, by decide⟩, by decide +kernel, by decide⟩
abbrev mX6_goesDeeper : Mt := (yX6_goesDeeper, cX6_goesDeeper, 2, (some .boolean), [])
theorem ok_X6_goesDeeper : mOK mX6_goesDeeper 1 := ⟨cd_X6_goesDeeper, in_RX6, rfl, ⟨by decide, by decide⟩, by decide +kernel, by decide⟩
abbrev mX6_isOfPrevails : Mt := (yX6_isOfPrevails, cX6_isOfPrevails, 1, (some .boolean), [])
theorem ok_X6_isOfPrevails : mOK mX6_isOfPrevails 0 := ⟨cd_X6_isOfPrevails, in_RX6, rfl, ⟨by decide, by decide⟩, by decide +kernel, by decide⟩
abbrev mX6_isOfDegree : Mt := (yX6_isOfDegree, cX6_isOfDegree, 1, (some .boolean), [])
theorem ok_X6_isOfDegree : mOK mX6_isOfDegree 0 := ⟨cd_X6_isOfDegree, in_RX6, rfl, ⟨by decide, by decide⟩, by decide +kernel, by decide⟩
abbrev mJ7_copyOf_59c91 : Mt := (yJ7_copyOf_59c91, cJ7_copyOf_59c91, 3, (some (.array .int)), [])
theorem ok_J7_copyOf_59c91 : mOK mJ7_copyOf_59c91 2 := ⟨cd_J7_copyOf_59c91, in_RJ7, rfl, ⟨by decide, by decide⟩, by decide +kernel, by decide⟩
abbrev mX6_readTruth : Mt := (yX6_readTruth, cX6_readTruth, 3, none, [])
theorem ok_X6_readTruth : mOK mX6_readTruth 1 := ⟨cd_X6_readTruth, in_RX6, rfl, ⟨by decide, by decide⟩, by decide +kernel, by decide⟩
abbrev mX6_readBoth : Mt := (yX6_readBoth, cX6_readBoth, 3, none, [])
theorem ok_X6_readBoth : mOK mX6_readBoth 1 := ⟨cd_X6_readBoth, in_RX6, rfl, ⟨by decide, by decide⟩, by decide +kernel, by decide⟩
abbrev mX6_readUnit : Mt := (yX6_readUnit, cX6_readUnit, 3, none, [])
theorem ok_X6_readUnit : mOK mX6_readUnit 1 := ⟨cd_X6_readUnit, in_RX6, rfl, ⟨by decide, by decide⟩, by decide +kernel, by decide⟩
abbrev mX7_beginWith : Mt := (yX7_beginWith, cX7_beginWith, 3, none, [])
theorem ok_X7_beginWith : mOK mX7_beginWith 1 := ⟨cd_X7_beginWith, in_RX7, rfl, ⟨by decide, by decide⟩, by decide +kernel, by decide⟩
abbrev mJ7_fill_53178 : Mt := (yJ7_fill_53178, cJ7_fill_53178, 4, none, [])
theorem ok_J7_fill_53178 : mOK mJ7_fill_53178 2 := ⟨cd_J7_fill_53178, in_RJ7, rfl, ⟨by decide, by decide⟩, by decide +kernel, by decide⟩
abbrev mX7_forgetPrevailing : Mt := (yX7_forgetPrevailing, cX7_forgetPrevailing, 1, none, [])
theorem ok_X7_forgetPrevailing : mOK mX7_forgetPrevailing 0 := ⟨cd_X7_forgetPrevailing, in_RX7, rfl, ⟨by decide, by decide⟩, by decide +kernel, by decide⟩
abbrev mX11_ward : Mt := (yX11_ward, cX11_ward, 4, (some .int), [])
theorem ok_X11_ward : mOK mX11_ward 2 := ⟨cd_X11_ward, in_RX11, rfl, ⟨by decide, by decide⟩, by decide +kernel, by decide⟩
abbrev mX11_needWard : Mt := (yX11_needWard, cX11_needWard, 2, none, [])
theorem ok_X11_needWard : mOK mX11_needWard 1 := ⟨cd_X11_needWard, in_RX11, rfl, ⟨by decide, by decide⟩, by decide +kernel, by decide⟩
abbrev mX11_act : Mt := (yX11_act, cX11_act, 3, (some .int), [])
theorem ok_X11_act : mOK mX11_act 2 := ⟨cd_X11_act, in_RX11, rfl, ⟨by decide, by decide⟩, by decide +kernel, by decide⟩
abbrev mX11_needAct : Mt := (yX11_needAct, cX11_needAct, 2, none, [])
theorem ok_X11_needAct : mOK mX11_needAct 1 := ⟨cd_X11_needAct, in_RX11, rfl, ⟨by decide, by decide⟩, by decide +kernel, by decide⟩
abbrev mX7_isRepealed : Mt := (yX7_isRepealed, cX7_isRepealed, 2, (some .boolean), [])
theorem ok_X7_isRepealed : mOK mX7_isRepealed 1 := ⟨cd_X7_isRepealed, in_RX7, rfl, ⟨by decide, by decide⟩, by decide +kernel, by decide⟩
abbrev mX11_degree : Mt := (yX11_degree, cX11_degree, 3, (some .int), [])
theorem ok_X11_degree : mOK mX11_degree 2 := ⟨cd_X11_degree, in_RX11, rfl, ⟨by decide, by decide⟩, by decide +kernel, by decide⟩
abbrev mX11_code : Mt := (yX11_code, cX11_code, 3, (some .int), [])
theorem ok_X11_code : mOK mX11_code 2 := ⟨cd_X11_code, in_RX11, rfl, ⟨by decide, by decide⟩, by decide +kernel, by decide⟩
abbrev mX11_fine : Mt := (yX11_fine, cX11_fine, 5, (some .int), [])
theorem ok_X11_fine : mOK mX11_fine 4 := ⟨cd_X11_fine, in_RX11, rfl, ⟨by decide, by decide⟩, by decide +kernel, by decide⟩
abbrev mX11_needDeed : Mt := (yX11_needDeed, cX11_needDeed, 4, none, [])
theorem ok_X11_needDeed : mOK mX11_needDeed 3 := ⟨cd_X11_needDeed, in_RX11, rfl, ⟨by decide, by decide⟩, by decide +kernel, by decide⟩
abbrev mX11_needKind : Mt := (yX11_needKind, cX11_needKind, 1, none, [])
theorem ok_X11_needKind : mOK mX11_needKind 1 := ⟨cd_X11_needKind, in_RX11, rfl, ⟨by decide, by decide⟩, by decide +kernel, by decide⟩
abbrev mX7_fineOfDeed : Mt := (yX7_fineOfDeed, cX7_fineOfDeed, 9, (some .int), [])
theorem ok_X7_fineOfDeed : mOK mX7_fineOfDeed 4 := ⟨cd_X7_fineOfDeed, in_RX7, rfl, ⟨by decide, by decide⟩, by decide +kernel, by decide⟩
abbrev mX7_actsOf : Mt := (yX7_actsOf, cX7_actsOf, 2, (some .int), [])
theorem ok_X7_actsOf : mOK mX7_actsOf 1 := ⟨cd_X7_actsOf, in_RX7, rfl, ⟨by decide, by decide⟩, by decide +kernel, by decide⟩
abbrev mX7_measured : Mt := (yX7_measured, cX7_measured, 2, (some .int), [])
theorem ok_X7_measured : mOK mX7_measured 1 := ⟨cd_X7_measured, in_RX7, rfl, ⟨by decide, by decide⟩, by decide +kernel, by decide⟩
abbrev mX2_finesOf : Mt := (yX2_finesOf, cX2_finesOf, 4, (some .int), [])
theorem ok_X2_finesOf : mOK mX2_finesOf 1 := ⟨cd_X2_finesOf, in_RX2, rfl, ⟨by decide, by decide⟩, by decide +kernel, by decide⟩
abbrev mX11_lawful : Mt := (yX11_lawful, cX11_lawful, 5, (some .boolean), [])
theorem ok_X11_lawful : mOK mX11_lawful 4 := ⟨cd_X11_lawful, in_RX11, rfl, ⟨by decide, by decide⟩, by decide +kernel, by decide⟩
abbrev mX11_ahead : Mt := (yX11_ahead, cX11_ahead, 1, (some (.object "DegreeLaws$Outlook")), [])
theorem ok_X11_ahead : mOK mX11_ahead 0 := ⟨cd_X11_ahead, in_RX11, rfl, ⟨by decide, by decide⟩, by decide +kernel, by decide⟩
abbrev mX4_init : Mt := (yX4_init, cX4_init, 2, none, [])
theorem ok_X4_init : mOK mX4_init 1 := ⟨cd_X4_init, in_RX4, rfl, ⟨by decide, by decide⟩, by decide +kernel, by decide⟩
abbrev mX4_isLawfulIn : Mt := (yX4_isLawfulIn, cX4_isLawfulIn, 6, (some .boolean), [])
theorem ok_X4_isLawfulIn : mOK mX4_isLawfulIn 4 := ⟨cd_X4_isLawfulIn, in_RX4, rfl, ⟨by decide, by decide⟩, by decide +kernel, by decide⟩
abbrev mX4_layDegrees : Mt := (yX4_layDegrees, cX4_layDegrees, 5, none, [])
theorem ok_X4_layDegrees : mOK mX4_layDegrees 3 := ⟨cd_X4_layDegrees, in_RX4, rfl, ⟨by decide, by decide⟩, by decide +kernel, by decide⟩
abbrev mX4_layBarring : Mt := (yX4_layBarring, cX4_layBarring, 9, none, [])
theorem ok_X4_layBarring : mOK mX4_layBarring 5 := ⟨cd_X4_layBarring, in_RX4, rfl, ⟨by decide, by decide⟩, by decide +kernel, by decide⟩
abbrev mX4_isFree : Mt := (yX4_isFree, cX4_isFree, 3, (some .boolean), [])
theorem ok_X4_isFree : mOK mX4_isFree 1 := ⟨cd_X4_isFree, in_RX4, rfl, ⟨by decide, by decide⟩, by decide +kernel, by decide⟩
abbrev mX11_fire : Mt := (yX11_fire, cX11_fire, 4, (some .int), [])
theorem ok_X11_fire : mOK mX11_fire 3 := ⟨cd_X11_fire, in_RX11, rfl, ⟨by decide, by decide⟩, by decide +kernel, by decide⟩
abbrev mX11_layOn : Mt := (yX11_layOn, cX11_layOn, 5, (some .int), [])
theorem ok_X11_layOn : mOK mX11_layOn 4 := ⟨cd_X11_layOn, in_RX11, rfl, ⟨by decide, by decide⟩, by decide +kernel, by decide⟩
abbrev mX5_keep : Mt := (yX5_keep, cX5_keep, 2, none, [])
theorem ok_X5_keep : mOK mX5_keep 1 := ⟨cd_X5_keep, in_RX5, rfl, ⟨by decide, by decide⟩, by decide +kernel, by decide⟩
abbrev mX7_layOn : Mt := (yX7_layOn, cX7_layOn, 5, none, [])
theorem ok_X7_layOn : mOK mX7_layOn 4 := ⟨cd_X7_layOn, in_RX7, rfl, ⟨by decide, by decide⟩, by decide +kernel, by decide⟩
abbrev mX11_ice : Mt := (yX11_ice, cX11_ice, 4, (some .int), [])
theorem ok_X11_ice : mOK mX11_ice 3 := ⟨cd_X11_ice, in_RX11, rfl, ⟨by decide, by decide⟩, by decide +kernel, by decide⟩
abbrev mX11_amend : Mt := (yX11_amend, cX11_amend, 6, (some .int), [])
theorem ok_X11_amend : mOK mX11_amend 3 := ⟨cd_X11_amend, in_RX11, rfl, ⟨by decide, by decide⟩, by decide +kernel, by decide⟩
abbrev mX11_repeal : Mt := (yX11_repeal, cX11_repeal, 2, (some .int), [])
theorem ok_X11_repeal : mOK mX11_repeal 1 := ⟨cd_X11_repeal, in_RX11, rfl, ⟨by decide, by decide⟩, by decide +kernel, by decide⟩
abbrev mX11_hours : Mt := (yX11_hours, cX11_hours, 2, (some .int), [])
theorem ok_X11_hours : mOK mX11_hours 1 := ⟨cd_X11_hours, in_RX11, rfl, ⟨by decide, by decide⟩, by decide +kernel, by decide⟩
abbrev mX11_done : Mt := (yX11_done, cX11_done, 4, (some .int), [])
theorem ok_X11_done : mOK mX11_done 3 := ⟨cd_X11_done, in_RX11, rfl, ⟨by decide, by decide⟩, by decide +kernel, by decide⟩
abbrev mX7_doDeed : Mt := (yX7_doDeed, cX7_doDeed, 5, (some .int), [])
theorem ok_X7_doDeed : mOK mX7_doDeed 3 := ⟨cd_X7_doDeed, in_RX7, rfl, ⟨by decide, by decide⟩, by decide +kernel, by decide⟩
abbrev mX11_undo : Mt := (yX11_undo, cX11_undo, 2, (some .int), [])
theorem ok_X11_undo : mOK mX11_undo 1 := ⟨cd_X11_undo, in_RX11, rfl, ⟨by decide, by decide⟩, by decide +kernel, by decide⟩
abbrev mX5_goBack : Mt := (yX5_goBack, cX5_goBack, 3, none, [])
theorem ok_X5_goBack : mOK mX5_goBack 2 := ⟨cd_X5_goBack, in_RX5, rfl, ⟨by decide, by decide⟩, by decide +kernel, by decide⟩
abbrev mX11_judge : Mt := (yX11_judge, cX11_judge, 9, (some .int), [])
theorem ok_X11_judge : mOK mX11_judge 2 := ⟨cd_X11_judge, in_RX11, rfl, ⟨by decide, by decide⟩, by decide +kernel, by decide⟩
abbrev mX11_trayAt : Mt := (yX11_trayAt, cX11_trayAt, 2, (some (.object "DegreeLaws$Tray")), [])
theorem ok_X11_trayAt : mOK mX11_trayAt 1 := ⟨cd_X11_trayAt, in_RX11, rfl, ⟨by decide, by decide⟩, by decide +kernel, by decide⟩
abbrev mX11_needPlaced : Mt := (yX11_needPlaced, cX11_needPlaced, 1, none, [])
theorem ok_X11_needPlaced : mOK mX11_needPlaced 1 := ⟨cd_X11_needPlaced, in_RX11, rfl, ⟨by decide, by decide⟩, by decide +kernel, by decide⟩
abbrev mX7_whyNot : Mt := (yX7_whyNot, cX7_whyNot, 4, (some .int), [])
theorem ok_X7_whyNot : mOK mX7_whyNot 1 := ⟨cd_X7_whyNot, in_RX7, rfl, ⟨by decide, by decide⟩, by decide +kernel, by decide⟩
abbrev mX7_isDeed : Mt := (yX7_isDeed, cX7_isDeed, 3, (some .boolean), [])
theorem ok_X7_isDeed : mOK mX7_isDeed 1 := ⟨cd_X7_isDeed, in_RX7, rfl, ⟨by decide, by decide⟩, by decide +kernel, by decide⟩
abbrev mX7_carryOut : Mt := (yX7_carryOut, cX7_carryOut, 4, none, [])
theorem ok_X7_carryOut : mOK mX7_carryOut 1 := ⟨cd_X7_carryOut, in_RX7, rfl, ⟨by decide, by decide⟩, by decide +kernel, by decide⟩
abbrev mX11_perform : Mt := (yX11_perform, cX11_perform, 4, (some .int), [])
theorem ok_X11_perform : mOK mX11_perform 1 := ⟨cd_X11_perform, in_RX11, rfl, ⟨by decide, by decide⟩, by decide +kernel, by decide⟩
abbrev mX11_season : Mt := (yX11_season, cX11_season, 6, (some .int), [])
theorem ok_X11_season : mOK mX11_season 2 := ⟨cd_X11_season, in_RX11, rfl, ⟨by decide, by decide⟩, by decide +kernel, by decide⟩
abbrev mX11_drawBelow : Mt := (yX11_drawBelow, cX11_drawBelow, 2, (some .int), [])
theorem ok_X11_drawBelow : mOK mX11_drawBelow 1 := ⟨cd_X11_drawBelow, in_RX11, rfl, ⟨by decide, by decide⟩, by decide +kernel, by decide⟩
abbrev mX11_carryOutDrawn : Mt := (yX11_carryOutDrawn, cX11_carryOutDrawn, 4, none, [])
theorem ok_X11_carryOutDrawn : mOK mX11_carryOutDrawn 1 := ⟨cd_X11_carryOutDrawn, in_RX11, rfl, ⟨by decide, by decide⟩, by decide +kernel, by decide⟩
abbrev mX11_soonest : Mt := (yX11_soonest, cX11_soonest, 4, (some .int), [])
theorem ok_X11_soonest : mOK mX11_soonest 3 := ⟨cd_X11_soonest, in_RX11, rfl, ⟨by decide, by decide⟩, by decide +kernel, by decide⟩
abbrev mX4_soonestIn : Mt := (yX4_soonestIn, cX4_soonestIn, 5, (some .int), [])
theorem ok_X4_soonestIn : mOK mX4_soonestIn 3 := ⟨cd_X4_soonestIn, in_RX4, rfl, ⟨by decide, by decide⟩, by decide +kernel, by decide⟩
abbrev mX4_layOut : Mt := (yX4_layOut, cX4_layOut, 4, none, [])
theorem ok_X4_layOut : mOK mX4_layOut 3 := ⟨cd_X4_layOut, in_RX4, rfl, ⟨by decide, by decide⟩, by decide +kernel, by decide⟩
abbrev mX4_firstFree : Mt := (yX4_firstFree, cX4_firstFree, 4, (some .int), [])
theorem ok_X4_firstFree : mOK mX4_firstFree 1 := ⟨cd_X4_firstFree, in_RX4, rfl, ⟨by decide, by decide⟩, by decide +kernel, by decide⟩
abbrev mX11_where : Mt := (yX11_where, cX11_where, 7, (some .int), [])
theorem ok_X11_where : mOK mX11_where 2 := ⟨cd_X11_where, in_RX11, rfl, ⟨by decide, by decide⟩, by decide +kernel, by decide⟩
abbrev mX11_cheapest : Mt := (yX11_cheapest, cX11_cheapest, 4, (some .int), [])
theorem ok_X11_cheapest : mOK mX11_cheapest 3 := ⟨cd_X11_cheapest, in_RX11, rfl, ⟨by decide, by decide⟩, by decide +kernel, by decide⟩
abbrev mX4_cheapestIn : Mt := (yX4_cheapestIn, cX4_cheapestIn, 9, (some .int), [])
theorem ok_X4_cheapestIn : mOK mX4_cheapestIn 3 := ⟨cd_X4_cheapestIn, in_RX4, rfl, ⟨by decide, by decide⟩, by decide +kernel, by decide⟩
abbrev mX11_freeHours : Mt := (yX11_freeHours, cX11_freeHours, 4, (some .int), [])
theorem ok_X11_freeHours : mOK mX11_freeHours 3 := ⟨cd_X11_freeHours, in_RX11, rfl, ⟨by decide, by decide⟩, by decide +kernel, by decide⟩
abbrev mX4_manyFree : Mt := (yX4_manyFree, cX4_manyFree, 6, (some .int), [])
theorem ok_X4_manyFree : mOK mX4_manyFree 3 := ⟨cd_X4_manyFree, in_RX4, rfl, ⟨by decide, by decide⟩, by decide +kernel, by decide⟩
abbrev mX11_spell : Mt := (yX11_spell, cX11_spell, 5, (some .int), [])
theorem ok_X11_spell : mOK mX11_spell 4 := ⟨cd_X11_spell, in_RX11, rfl, ⟨by decide, by decide⟩, by decide +kernel, by decide⟩
abbrev mX4_longestFree : Mt := (yX4_longestFree, cX4_longestFree, 9, (some .int), [])
theorem ok_X4_longestFree : mOK mX4_longestFree 4 := ⟨cd_X4_longestFree, in_RX4, rfl, ⟨by decide, by decide⟩, by decide +kernel, by decide⟩
abbrev mX11_lawless : Mt := (yX11_lawless, cX11_lawless, 3, (some .int), [])
theorem ok_X11_lawless : mOK mX11_lawless 1 := ⟨cd_X11_lawless, in_RX11, rfl, ⟨by decide, by decide⟩, by decide +kernel, by decide⟩
abbrev mX11_heat : Mt := (yX11_heat, cX11_heat, 5, (some .int), [])
theorem ok_X11_heat : mOK mX11_heat 4 := ⟨cd_X11_heat, in_RX11, rfl, ⟨by decide, by decide⟩, by decide +kernel, by decide⟩
abbrev mX4_heatIn : Mt := (yX4_heatIn, cX4_heatIn, 7, (some .int), [])
theorem ok_X4_heatIn : mOK mX4_heatIn 4 := ⟨cd_X4_heatIn, in_RX4, rfl, ⟨by decide, by decide⟩, by decide +kernel, by decide⟩
abbrev mX11_leastHeat : Mt := (yX11_leastHeat, cX11_leastHeat, 4, (some .int), [])
theorem ok_X11_leastHeat : mOK mX11_leastHeat 3 := ⟨cd_X11_leastHeat, in_RX11, rfl, ⟨by decide, by decide⟩, by decide +kernel, by decide⟩
abbrev mX4_leastHeated : Mt := (yX4_leastHeated, cX4_leastHeated, 8, (some .int), [])
theorem ok_X4_leastHeated : mOK mX4_leastHeated 3 := ⟨cd_X4_leastHeated, in_RX4, rfl, ⟨by decide, by decide⟩, by decide +kernel, by decide⟩
abbrev mX4_layHeated : Mt := (yX4_layHeated, cX4_layHeated, 10, none, [])
theorem ok_X4_layHeated : mOK mX4_layHeated 4 := ⟨cd_X4_layHeated, in_RX4, rfl, ⟨by decide, by decide⟩, by decide +kernel, by decide⟩
abbrev mX11_cover : Mt := (yX11_cover, cX11_cover, 5, (some .int), [])
theorem ok_X11_cover : mOK mX11_cover 3 := ⟨cd_X11_cover, in_RX11, rfl, ⟨by decide, by decide⟩, by decide +kernel, by decide⟩
abbrev mX4_coverIn : Mt := (yX4_coverIn, cX4_coverIn, 8, (some .int), [])
theorem ok_X4_coverIn : mOK mX4_coverIn 2 := ⟨cd_X4_coverIn, in_RX4, rfl, ⟨by decide, by decide⟩, by decide +kernel, by decide⟩
abbrev mX4_barredHours : Mt := (yX4_barredHours, cX4_barredHours, 5, (some .int), [])
theorem ok_X4_barredHours : mOK mX4_barredHours 2 := ⟨cd_X4_barredHours, in_RX4, rfl, ⟨by decide, by decide⟩, by decide +kernel, by decide⟩
abbrev mX11_widen : Mt := (yX11_widen, cX11_widen, 7, (some .int), [])
theorem ok_X11_widen : mOK mX11_widen 2 := ⟨cd_X11_widen, in_RX11, rfl, ⟨by decide, by decide⟩, by decide +kernel, by decide⟩
abbrev mX11_heaviest : Mt := (yX11_heaviest, cX11_heaviest, 2, (some .int), [])
theorem ok_X11_heaviest : mOK mX11_heaviest 1 := ⟨cd_X11_heaviest, in_RX11, rfl, ⟨by decide, by decide⟩, by decide +kernel, by decide⟩
abbrev mX4_heaviestIn : Mt := (yX4_heaviestIn, cX4_heaviestIn, 7, (some .int), [])
theorem ok_X4_heaviestIn : mOK mX4_heaviestIn 1 := ⟨cd_X4_heaviestIn, in_RX4, rfl, ⟨by decide, by decide⟩, by decide +kernel, by decide⟩
abbrev mX11_freeWay : Mt := (yX11_freeWay, cX11_freeWay, 4, (some .int), [])
theorem ok_X11_freeWay : mOK mX11_freeWay 3 := ⟨cd_X11_freeWay, in_RX11, rfl, ⟨by decide, by decide⟩, by decide +kernel, by decide⟩
abbrev mX11_needWay : Mt := (yX11_needWay, cX11_needWay, 4, none, [])
theorem ok_X11_needWay : mOK mX11_needWay 3 := ⟨cd_X11_needWay, in_RX11, rfl, ⟨by decide, by decide⟩, by decide +kernel, by decide⟩
abbrev mX11_waysOf : Mt := (yX11_waysOf, cX11_waysOf, 3, (some (.object "DegreeLaws$Ways")), [])
theorem ok_X11_waysOf : mOK mX11_waysOf 2 := ⟨cd_X11_waysOf, in_RX11, rfl, ⟨by decide, by decide⟩, by decide +kernel, by decide⟩
abbrev mX10_init : Mt := (yX10_init, cX10_init, 2, none, [])
theorem ok_X10_init : mOK mX10_init 1 := ⟨cd_X10_init, in_RX10, rfl, ⟨by decide, by decide⟩, by decide +kernel, by decide⟩
abbrev mX10_layOut : Mt := (yX10_layOut, cX10_layOut, 8, none, [])
theorem ok_X10_layOut : mOK mX10_layOut 2 := ⟨cd_X10_layOut, in_RX10, rfl, ⟨by decide, by decide⟩, by decide +kernel, by decide⟩
abbrev mX10_soonestFree : Mt := (yX10_soonestFree, cX10_soonestFree, 6, (some .int), [])
theorem ok_X10_soonestFree : mOK mX10_soonestFree 3 := ⟨cd_X10_soonestFree, in_RX10, rfl, ⟨by decide, by decide⟩, by decide +kernel, by decide⟩
abbrev mX10_stepFromAll : Mt := (yX10_stepFromAll, cX10_stepFromAll, 4, (some .int), [])
theorem ok_X10_stepFromAll : mOK mX10_stepFromAll 1 := ⟨cd_X10_stepFromAll, in_RX10, rfl, ⟨by decide, by decide⟩, by decide +kernel, by decide⟩
abbrev mX10_stepFrom : Mt := (yX10_stepFrom, cX10_stepFrom, 2, (some .int), [])
theorem ok_X10_stepFrom : mOK mX10_stepFrom 1 := ⟨cd_X10_stepFrom, in_RX10, rfl, ⟨by decide, by decide⟩, by decide +kernel, by decide⟩
abbrev mX11_freeAt : Mt := (yX11_freeAt, cX11_freeAt, 5, (some .int), [])
theorem ok_X11_freeAt : mOK mX11_freeAt 4 := ⟨cd_X11_freeAt, in_RX11, rfl, ⟨by decide, by decide⟩, by decide +kernel, by decide⟩
abbrev mX11_needNotBelowZero : Mt := (yX11_needNotBelowZero, cX11_needNotBelowZero, 1, none, [])
theorem ok_X11_needNotBelowZero : mOK mX11_needNotBelowZero 1 := ⟨cd_X11_needNotBelowZero, in_RX11, rfl, ⟨by decide, by decide⟩, by decide +kernel, by decide⟩
abbrev mX10_wardOnFirst : Mt := (yX10_wardOnFirst, cX10_wardOnFirst, 7, (some .int), [])
theorem ok_X10_wardOnFirst : mOK mX10_wardOnFirst 3 := ⟨cd_X10_wardOnFirst, in_RX10, rfl, ⟨by decide, by decide⟩, by decide +kernel, by decide⟩
abbrev mX10_firstOf : Mt := (yX10_firstOf, cX10_firstOf, 2, (some .int), [])
theorem ok_X10_firstOf : mOK mX10_firstOf 1 := ⟨cd_X10_firstOf, in_RX10, rfl, ⟨by decide, by decide⟩, by decide +kernel, by decide⟩
abbrev mX11_wayFine : Mt := (yX11_wayFine, cX11_wayFine, 5, (some .int), [])
theorem ok_X11_wayFine : mOK mX11_wayFine 4 := ⟨cd_X11_wayFine, in_RX11, rfl, ⟨by decide, by decide⟩, by decide +kernel, by decide⟩
abbrev mX10_leastFined : Mt := (yX10_leastFined, cX10_leastFined, 7, (some .int), [])
theorem ok_X10_leastFined : mOK mX10_leastFined 3 := ⟨cd_X10_leastFined, in_RX10, rfl, ⟨by decide, by decide⟩, by decide +kernel, by decide⟩
abbrev mX10_leastAmong : Mt := (yX10_leastAmong, cX10_leastAmong, 4, (some .int), [])
theorem ok_X10_leastAmong : mOK mX10_leastAmong 1 := ⟨cd_X10_leastAmong, in_RX10, rfl, ⟨by decide, by decide⟩, by decide +kernel, by decide⟩
abbrev mX11_freeWays : Mt := (yX11_freeWays, cX11_freeWays, 5, (some .long), [])
theorem ok_X11_freeWays : mOK mX11_freeWays 4 := ⟨cd_X11_freeWays, in_RX11, rfl, ⟨by decide, by decide⟩, by decide +kernel, by decide⟩
abbrev mX10_manyFree : Mt := (yX10_manyFree, cX10_manyFree, 6, (some .long), [])
theorem ok_X10_manyFree : mOK mX10_manyFree 3 := ⟨cd_X10_manyFree, in_RX10, rfl, ⟨by decide, by decide⟩, by decide +kernel, by decide⟩
abbrev mJ7_fill_d0a16 : Mt := (yJ7_fill_d0a16, cJ7_fill_d0a16, 5, none, [])
theorem ok_J7_fill_d0a16 : mOK mJ7_fill_d0a16 2 := ⟨cd_J7_fill_d0a16, in_RJ7, rfl, ⟨by decide, by decide⟩, by decide +kernel, by decide⟩
abbrev mX10_manyAmong : Mt := (yX10_manyAmong, cX10_manyAmong, 5, (some .long), [])
theorem ok_X10_manyAmong : mOK mX10_manyAmong 1 := ⟨cd_X10_manyAmong, in_RX10, rfl, ⟨by decide, by decide⟩, by decide +kernel, by decide⟩
abbrev mX11_guard : Mt := (yX11_guard, cX11_guard, 4, (some .int), [])
theorem ok_X11_guard : mOK mX11_guard 3 := ⟨cd_X11_guard, in_RX11, rfl, ⟨by decide, by decide⟩, by decide +kernel, by decide⟩
abbrev mX10_bestGuard : Mt := (yX10_bestGuard, cX10_bestGuard, 8, (some .int), [])
theorem ok_X10_bestGuard : mOK mX10_bestGuard 2 := ⟨cd_X10_bestGuard, in_RX10, rfl, ⟨by decide, by decide⟩, by decide +kernel, by decide⟩
abbrev mX11_errands : Mt := (yX11_errands, cX11_errands, 3, (some .int), [])
theorem ok_X11_errands : mOK mX11_errands 1 := ⟨cd_X11_errands, in_RX11, rfl, ⟨by decide, by decide⟩, by decide +kernel, by decide⟩
abbrev mX11_needErrands : Mt := (yX11_needErrands, cX11_needErrands, 3, none, [])
theorem ok_X11_needErrands : mOK mX11_needErrands 1 := ⟨cd_X11_needErrands, in_RX11, rfl, ⟨by decide, by decide⟩, by decide +kernel, by decide⟩
abbrev mX11_agendaOf : Mt := (yX11_agendaOf, cX11_agendaOf, 2, (some (.object "DegreeLaws$Agenda")), [])
theorem ok_X11_agendaOf : mOK mX11_agendaOf 1 := ⟨cd_X11_agendaOf, in_RX11, rfl, ⟨by decide, by decide⟩, by decide +kernel, by decide⟩
abbrev mX0_init : Mt := (yX0_init, cX0_init, 2, none, [])
theorem ok_X0_init : mOK mX0_init 1 := ⟨cd_X0_init, in_RX0, rfl, ⟨by decide, by decide⟩, by decide +kernel, by decide⟩
abbrev mX0_take : Mt := (yX0_take, cX0_take, 3, none, [])
theorem ok_X0_take : mOK mX0_take 1 := ⟨cd_X0_take, in_RX0, rfl, ⟨by decide, by decide⟩, by decide +kernel, by decide⟩
abbrev mJ7_fill_031fb : Mt := (yJ7_fill_031fb, cJ7_fill_031fb, 4, none, [])
theorem ok_J7_fill_031fb : mOK mJ7_fill_031fb 2 := ⟨cd_J7_fill_031fb, in_RJ7, rfl, ⟨by decide, by decide⟩, by decide +kernel, by decide⟩
abbrev mX0_endInOrder : Mt := (yX0_endInOrder, cX0_endInOrder, 3, (some .int), [])
theorem ok_X0_endInOrder : mOK mX0_endInOrder 0 := ⟨cd_X0_endInOrder, in_RX0, rfl, ⟨by decide, by decide⟩, by decide +kernel, by decide⟩
abbrev mX0_endOf : Mt := (yX0_endOf, cX0_endOf, 7, (some .int), [])
theorem ok_X0_endOf : mOK mX0_endOf 2 := ⟨cd_X0_endOf, in_RX0, rfl, ⟨by decide, by decide⟩, by decide +kernel, by decide⟩
abbrev mX0_isBarred : Mt := (yX0_isBarred, cX0_isBarred, 7, (some .boolean), [])
theorem ok_X0_isBarred : mOK mX0_isBarred 2 := ⟨cd_X0_isBarred, in_RX0, rfl, ⟨by decide, by decide⟩, by decide +kernel, by decide⟩
abbrev mX11_bestOrder : Mt := (yX11_bestOrder, cX11_bestOrder, 5, (some .int), [])
theorem ok_X11_bestOrder : mOK mX11_bestOrder 2 := ⟨cd_X11_bestOrder, in_RX11, rfl, ⟨by decide, by decide⟩, by decide +kernel, by decide⟩
abbrev mX0_tryOrders : Mt := (yX0_tryOrders, cX0_tryOrders, 6, none, [])
theorem ok_X0_tryOrders : mOK mX0_tryOrders 3 := ⟨cd_X0_tryOrders, in_RX0, rfl, ⟨by decide, by decide⟩, by decide +kernel, by decide⟩
abbrev mX0_placeInBest : Mt := (yX0_placeInBest, cX0_placeInBest, 2, (some .int), [])
theorem ok_X0_placeInBest : mOK mX0_placeInBest 1 := ⟨cd_X0_placeInBest, in_RX0, rfl, ⟨by decide, by decide⟩, by decide +kernel, by decide⟩
abbrev mX11_seen : Mt := (yX11_seen, cX11_seen, 6, (some .int), [])
theorem ok_X11_seen : mOK mX11_seen 3 := ⟨cd_X11_seen, in_RX11, rfl, ⟨by decide, by decide⟩, by decide +kernel, by decide⟩
abbrev mX11_needSeen : Mt := (yX11_needSeen, cX11_needSeen, 9, (some (.object "DegreeLaws$Tray")), [])
theorem ok_X11_needSeen : mOK mX11_needSeen 3 := ⟨cd_X11_needSeen, in_RX11, rfl, ⟨by decide, by decide⟩, by decide +kernel, by decide⟩
abbrev mX11_glass : Mt := (yX11_glass, cX11_glass, 1, (some (.object "DegreeLaws$Thermometer")), [])
theorem ok_X11_glass : mOK mX11_glass 0 := ⟨cd_X11_glass, in_RX11, rfl, ⟨by decide, by decide⟩, by decide +kernel, by decide⟩
abbrev mX8_init : Mt := (yX8_init, cX8_init, 2, none, [])
theorem ok_X8_init : mOK mX8_init 1 := ⟨cd_X8_init, in_RX8, rfl, ⟨by decide, by decide⟩, by decide +kernel, by decide⟩
abbrev mX8_find : Mt := (yX8_find, cX8_find, 5, none, [])
theorem ok_X8_find : mOK mX8_find 3 := ⟨cd_X8_find, in_RX8, rfl, ⟨by decide, by decide⟩, by decide +kernel, by decide⟩
abbrev mX8_fits : Mt := (yX8_fits, cX8_fits, 9, (some .boolean), [])
theorem ok_X8_fits : mOK mX8_fits 4 := ⟨cd_X8_fits, in_RX8, rfl, ⟨by decide, by decide⟩, by decide +kernel, by decide⟩
abbrev mX8_finedBy : Mt := (yX8_finedBy, cX8_finedBy, 5, (some .int), [])
theorem ok_X8_finedBy : mOK mX8_finedBy 4 := ⟨cd_X8_finedBy, in_RX8, rfl, ⟨by decide, by decide⟩, by decide +kernel, by decide⟩
abbrev mX11_breath : Mt := (yX11_breath, cX11_breath, 7, (some .int), [])
theorem ok_X11_breath : mOK mX11_breath 4 := ⟨cd_X11_breath, in_RX11, rfl, ⟨by decide, by decide⟩, by decide +kernel, by decide⟩
abbrev mX11_look : Mt := (yX11_look, cX11_look, 6, (some .int), [])
theorem ok_X11_look : mOK mX11_look 3 := ⟨cd_X11_look, in_RX11, rfl, ⟨by decide, by decide⟩, by decide +kernel, by decide⟩
abbrev mX8_tellingHour : Mt := (yX8_tellingHour, cX8_tellingHour, 10, (some .int), [])
theorem ok_X8_tellingHour : mOK mX8_tellingHour 2 := ⟨cd_X8_tellingHour, in_RX8, rfl, ⟨by decide, by decide⟩, by decide +kernel, by decide⟩
abbrev mX8_mostAlike : Mt := (yX8_mostAlike, cX8_mostAlike, 5, (some .int), [])
theorem ok_X8_mostAlike : mOK mX8_mostAlike 0 := ⟨cd_X8_mostAlike, in_RX8, rfl, ⟨by decide, by decide⟩, by decide +kernel, by decide⟩
abbrev mX11_tray : Mt := (yX11_tray, cX11_tray, 5, none, [])
theorem ok_X11_tray : mOK mX11_tray 3 := ⟨cd_X11_tray, in_RX11, rfl, ⟨by decide, by decide⟩, by decide +kernel, by decide⟩
abbrev mX11_write : Mt := (yX11_write, cX11_write, 6, (some .long), [])
theorem ok_X11_write : mOK mX11_write 3 := ⟨cd_X11_write, in_RX11, rfl, ⟨by decide, by decide⟩, by decide +kernel, by decide⟩
abbrev mX9_cut : Mt := (yX9_cut, cX9_cut, 3, (some .long), [])
theorem ok_X9_cut : mOK mX9_cut 1 := ⟨cd_X9_cut, in_RX9, rfl, ⟨by decide, by decide⟩, by decide +kernel, by decide⟩
abbrev mX11_copy : Mt := (yX11_copy, cX11_copy, 5, (some .int), [])
theorem ok_X11_copy : mOK mX11_copy 2 := ⟨cd_X11_copy, in_RX11, rfl, ⟨by decide, by decide⟩, by decide +kernel, by decide⟩
abbrev mX11_image : Mt := (yX11_image, cX11_image, 3, none, [])
theorem ok_X11_image : mOK mX11_image 1 := ⟨cd_X11_image, in_RX11, rfl, ⟨by decide, by decide⟩, by decide +kernel, by decide⟩
abbrev mX11_needImage : Mt := (yX11_needImage, cX11_needImage, 1, none, [])
theorem ok_X11_needImage : mOK mX11_needImage 1 := ⟨cd_X11_needImage, in_RX11, rfl, ⟨by decide, by decide⟩, by decide +kernel, by decide⟩
abbrev mX1_init : Mt := (yX1_init, cX1_init, 2, none, [])
theorem ok_X1_init : mOK mX1_init 1 := ⟨cd_X1_init, in_RX1, rfl, ⟨by decide, by decide⟩, by decide +kernel, by decide⟩
abbrev mX5_become : Mt := (yX5_become, cX5_become, 2, none, [])
theorem ok_X5_become : mOK mX5_become 1 := ⟨cd_X5_become, in_RX5, rfl, ⟨by decide, by decide⟩, by decide +kernel, by decide⟩
abbrev mX11_restore : Mt := (yX11_restore, cX11_restore, 3, none, [])
theorem ok_X11_restore : mOK mX11_restore 1 := ⟨cd_X11_restore, in_RX11, rfl, ⟨by decide, by decide⟩, by decide +kernel, by decide⟩
abbrev mX12_init : Mt := (yX12_init, cX12_init, 1, none, [])
theorem ok_X12_init : mOK mX12_init 0 := ⟨cd_X12_init, in_RX12, rfl, ⟨by decide, by decide⟩, by decide +kernel, by decide⟩
abbrev mX12_thrown : Mt := (yX12_thrown, cX12_thrown, 1, (some .int), [])
theorem ok_X12_thrown : mOK mX12_thrown 0 := ⟨cd_X12_thrown, in_RX12, rfl, ⟨by decide, by decide⟩, by decide +kernel, by decide⟩
abbrev mX12_feed : Mt := (yX12_feed, cX12_feed, 8, (some .int), [])
theorem ok_X12_feed : mOK mX12_feed 5 := ⟨cd_X12_feed, in_RX12, rfl, ⟨by decide, by decide⟩, by decide +kernel, by decide⟩
abbrev mX12_land : Mt := (yX12_land, cX12_land, 3, (some .int), [])
theorem ok_X12_land : mOK mX12_land 1 := ⟨cd_X12_land, in_RX12, rfl, ⟨by decide, by decide⟩, by decide +kernel, by decide⟩
abbrev mX12_within : Mt := (yX12_within, cX12_within, 6, (some .boolean), [])
theorem ok_X12_within : mOK mX12_within 3 := ⟨cd_X12_within, in_RX12, rfl, ⟨by decide, by decide⟩, by decide +kernel, by decide⟩
abbrev mX12_fails : Mt := (yX12_fails, cX12_fails, 2, (some .int), [])
theorem ok_X12_fails : mOK mX12_fails 1 := ⟨cd_X12_fails, in_RX12, rfl, ⟨by decide, by decide⟩, by decide +kernel, by decide⟩
abbrev mX12_readsOn : Mt := (yX12_readsOn, cX12_readsOn, 2, none, [])
theorem ok_X12_readsOn : mOK mX12_readsOn 0 := ⟨cd_X12_readsOn, in_RX12, rfl, ⟨by decide, by decide⟩, by decide +kernel, by decide⟩
abbrev mX12_isLetter : Mt := (yX12_isLetter, cX12_isLetter, 1, (some .boolean), [])
theorem ok_X12_isLetter : mOK mX12_isLetter 1 := ⟨cd_X12_isLetter, in_RX12, rfl, ⟨by decide, by decide⟩, by decide +kernel, by decide⟩
abbrev mX12_see : Mt := (yX12_see, cX12_see, 2, (some .int), [])
theorem ok_X12_see : mOK mX12_see 1 := ⟨cd_X12_see, in_RX12, rfl, ⟨by decide, by decide⟩, by decide +kernel, by decide⟩
abbrev mX12_isDigit : Mt := (yX12_isDigit, cX12_isDigit, 1, (some .boolean), [])
theorem ok_X12_isDigit : mOK mX12_isDigit 1 := ⟨cd_X12_isDigit, in_RX12, rfl, ⟨by decide, by decide⟩, by decide +kernel, by decide⟩
abbrev mX12_isSignByte : Mt := (yX12_isSignByte, cX12_isSignByte, 2, (some .boolean), [])
theorem ok_X12_isSignByte : mOK mX12_isSignByte 1 := ⟨cd_X12_isSignByte, in_RX12, rfl, ⟨by decide, by decide⟩, by decide +kernel, by decide⟩
abbrev mX12_readLine : Mt := (yX12_readLine, cX12_readLine, 1, none, [])
theorem ok_X12_readLine : mOK mX12_readLine 0 := ⟨cd_X12_readLine, in_RX12, rfl, ⟨by decide, by decide⟩, by decide +kernel, by decide⟩
abbrev mX12_isWord : Mt := (yX12_isWord, cX12_isWord, 4, (some .boolean), [])
theorem ok_X12_isWord : mOK mX12_isWord 1 := ⟨cd_X12_isWord, in_RX12, rfl, ⟨by decide, by decide⟩, by decide +kernel, by decide⟩
abbrev mX12_readWard : Mt := (yX12_readWard, cX12_readWard, 5, none, [])
theorem ok_X12_readWard : mOK mX12_readWard 0 := ⟨cd_X12_readWard, in_RX12, rfl, ⟨by decide, by decide⟩, by decide +kernel, by decide⟩
abbrev mX12_begins : Mt := (yX12_begins, cX12_begins, 3, (some .boolean), [])
theorem ok_X12_begins : mOK mX12_begins 2 := ⟨cd_X12_begins, in_RX12, rfl, ⟨by decide, by decide⟩, by decide +kernel, by decide⟩
abbrev mX12_blames : Mt := (yX12_blames, cX12_blames, 2, none, [])
theorem ok_X12_blames : mOK mX12_blames 1 := ⟨cd_X12_blames, in_RX12, rfl, ⟨by decide, by decide⟩, by decide +kernel, by decide⟩
abbrev mX12_number : Mt := (yX12_number, cX12_number, 4, (some .int), [])
theorem ok_X12_number : mOK mX12_number 2 := ⟨cd_X12_number, in_RX12, rfl, ⟨by decide, by decide⟩, by decide +kernel, by decide⟩
abbrev mX12_took : Mt := (yX12_took, cX12_took, 3, (some .boolean), [])
theorem ok_X12_took : mOK mX12_took 1 := ⟨cd_X12_took, in_RX12, rfl, ⟨by decide, by decide⟩, by decide +kernel, by decide⟩
abbrev mX12_has : Mt := (yX12_has, cX12_has, 2, (some .boolean), [])
theorem ok_X12_has : mOK mX12_has 2 := ⟨cd_X12_has, in_RX12, rfl, ⟨by decide, by decide⟩, by decide +kernel, by decide⟩
abbrev mX12_readAct : Mt := (yX12_readAct, cX12_readAct, 6, none, [])
theorem ok_X12_readAct : mOK mX12_readAct 0 := ⟨cd_X12_readAct, in_RX12, rfl, ⟨by decide, by decide⟩, by decide +kernel, by decide⟩
abbrev mX12_mustWord : Mt := (yX12_mustWord, cX12_mustWord, 2, none, [])
theorem ok_X12_mustWord : mOK mX12_mustWord 1 := ⟨cd_X12_mustWord, in_RX12, rfl, ⟨by decide, by decide⟩, by decide +kernel, by decide⟩
abbrev mX12_beginsLaw : Mt := (yX12_beginsLaw, cX12_beginsLaw, 3, none, [])
theorem ok_X12_beginsLaw : mOK mX12_beginsLaw 2 := ⟨cd_X12_beginsLaw, in_RX12, rfl, ⟨by decide, by decide⟩, by decide +kernel, by decide⟩
abbrev mX12_mustSign : Mt := (yX12_mustSign, cX12_mustSign, 2, none, [])
theorem ok_X12_mustSign : mOK mX12_mustSign 1 := ⟨cd_X12_mustSign, in_RX12, rfl, ⟨by decide, by decide⟩, by decide +kernel, by decide⟩
abbrev mX12_readSum : Mt := (yX12_readSum, cX12_readSum, 2, none, [])
theorem ok_X12_readSum : mOK mX12_readSum 0 := ⟨cd_X12_readSum, in_RX12, rfl, ⟨by decide, by decide⟩, by decide +kernel, by decide⟩
abbrev mX12_readTerm : Mt := (yX12_readTerm, cX12_readTerm, 1, none, [])
theorem ok_X12_readTerm : mOK mX12_readTerm 0 := ⟨cd_X12_readTerm, in_RX12, rfl, ⟨by decide, by decide⟩, by decide +kernel, by decide⟩
abbrev mX12_readAtom : Mt := (yX12_readAtom, cX12_readAtom, 3, none, [])
theorem ok_X12_readAtom : mOK mX12_readAtom 0 := ⟨cd_X12_readAtom, in_RX12, rfl, ⟨by decide, by decide⟩, by decide +kernel, by decide⟩
abbrev mX12_lawWord : Mt := (yX12_lawWord, cX12_lawWord, 1, (some .int), [])
theorem ok_X12_lawWord : mOK mX12_lawWord 0 := ⟨cd_X12_lawWord, in_RX12, rfl, ⟨by decide, by decide⟩, by decide +kernel, by decide⟩
abbrev mX12_degreeWord : Mt := (yX12_degreeWord, cX12_degreeWord, 1, (some .int), [])
theorem ok_X12_degreeWord : mOK mX12_degreeWord 0 := ⟨cd_X12_degreeWord, in_RX12, rfl, ⟨by decide, by decide⟩, by decide +kernel, by decide⟩
abbrev mX12_prevailWord : Mt := (yX12_prevailWord, cX12_prevailWord, 1, (some .int), [])
theorem ok_X12_prevailWord : mOK mX12_prevailWord 0 := ⟨cd_X12_prevailWord, in_RX12, rfl, ⟨by decide, by decide⟩, by decide +kernel, by decide⟩
abbrev mX12_laysStep : Mt := (yX12_laysStep, cX12_laysStep, 2, none, [])
theorem ok_X12_laysStep : mOK mX12_laysStep 1 := ⟨cd_X12_laysStep, in_RX12, rfl, ⟨by decide, by decide⟩, by decide +kernel, by decide⟩
abbrev mX12_isSign : Mt := (yX12_isSign, cX12_isSign, 2, (some .boolean), [])
theorem ok_X12_isSign : mOK mX12_isSign 1 := ⟨cd_X12_isSign, in_RX12, rfl, ⟨by decide, by decide⟩, by decide +kernel, by decide⟩
abbrev mX12_goesIn : Mt := (yX12_goesIn, cX12_goesIn, 1, none, [])
theorem ok_X12_goesIn : mOK mX12_goesIn 0 := ⟨cd_X12_goesIn, in_RX12, rfl, ⟨by decide, by decide⟩, by decide +kernel, by decide⟩
abbrev mX12_readTruth : Mt := (yX12_readTruth, cX12_readTruth, 1, none, [])
theorem ok_X12_readTruth : mOK mX12_readTruth 0 := ⟨cd_X12_readTruth, in_RX12, rfl, ⟨by decide, by decide⟩, by decide +kernel, by decide⟩
abbrev mX12_readBoth : Mt := (yX12_readBoth, cX12_readBoth, 1, none, [])
theorem ok_X12_readBoth : mOK mX12_readBoth 0 := ⟨cd_X12_readBoth, in_RX12, rfl, ⟨by decide, by decide⟩, by decide +kernel, by decide⟩
abbrev mX12_readUnit : Mt := (yX12_readUnit, cX12_readUnit, 2, none, [])
theorem ok_X12_readUnit : mOK mX12_readUnit 0 := ⟨cd_X12_readUnit, in_RX12, rfl, ⟨by decide, by decide⟩, by decide +kernel, by decide⟩
abbrev mX12_readStop : Mt := (yX12_readStop, cX12_readStop, 1, none, [])
theorem ok_X12_readStop : mOK mX12_readStop 0 := ⟨cd_X12_readStop, in_RX12, rfl, ⟨by decide, by decide⟩, by decide +kernel, by decide⟩
abbrev mX12_fault : Mt := (yX12_fault, cX12_fault, 2, (some .int), [])
theorem ok_X12_fault : mOK mX12_fault 1 := ⟨cd_X12_fault, in_RX12, rfl, ⟨by decide, by decide⟩, by decide +kernel, by decide⟩
abbrev mX12_ward : Mt := (yX12_ward, cX12_ward, 3, (some .int), [])
theorem ok_X12_ward : mOK mX12_ward 2 := ⟨cd_X12_ward, in_RX12, rfl, ⟨by decide, by decide⟩, by decide +kernel, by decide⟩
abbrev mX12_isWard : Mt := (yX12_isWard, cX12_isWard, 3, (some .boolean), [])
theorem ok_X12_isWard : mOK mX12_isWard 1 := ⟨cd_X12_isWard, in_RX12, rfl, ⟨by decide, by decide⟩, by decide +kernel, by decide⟩
abbrev mX12_wards : Mt := (yX12_wards, cX12_wards, 1, (some .int), [])
theorem ok_X12_wards : mOK mX12_wards 0 := ⟨cd_X12_wards, in_RX12, rfl, ⟨by decide, by decide⟩, by decide +kernel, by decide⟩
abbrev mX12_laidOn : Mt := (yX12_laidOn, cX12_laidOn, 4, (some .int), [])
theorem ok_X12_laidOn : mOK mX12_laidOn 3 := ⟨cd_X12_laidOn, in_RX12, rfl, ⟨by decide, by decide⟩, by decide +kernel, by decide⟩
abbrev mX12_act : Mt := (yX12_act, cX12_act, 3, (some .int), [])
theorem ok_X12_act : mOK mX12_act 2 := ⟨cd_X12_act, in_RX12, rfl, ⟨by decide, by decide⟩, by decide +kernel, by decide⟩
abbrev mX12_isAct : Mt := (yX12_isAct, cX12_isAct, 3, (some .boolean), [])
theorem ok_X12_isAct : mOK mX12_isAct 1 := ⟨cd_X12_isAct, in_RX12, rfl, ⟨by decide, by decide⟩, by decide +kernel, by decide⟩
abbrev mX12_acts : Mt := (yX12_acts, cX12_acts, 1, (some .int), [])
theorem ok_X12_acts : mOK mX12_acts 0 := ⟨cd_X12_acts, in_RX12, rfl, ⟨by decide, by decide⟩, by decide +kernel, by decide⟩
abbrev mX12_degree : Mt := (yX12_degree, cX12_degree, 3, (some .int), [])
theorem ok_X12_degree : mOK mX12_degree 2 := ⟨cd_X12_degree, in_RX12, rfl, ⟨by decide, by decide⟩, by decide +kernel, by decide⟩
abbrev mX12_degreeIn : Mt := (yX12_degreeIn, cX12_degreeIn, 5, (some .int), [])
theorem ok_X12_degreeIn : mOK mX12_degreeIn 2 := ⟨cd_X12_degreeIn, in_RX12, rfl, ⟨by decide, by decide⟩, by decide +kernel, by decide⟩
abbrev mX12_kept : Mt := (yX12_kept, cX12_kept, 1, (some .int), [])
theorem ok_X12_kept : mOK mX12_kept 1 := ⟨cd_X12_kept, in_RX12, rfl, ⟨by decide, by decide⟩, by decide +kernel, by decide⟩
abbrev mX12_lawOf : Mt := (yX12_lawOf, cX12_lawOf, 6, (some .int), [])
theorem ok_X12_lawOf : mOK mX12_lawOf 2 := ⟨cd_X12_lawOf, in_RX12, rfl, ⟨by decide, by decide⟩, by decide +kernel, by decide⟩
abbrev mX12_doneStep : Mt := (yX12_doneStep, cX12_doneStep, 5, (some .int), [])
theorem ok_X12_doneStep : mOK mX12_doneStep 3 := ⟨cd_X12_doneStep, in_RX12, rfl, ⟨by decide, by decide⟩, by decide +kernel, by decide⟩
abbrev mX12_bound : Mt := (yX12_bound, cX12_bound, 2, (some .int), [])
theorem ok_X12_bound : mOK mX12_bound 1 := ⟨cd_X12_bound, in_RX12, rfl, ⟨by decide, by decide⟩, by decide +kernel, by decide⟩
abbrev mJ9_min_f86c9 : Mt := (yJ9_min_f86c9, cJ9_min_f86c9, 4, (some .long), [])
theorem ok_J9_min_f86c9 : mOK mJ9_min_f86c9 2 := ⟨cd_J9_min_f86c9, in_RJ9, rfl, ⟨by decide, by decide⟩, by decide +kernel, by decide⟩
abbrev mJ9_max_f86c9 : Mt := (yJ9_max_f86c9, cJ9_max_f86c9, 4, (some .long), [])
theorem ok_J9_max_f86c9 : mOK mJ9_max_f86c9 2 := ⟨cd_J9_max_f86c9, in_RJ9, rfl, ⟨by decide, by decide⟩, by decide +kernel, by decide⟩
abbrev mX12_code : Mt := (yX12_code, cX12_code, 3, (some .int), [])
theorem ok_X12_code : mOK mX12_code 2 := ⟨cd_X12_code, in_RX12, rfl, ⟨by decide, by decide⟩, by decide +kernel, by decide⟩
abbrev mX12_codeIn : Mt := (yX12_codeIn, cX12_codeIn, 3, (some .int), [])
theorem ok_X12_codeIn : mOK mX12_codeIn 2 := ⟨cd_X12_codeIn, in_RX12, rfl, ⟨by decide, by decide⟩, by decide +kernel, by decide⟩
abbrev mX12_allActs : Mt := (yX12_allActs, cX12_allActs, 1, (some .int), [])
theorem ok_X12_allActs : mOK mX12_allActs 0 := ⟨cd_X12_allActs, in_RX12, rfl, ⟨by decide, by decide⟩, by decide +kernel, by decide⟩
abbrev mX12_codeAt : Mt := (yX12_codeAt, cX12_codeAt, 7, (some .int), [])
theorem ok_X12_codeAt : mOK mX12_codeAt 4 := ⟨cd_X12_codeAt, in_RX12, rfl, ⟨by decide, by decide⟩, by decide +kernel, by decide⟩
abbrev mX12_speaks : Mt := (yX12_speaks, cX12_speaks, 4, (some .boolean), [])
theorem ok_X12_speaks : mOK mX12_speaks 3 := ⟨cd_X12_speaks, in_RX12, rfl, ⟨by decide, by decide⟩, by decide +kernel, by decide⟩
abbrev mX12_speaking : Mt := (yX12_speaking, cX12_speaking, 6, (some .int), [])
theorem ok_X12_speaking : mOK mX12_speaking 3 := ⟨cd_X12_speaking, in_RX12, rfl, ⟨by decide, by decide⟩, by decide +kernel, by decide⟩
abbrev mX12_prevails : Mt := (yX12_prevails, cX12_prevails, 5, (some .boolean), [])
theorem ok_X12_prevails : mOK mX12_prevails 4 := ⟨cd_X12_prevails, in_RX12, rfl, ⟨by decide, by decide⟩, by decide +kernel, by decide⟩
abbrev mX12_fine : Mt := (yX12_fine, cX12_fine, 5, (some .int), [])
theorem ok_X12_fine : mOK mX12_fine 4 := ⟨cd_X12_fine, in_RX12, rfl, ⟨by decide, by decide⟩, by decide +kernel, by decide⟩
abbrev mX12_isDeedOut : Mt := (yX12_isDeedOut, cX12_isDeedOut, 5, (some .boolean), [])
theorem ok_X12_isDeedOut : mOK mX12_isDeedOut 4 := ⟨cd_X12_isDeedOut, in_RX12, rfl, ⟨by decide, by decide⟩, by decide +kernel, by decide⟩
abbrev mX12_isKind : Mt := (yX12_isKind, cX12_isKind, 1, (some .boolean), [])
theorem ok_X12_isKind : mOK mX12_isKind 1 := ⟨cd_X12_isKind, in_RX12, rfl, ⟨by decide, by decide⟩, by decide +kernel, by decide⟩
abbrev mX12_isLong : Mt := (yX12_isLong, cX12_isLong, 1, (some .boolean), [])
theorem ok_X12_isLong : mOK mX12_isLong 1 := ⟨cd_X12_isLong, in_RX12, rfl, ⟨by decide, by decide⟩, by decide +kernel, by decide⟩
abbrev mX12_laysHours : Mt := (yX12_laysHours, cX12_laysHours, 5, none, [])
theorem ok_X12_laysHours : mOK mX12_laysHours 4 := ⟨cd_X12_laysHours, in_RX12, rfl, ⟨by decide, by decide⟩, by decide +kernel, by decide⟩
abbrev mX12_laysCodes : Mt := (yX12_laysCodes, cX12_laysCodes, 5, none, [])
theorem ok_X12_laysCodes : mOK mX12_laysCodes 2 := ⟨cd_X12_laysCodes, in_RX12, rfl, ⟨by decide, by decide⟩, by decide +kernel, by decide⟩
abbrev mX12_laysDegrees : Mt := (yX12_laysDegrees, cX12_laysDegrees, 5, none, [])
theorem ok_X12_laysDegrees : mOK mX12_laysDegrees 3 := ⟨cd_X12_laysDegrees, in_RX12, rfl, ⟨by decide, by decide⟩, by decide +kernel, by decide⟩
abbrev mX12_laysRow : Mt := (yX12_laysRow, cX12_laysRow, 9, none, [])
theorem ok_X12_laysRow : mOK mX12_laysRow 5 := ⟨cd_X12_laysRow, in_RX12, rfl, ⟨by decide, by decide⟩, by decide +kernel, by decide⟩
abbrev mX12_ofKind : Mt := (yX12_ofKind, cX12_ofKind, 4, (some .int), [])
theorem ok_X12_ofKind : mOK mX12_ofKind 1 := ⟨cd_X12_ofKind, in_RX12, rfl, ⟨by decide, by decide⟩, by decide +kernel, by decide⟩
abbrev mX12_finesOf : Mt := (yX12_finesOf, cX12_finesOf, 4, (some .int), [])
theorem ok_X12_finesOf : mOK mX12_finesOf 1 := ⟨cd_X12_finesOf, in_RX12, rfl, ⟨by decide, by decide⟩, by decide +kernel, by decide⟩
abbrev mX12_fineOf : Mt := (yX12_fineOf, cX12_fineOf, 6, (some .int), [])
theorem ok_X12_fineOf : mOK mX12_fineOf 3 := ⟨cd_X12_fineOf, in_RX12, rfl, ⟨by decide, by decide⟩, by decide +kernel, by decide⟩
abbrev mX12_lawful : Mt := (yX12_lawful, cX12_lawful, 5, (some .boolean), [])
theorem ok_X12_lawful : mOK mX12_lawful 4 := ⟨cd_X12_lawful, in_RX12, rfl, ⟨by decide, by decide⟩, by decide +kernel, by decide⟩
abbrev mX12_isLawful : Mt := (yX12_isLawful, cX12_isLawful, 5, (some .boolean), [])
theorem ok_X12_isLawful : mOK mX12_isLawful 3 := ⟨cd_X12_isLawful, in_RX12, rfl, ⟨by decide, by decide⟩, by decide +kernel, by decide⟩
abbrev mX12_fire : Mt := (yX12_fire, cX12_fire, 4, (some .int), [])
theorem ok_X12_fire : mOK mX12_fire 3 := ⟨cd_X12_fire, in_RX12, rfl, ⟨by decide, by decide⟩, by decide +kernel, by decide⟩
abbrev mX12_lays : Mt := (yX12_lays, cX12_lays, 5, (some .int), [])
theorem ok_X12_lays : mOK mX12_lays 4 := ⟨cd_X12_lays, in_RX12, rfl, ⟨by decide, by decide⟩, by decide +kernel, by decide⟩
abbrev mX12_keeps : Mt := (yX12_keeps, cX12_keeps, 2, none, [])
theorem ok_X12_keeps : mOK mX12_keeps 0 := ⟨cd_X12_keeps, in_RX12, rfl, ⟨by decide, by decide⟩, by decide +kernel, by decide⟩
abbrev mX12_laysOn : Mt := (yX12_laysOn, cX12_laysOn, 5, none, [])
theorem ok_X12_laysOn : mOK mX12_laysOn 4 := ⟨cd_X12_laysOn, in_RX12, rfl, ⟨by decide, by decide⟩, by decide +kernel, by decide⟩
abbrev mX12_ice : Mt := (yX12_ice, cX12_ice, 4, (some .int), [])
theorem ok_X12_ice : mOK mX12_ice 3 := ⟨cd_X12_ice, in_RX12, rfl, ⟨by decide, by decide⟩, by decide +kernel, by decide⟩
abbrev mX12_amend : Mt := (yX12_amend, cX12_amend, 6, (some .int), [])
theorem ok_X12_amend : mOK mX12_amend 3 := ⟨cd_X12_amend, in_RX12, rfl, ⟨by decide, by decide⟩, by decide +kernel, by decide⟩
abbrev mX12_repeal : Mt := (yX12_repeal, cX12_repeal, 2, (some .int), [])
theorem ok_X12_repeal : mOK mX12_repeal 1 := ⟨cd_X12_repeal, in_RX12, rfl, ⟨by decide, by decide⟩, by decide +kernel, by decide⟩
abbrev mX12_size : Mt := (yX12_size, cX12_size, 3, (some .int), [])
theorem ok_X12_size : mOK mX12_size 1 := ⟨cd_X12_size, in_RX12, rfl, ⟨by decide, by decide⟩, by decide +kernel, by decide⟩
abbrev mX12_hours : Mt := (yX12_hours, cX12_hours, 2, (some .int), [])
theorem ok_X12_hours : mOK mX12_hours 1 := ⟨cd_X12_hours, in_RX12, rfl, ⟨by decide, by decide⟩, by decide +kernel, by decide⟩
abbrev mX12_done : Mt := (yX12_done, cX12_done, 4, (some .int), [])
theorem ok_X12_done : mOK mX12_done 3 := ⟨cd_X12_done, in_RX12, rfl, ⟨by decide, by decide⟩, by decide +kernel, by decide⟩
abbrev mX12_doesDeed : Mt := (yX12_doesDeed, cX12_doesDeed, 5, (some .int), [])
theorem ok_X12_doesDeed : mOK mX12_doesDeed 3 := ⟨cd_X12_doesDeed, in_RX12, rfl, ⟨by decide, by decide⟩, by decide +kernel, by decide⟩
abbrev mX12_undo : Mt := (yX12_undo, cX12_undo, 3, (some .int), [])
theorem ok_X12_undo : mOK mX12_undo 1 := ⟨cd_X12_undo, in_RX12, rfl, ⟨by decide, by decide⟩, by decide +kernel, by decide⟩
abbrev mX12_judge : Mt := (yX12_judge, cX12_judge, 7, (some .int), [])
theorem ok_X12_judge : mOK mX12_judge 2 := ⟨cd_X12_judge, in_RX12, rfl, ⟨by decide, by decide⟩, by decide +kernel, by decide⟩
abbrev mX12_trayFault : Mt := (yX12_trayFault, cX12_trayFault, 2, (some .int), [])
theorem ok_X12_trayFault : mOK mX12_trayFault 1 := ⟨cd_X12_trayFault, in_RX12, rfl, ⟨by decide, by decide⟩, by decide +kernel, by decide⟩
abbrev mX12_isTray : Mt := (yX12_isTray, cX12_isTray, 1, (some .boolean), [])
theorem ok_X12_isTray : mOK mX12_isTray 1 := ⟨cd_X12_isTray, in_RX12, rfl, ⟨by decide, by decide⟩, by decide +kernel, by decide⟩
abbrev mX12_putsAside : Mt := (yX12_putsAside, cX12_putsAside, 2, none, [])
theorem ok_X12_putsAside : mOK mX12_putsAside 0 := ⟨cd_X12_putsAside, in_RX12, rfl, ⟨by decide, by decide⟩, by decide +kernel, by decide⟩
abbrev mX12_whyTold : Mt := (yX12_whyTold, cX12_whyTold, 3, (some .int), [])
theorem ok_X12_whyTold : mOK mX12_whyTold 1 := ⟨cd_X12_whyTold, in_RX12, rfl, ⟨by decide, by decide⟩, by decide +kernel, by decide⟩
abbrev mX12_does : Mt := (yX12_does, cX12_does, 2, none, [])
theorem ok_X12_does : mOK mX12_does 1 := ⟨cd_X12_does, in_RX12, rfl, ⟨by decide, by decide⟩, by decide +kernel, by decide⟩
abbrev mX12_putsBack : Mt := (yX12_putsBack, cX12_putsBack, 2, none, [])
theorem ok_X12_putsBack : mOK mX12_putsBack 0 := ⟨cd_X12_putsBack, in_RX12, rfl, ⟨by decide, by decide⟩, by decide +kernel, by decide⟩
abbrev mX12_perform : Mt := (yX12_perform, cX12_perform, 3, (some .int), [])
theorem ok_X12_perform : mOK mX12_perform 1 := ⟨cd_X12_perform, in_RX12, rfl, ⟨by decide, by decide⟩, by decide +kernel, by decide⟩
abbrev mX12_season : Mt := (yX12_season, cX12_season, 7, (some .int), [])
theorem ok_X12_season : mOK mX12_season 2 := ⟨cd_X12_season, in_RX12, rfl, ⟨by decide, by decide⟩, by decide +kernel, by decide⟩
abbrev mX12_draw : Mt := (yX12_draw, cX12_draw, 2, (some .int), [])
theorem ok_X12_draw : mOK mX12_draw 1 := ⟨cd_X12_draw, in_RX12, rfl, ⟨by decide, by decide⟩, by decide +kernel, by decide⟩
abbrev mX12_soonest : Mt := (yX12_soonest, cX12_soonest, 4, (some .int), [])
theorem ok_X12_soonest : mOK mX12_soonest 3 := ⟨cd_X12_soonest, in_RX12, rfl, ⟨by decide, by decide⟩, by decide +kernel, by decide⟩
abbrev mX12_soonestOf : Mt := (yX12_soonestOf, cX12_soonestOf, 4, (some .int), [])
theorem ok_X12_soonestOf : mOK mX12_soonestOf 3 := ⟨cd_X12_soonestOf, in_RX12, rfl, ⟨by decide, by decide⟩, by decide +kernel, by decide⟩
abbrev mX12_firstLawful : Mt := (yX12_firstLawful, cX12_firstLawful, 5, (some .int), [])
theorem ok_X12_firstLawful : mOK mX12_firstLawful 3 := ⟨cd_X12_firstLawful, in_RX12, rfl, ⟨by decide, by decide⟩, by decide +kernel, by decide⟩
abbrev mX12_where : Mt := (yX12_where, cX12_where, 7, (some .int), [])
theorem ok_X12_where : mOK mX12_where 2 := ⟨cd_X12_where, in_RX12, rfl, ⟨by decide, by decide⟩, by decide +kernel, by decide⟩
abbrev mX12_cheapest : Mt := (yX12_cheapest, cX12_cheapest, 6, (some .int), [])
theorem ok_X12_cheapest : mOK mX12_cheapest 3 := ⟨cd_X12_cheapest, in_RX12, rfl, ⟨by decide, by decide⟩, by decide +kernel, by decide⟩
abbrev mX12_freeHours : Mt := (yX12_freeHours, cX12_freeHours, 6, (some .int), [])
theorem ok_X12_freeHours : mOK mX12_freeHours 3 := ⟨cd_X12_freeHours, in_RX12, rfl, ⟨by decide, by decide⟩, by decide +kernel, by decide⟩
abbrev mX12_spell : Mt := (yX12_spell, cX12_spell, 9, (some .int), [])
theorem ok_X12_spell : mOK mX12_spell 4 := ⟨cd_X12_spell, in_RX12, rfl, ⟨by decide, by decide⟩, by decide +kernel, by decide⟩
abbrev mX12_lawless : Mt := (yX12_lawless, cX12_lawless, 3, (some .int), [])
theorem ok_X12_lawless : mOK mX12_lawless 1 := ⟨cd_X12_lawless, in_RX12, rfl, ⟨by decide, by decide⟩, by decide +kernel, by decide⟩
abbrev mX12_alwaysBarred : Mt := (yX12_alwaysBarred, cX12_alwaysBarred, 4, (some .int), [])
theorem ok_X12_alwaysBarred : mOK mX12_alwaysBarred 0 := ⟨cd_X12_alwaysBarred, in_RX12, rfl, ⟨by decide, by decide⟩, by decide +kernel, by decide⟩
abbrev mX12_barredHours : Mt := (yX12_barredHours, cX12_barredHours, 3, (some .int), [])
theorem ok_X12_barredHours : mOK mX12_barredHours 0 := ⟨cd_X12_barredHours, in_RX12, rfl, ⟨by decide, by decide⟩, by decide +kernel, by decide⟩
abbrev mX12_strictest : Mt := (yX12_strictest, cX12_strictest, 3, (some .int), [])
theorem ok_X12_strictest : mOK mX12_strictest 0 := ⟨cd_X12_strictest, in_RX12, rfl, ⟨by decide, by decide⟩, by decide +kernel, by decide⟩
abbrev mX12_heat : Mt := (yX12_heat, cX12_heat, 5, (some .int), [])
theorem ok_X12_heat : mOK mX12_heat 4 := ⟨cd_X12_heat, in_RX12, rfl, ⟨by decide, by decide⟩, by decide +kernel, by decide⟩
abbrev mX12_heatOf : Mt := (yX12_heatOf, cX12_heatOf, 5, (some .int), [])
theorem ok_X12_heatOf : mOK mX12_heatOf 3 := ⟨cd_X12_heatOf, in_RX12, rfl, ⟨by decide, by decide⟩, by decide +kernel, by decide⟩
abbrev mX12_isLawfulBy : Mt := (yX12_isLawfulBy, cX12_isLawfulBy, 7, (some .boolean), [])
theorem ok_X12_isLawfulBy : mOK mX12_isLawfulBy 4 := ⟨cd_X12_isLawfulBy, in_RX12, rfl, ⟨by decide, by decide⟩, by decide +kernel, by decide⟩
abbrev mX12_leastHeat : Mt := (yX12_leastHeat, cX12_leastHeat, 8, (some .int), [])
theorem ok_X12_leastHeat : mOK mX12_leastHeat 3 := ⟨cd_X12_leastHeat, in_RX12, rfl, ⟨by decide, by decide⟩, by decide +kernel, by decide⟩
abbrev mJ9_abs_0f7a4 : Mt := (yJ9_abs_0f7a4, cJ9_abs_0f7a4, 1, (some .int), [])
theorem ok_J9_abs_0f7a4 : mOK mJ9_abs_0f7a4 1 := ⟨cd_J9_abs_0f7a4, in_RJ9, rfl, ⟨by decide, by decide⟩, by decide +kernel, by decide⟩
abbrev mX12_cover : Mt := (yX12_cover, cX12_cover, 7, (some .int), [])
theorem ok_X12_cover : mOK mX12_cover 3 := ⟨cd_X12_cover, in_RX12, rfl, ⟨by decide, by decide⟩, by decide +kernel, by decide⟩
abbrev mX12_isCovered : Mt := (yX12_isCovered, cX12_isCovered, 4, (some .boolean), [])
theorem ok_X12_isCovered : mOK mX12_isCovered 2 := ⟨cd_X12_isCovered, in_RX12, rfl, ⟨by decide, by decide⟩, by decide +kernel, by decide⟩
abbrev mX12_widen : Mt := (yX12_widen, cX12_widen, 6, (some .int), [])
theorem ok_X12_widen : mOK mX12_widen 2 := ⟨cd_X12_widen, in_RX12, rfl, ⟨by decide, by decide⟩, by decide +kernel, by decide⟩
abbrev mX12_heaviest : Mt := (yX12_heaviest, cX12_heaviest, 6, (some .int), [])
theorem ok_X12_heaviest : mOK mX12_heaviest 1 := ⟨cd_X12_heaviest, in_RX12, rfl, ⟨by decide, by decide⟩, by decide +kernel, by decide⟩
abbrev mX12_barredBy : Mt := (yX12_barredBy, cX12_barredBy, 7, (some .int), [])
theorem ok_X12_barredBy : mOK mX12_barredBy 3 := ⟨cd_X12_barredBy, in_RX12, rfl, ⟨by decide, by decide⟩, by decide +kernel, by decide⟩
abbrev mX12_freeWay : Mt := (yX12_freeWay, cX12_freeWay, 4, (some .int), [])
theorem ok_X12_freeWay : mOK mX12_freeWay 3 := ⟨cd_X12_freeWay, in_RX12, rfl, ⟨by decide, by decide⟩, by decide +kernel, by decide⟩
abbrev mX12_isWayOut : Mt := (yX12_isWayOut, cX12_isWayOut, 4, (some .boolean), [])
theorem ok_X12_isWayOut : mOK mX12_isWayOut 3 := ⟨cd_X12_isWayOut, in_RX12, rfl, ⟨by decide, by decide⟩, by decide +kernel, by decide⟩
abbrev mX12_laysWays : Mt := (yX12_laysWays, cX12_laysWays, 4, none, [])
theorem ok_X12_laysWays : mOK mX12_laysWays 1 := ⟨cd_X12_laysWays, in_RX12, rfl, ⟨by decide, by decide⟩, by decide +kernel, by decide⟩
abbrev mX12_laysFree : Mt := (yX12_laysFree, cX12_laysFree, 6, (some .int), [])
theorem ok_X12_laysFree : mOK mX12_laysFree 3 := ⟨cd_X12_laysFree, in_RX12, rfl, ⟨by decide, by decide⟩, by decide +kernel, by decide⟩
abbrev mX12_freeIn : Mt := (yX12_freeIn, cX12_freeIn, 4, (some .int), [])
theorem ok_X12_freeIn : mOK mX12_freeIn 1 := ⟨cd_X12_freeIn, in_RX12, rfl, ⟨by decide, by decide⟩, by decide +kernel, by decide⟩
abbrev mX12_nextTo : Mt := (yX12_nextTo, cX12_nextTo, 4, (some .int), [])
theorem ok_X12_nextTo : mOK mX12_nextTo 1 := ⟨cd_X12_nextTo, in_RX12, rfl, ⟨by decide, by decide⟩, by decide +kernel, by decide⟩
abbrev mX12_freeAt : Mt := (yX12_freeAt, cX12_freeAt, 8, (some .int), [])
theorem ok_X12_freeAt : mOK mX12_freeAt 4 := ⟨cd_X12_freeAt, in_RX12, rfl, ⟨by decide, by decide⟩, by decide +kernel, by decide⟩
abbrev mX12_firstOf : Mt := (yX12_firstOf, cX12_firstOf, 2, (some .int), [])
theorem ok_X12_firstOf : mOK mX12_firstOf 1 := ⟨cd_X12_firstOf, in_RX12, rfl, ⟨by decide, by decide⟩, by decide +kernel, by decide⟩
abbrev mX12_wayFine : Mt := (yX12_wayFine, cX12_wayFine, 7, (some .int), [])
theorem ok_X12_wayFine : mOK mX12_wayFine 4 := ⟨cd_X12_wayFine, in_RX12, rfl, ⟨by decide, by decide⟩, by decide +kernel, by decide⟩
abbrev mX12_leastBeside : Mt := (yX12_leastBeside, cX12_leastBeside, 4, (some .int), [])
theorem ok_X12_leastBeside : mOK mX12_leastBeside 1 := ⟨cd_X12_leastBeside, in_RX12, rfl, ⟨by decide, by decide⟩, by decide +kernel, by decide⟩
abbrev mX12_freeWays : Mt := (yX12_freeWays, cX12_freeWays, 7, (some .long), [])
theorem ok_X12_freeWays : mOK mX12_freeWays 4 := ⟨cd_X12_freeWays, in_RX12, rfl, ⟨by decide, by decide⟩, by decide +kernel, by decide⟩
abbrev mX12_manyBeside : Mt := (yX12_manyBeside, cX12_manyBeside, 5, (some .long), [])
theorem ok_X12_manyBeside : mOK mX12_manyBeside 1 := ⟨cd_X12_manyBeside, in_RX12, rfl, ⟨by decide, by decide⟩, by decide +kernel, by decide⟩
abbrev mX12_guard : Mt := (yX12_guard, cX12_guard, 9, (some .int), [])
theorem ok_X12_guard : mOK mX12_guard 3 := ⟨cd_X12_guard, in_RX12, rfl, ⟨by decide, by decide⟩, by decide +kernel, by decide⟩
abbrev mX12_errands : Mt := (yX12_errands, cX12_errands, 4, (some .int), [])
theorem ok_X12_errands : mOK mX12_errands 1 := ⟨cd_X12_errands, in_RX12, rfl, ⟨by decide, by decide⟩, by decide +kernel, by decide⟩
abbrev mX12_errandsFault : Mt := (yX12_errandsFault, cX12_errandsFault, 7, (some .int), [])
theorem ok_X12_errandsFault : mOK mX12_errandsFault 1 := ⟨cd_X12_errandsFault, in_RX12, rfl, ⟨by decide, by decide⟩, by decide +kernel, by decide⟩
abbrev mX12_laysErrands : Mt := (yX12_laysErrands, cX12_laysErrands, 3, none, [])
theorem ok_X12_laysErrands : mOK mX12_laysErrands 1 := ⟨cd_X12_laysErrands, in_RX12, rfl, ⟨by decide, by decide⟩, by decide +kernel, by decide⟩
abbrev mX12_told : Mt := (yX12_told, cX12_told, 3, (some .int), [])
theorem ok_X12_told : mOK mX12_told 2 := ⟨cd_X12_told, in_RX12, rfl, ⟨by decide, by decide⟩, by decide +kernel, by decide⟩
abbrev mX12_doneBy : Mt := (yX12_doneBy, cX12_doneBy, 6, (some .int), [])
theorem ok_X12_doneBy : mOK mX12_doneBy 3 := ⟨cd_X12_doneBy, in_RX12, rfl, ⟨by decide, by decide⟩, by decide +kernel, by decide⟩
abbrev mX12_bestOrder : Mt := (yX12_bestOrder, cX12_bestOrder, 3, (some .int), [])
theorem ok_X12_bestOrder : mOK mX12_bestOrder 2 := ⟨cd_X12_bestOrder, in_RX12, rfl, ⟨by decide, by decide⟩, by decide +kernel, by decide⟩
abbrev mX12_goesOrders : Mt := (yX12_goesOrders, cX12_goesOrders, 7, none, [])
theorem ok_X12_goesOrders : mOK mX12_goesOrders 4 := ⟨cd_X12_goesOrders, in_RX12, rfl, ⟨by decide, by decide⟩, by decide +kernel, by decide⟩
abbrev mX12_seen : Mt := (yX12_seen, cX12_seen, 4, (some .int), [])
theorem ok_X12_seen : mOK mX12_seen 3 := ⟨cd_X12_seen, in_RX12, rfl, ⟨by decide, by decide⟩, by decide +kernel, by decide⟩
abbrev mX12_seenFault : Mt := (yX12_seenFault, cX12_seenFault, 6, (some .int), [])
theorem ok_X12_seenFault : mOK mX12_seenFault 3 := ⟨cd_X12_seenFault, in_RX12, rfl, ⟨by decide, by decide⟩, by decide +kernel, by decide⟩
abbrev mX12_laysBreaths : Mt := (yX12_laysBreaths, cX12_laysBreaths, 8, none, [])
theorem ok_X12_laysBreaths : mOK mX12_laysBreaths 3 := ⟨cd_X12_laysBreaths, in_RX12, rfl, ⟨by decide, by decide⟩, by decide +kernel, by decide⟩
abbrev mX12_breath : Mt := (yX12_breath, cX12_breath, 5, (some .int), [])
theorem ok_X12_breath : mOK mX12_breath 4 := ⟨cd_X12_breath, in_RX12, rfl, ⟨by decide, by decide⟩, by decide +kernel, by decide⟩
abbrev mX12_look : Mt := (yX12_look, cX12_look, 8, (some .int), [])
theorem ok_X12_look : mOK mX12_look 3 := ⟨cd_X12_look, in_RX12, rfl, ⟨by decide, by decide⟩, by decide +kernel, by decide⟩
abbrev mX12_mostLike : Mt := (yX12_mostLike, cX12_mostLike, 7, (some .int), [])
theorem ok_X12_mostLike : mOK mX12_mostLike 2 := ⟨cd_X12_mostLike, in_RX12, rfl, ⟨by decide, by decide⟩, by decide +kernel, by decide⟩
abbrev mX12_tray : Mt := (yX12_tray, cX12_tray, 5, none, [])
theorem ok_X12_tray : mOK mX12_tray 3 := ⟨cd_X12_tray, in_RX12, rfl, ⟨by decide, by decide⟩, by decide +kernel, by decide⟩
abbrev mX12_write : Mt := (yX12_write, cX12_write, 5, (some .long), [])
theorem ok_X12_write : mOK mX12_write 3 := ⟨cd_X12_write, in_RX12, rfl, ⟨by decide, by decide⟩, by decide +kernel, by decide⟩
abbrev mX12_cut : Mt := (yX12_cut, cX12_cut, 6, (some .long), [])
theorem ok_X12_cut : mOK mX12_cut 3 := ⟨cd_X12_cut, in_RX12, rfl, ⟨by decide, by decide⟩, by decide +kernel, by decide⟩
abbrev mX12_copy : Mt := (yX12_copy, cX12_copy, 4, (some .int), [])
theorem ok_X12_copy : mOK mX12_copy 2 := ⟨cd_X12_copy, in_RX12, rfl, ⟨by decide, by decide⟩, by decide +kernel, by decide⟩
abbrev mX12_image : Mt := (yX12_image, cX12_image, 3, none, [])
theorem ok_X12_image : mOK mX12_image 1 := ⟨cd_X12_image, in_RX12, rfl, ⟨by decide, by decide⟩, by decide +kernel, by decide⟩
abbrev mX12_restore : Mt := (yX12_restore, cX12_restore, 3, none, [])
theorem ok_X12_restore : mOK mX12_restore 1 := ⟨cd_X12_restore, in_RX12, rfl, ⟨by decide, by decide⟩, by decide +kernel, by decide⟩
abbrev mX12_count : Mt := (yX12_count, cX12_count, 2, (some .int), [])
theorem ok_X12_count : mOK mX12_count 1 := ⟨cd_X12_count, in_RX12, rfl, ⟨by decide, by decide⟩, by decide +kernel, by decide⟩
