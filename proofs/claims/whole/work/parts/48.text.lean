/-! texts: their length, their letters -/
/-- the arrays behind the texts have names too -/
def GT (G : Gh) : Prop := ∀ i, i < 35 → G.2.2.2.1 (2000 + i) = G.2.2.2.2.1 i
def tx (i : Nat) : List Int32 := stB.getD i []
theorem fl_RJ0_1053 : Cond.fieldLink RJ0 1053 "jdk/internal/util/Preconditions" "SIOOBE_FORMATTER" "Ljava/util/function/BiFunction;" ∈ TW := List.mem_filter.mpr ⟨tt_3 (List.mem_of_getElem? (i := 19) rfl), rfl⟩
theorem fl_RJ0_15 : Cond.fieldLink RJ0 15 "java/lang/String" "coder" "B" ∈ TW := List.mem_filter.mpr ⟨tt_10 (List.mem_of_getElem? (i := 75) rfl), rfl⟩
theorem fl_RJ0_38 : Cond.fieldLink RJ0 38 "java/lang/String" "COMPACT_STRINGS" "Z" ∈ TW := List.mem_filter.mpr ⟨tt_3 (List.mem_of_getElem? (i := 3) rfl), rfl⟩
theorem fl_RJ0_9 : Cond.fieldLink RJ0 9 "java/lang/String" "value" "[B" ∈ TW := List.mem_filter.mpr ⟨tt_10 (List.mem_of_getElem? (i := 74) rfl), rfl⟩
section A
variable {l : Launch} {G : Gh} {k mc ms : Nat} {M : Mt} {Q : Res → Mem → Prop} {pc q : Nat} {L : List (Option Value)} {st : List Value} {μ : Mem} {cb sb : Nat}
theorem wp_sgetV {i ix : Nat} (hT : GT G) (hi : i < 35) (hd : decode M.2.1 pc = .ok (.getfield ix, 3)) (hq : pc + 3 = q) (hlk : Cond.fieldLink M.1.cls ix "java/lang/String" "value" "[B" ∈ TW) (h : WP l G k mc ms M Q q L (.retAddr (2000 + i) :: st) μ cb sb) : WP l G k mc ms M Q pc L (.retAddr i :: st) μ cb sb := by
  subst hq
  intro p e s m args below meth c H locs cells slots ls C hR hS hl h1 h2
  have hE := (C.2.2.2.2.2.2.2.2.1.2.2.2.2.2.2.2.2.1.1 i hi).2.2.1
  have hh := h p e s m args below meth c H locs cells slots ls C hR hS hl h1 h2
  rw [List.map_cons, show cv G (.retAddr (2000 + i)) = .ref (G.2.2.2.2.1 i) from congrArg Value.ref (hT i hi)] at hh
  exact vk_getf C.1 C.2.1 hE hS C.2.2.2.2.1 (C.2.2.2.2.2.1 _ hlk) (fun _ h => h) hd hh
theorem wp_sgetC {i ix : Nat} (hi : i < 35) (hd : decode M.2.1 pc = .ok (.getfield ix, 3)) (hq : pc + 3 = q) (hlk : Cond.fieldLink M.1.cls ix "java/lang/String" "coder" "B" ∈ TW) (h : WP l G k mc ms M Q q L (.int 0 :: st) μ cb sb) : WP l G k mc ms M Q pc L (.retAddr i :: st) μ cb sb := by
  subst hq
  intro p e s m args below meth c H locs cells slots ls C hR hS hl h1 h2
  have hE := (C.2.2.2.2.2.2.2.2.1.2.2.2.2.2.2.2.2.1.1 i hi).2.1
  exact vk_getf C.1 C.2.1 hE hS C.2.2.2.2.1 (C.2.2.2.2.2.1 _ hlk) (fun _ h => h) hd (h p e s m args below meth c H locs cells slots ls C hR hS hl h1 h2)
theorem wp_getCS {ix : Nat} (hd : decode M.2.1 pc = .ok (.getstatic ix, 3)) (hq : pc + 3 = q) (hlk : Cond.fieldLink M.1.cls ix "java/lang/String" "COMPACT_STRINGS" "Z" ∈ TW) (h : WP l G k mc ms M Q q L (.int 1 :: st) μ cb sb) : WP l G k mc ms M Q pc L st μ cb sb := by
  subst hq
  intro p e s m args below meth c H locs cells slots ls C hR hS hl h1 h2
  exact va_gets C.1 C.2.1 C.2.2.2.2.2.2.2.2.1.2.2.2.2.2.2.2.2.2.1.1 hS C.2.2.2.2.1 (C.2.2.2.2.2.1 _ hlk) (fun _ h => h) hd (h p e s m args below meth c H locs cells slots ls C hR hS hl h1 h2)
theorem wp_getSF {ix : Nat} (hd : decode M.2.1 pc = .ok (.getstatic ix, 3)) (hq : pc + 3 = q) (hlk : Cond.fieldLink M.1.cls ix "jdk/internal/util/Preconditions" "SIOOBE_FORMATTER" "Ljava/util/function/BiFunction;" ∈ TW) (h : ∀ v : Value, (v = .null ∨ v = .retAddr 1001) → WP l G k mc ms M Q q L (v :: st) μ cb sb) : WP l G k mc ms M Q pc L st μ cb sb := by
  subst hq
  intro p e s m args below meth c H locs cells slots ls C hR hS hl h1 h2
  rcases C.2.2.2.2.2.2.2.2.1.2.2.2.2.2.2.2.2.2.1.2 with hz | hz
  · exact va_gets C.1 C.2.1 hz hS C.2.2.2.2.1 (C.2.2.2.2.2.1 _ hlk) (fun _ h => h) hd (h .null (Or.inl rfl) p e s m args below meth c H locs cells slots ls C hR hS hl h1 h2)
  · exact va_gets C.1 C.2.1 hz hS C.2.2.2.2.1 (C.2.2.2.2.2.1 _ hlk) (fun _ h => h) hd (h (.retAddr 1001) (Or.inr rfl) p e s m args below meth c H locs cells slots ls C hR hS hl h1 h2)
theorem tx_len {i : Nat} : (stB.map List.length).getD i 0 = (tx i).length := by
  unfold tx
  rw [List.getD_eq_getElem?_getD, List.getD_eq_getElem?_getD, List.getElem?_map]
  cases stB[i]? <;> rfl
theorem wp_slen {i : Nat} (hT : GT G) (hi : i < 35) (hd : decode M.2.1 pc = .ok (.arraylength, 1)) (hq : pc + 1 = q) (h : WP l G k mc ms M Q q L (.int (nI (tx i).length) :: st) μ cb sb) : WP l G k mc ms M Q pc L (.retAddr (2000 + i) :: st) μ cb sb := by
  subst hq
  intro p e s m args below meth c H locs cells slots ls C hR hS hl h1 h2
  have hE := (C.2.2.2.2.2.2.2.2.1.2.2.2.2.2.2.2.2.1.1 i hi).2.2.2
  rw [List.map_cons, show cv G (.retAddr (2000 + i)) = .ref (G.2.2.2.2.1 i) from congrArg Value.ref (hT i hi)]
  exact va_tlen C.1 C.2.1 hE hS (by rw [tx_len]; rfl) hd (h p e s m args below meth c H locs cells slots ls C hR hS hl h1 h2)
theorem wp_sbal {i : Nat} {x : Int32} (hT : GT G) (hi : i < 35) (hx : vp_in x (tx i).length) (hd : decode M.2.1 pc = .ok (.baload, 1)) (hq : pc + 1 = q) (h : WP l G k mc ms M Q q L (.int ((tx i).getD x.toNatClampNeg 0) :: st) μ cb sb) : WP l G k mc ms M Q pc L (.int x :: .retAddr (2000 + i) :: st) μ cb sb := by
  subst hq
  intro p e s m args below meth c H locs cells slots ls C hR hS hl h1 h2
  have hE := (C.2.2.2.2.2.2.2.2.1.2.2.2.2.2.2.2.2.1.1 i hi).2.2.2
  rw [List.map_cons, List.map_cons, show cv G (.retAddr (2000 + i)) = .ref (G.2.2.2.2.1 i) from congrArg Value.ref (hT i hi)]
  exact va_tb C.1 C.2.1 hE hS (by rw [tx_len]; exact hx) rfl hd (h p e s m args below meth c H locs cells slots ls C hR hS hl h1 h2)
theorem wp_i2c {x v : Int32} (hd : decode M.2.1 pc = .ok (.i2c, 1)) (hq : pc + 1 = q) (hv : (x.toUInt32 % 65536).toInt32 = v) (h : WP l G k mc ms M Q q L (.int v :: st) μ cb sb) : WP l G k mc ms M Q pc L (.int x :: st) μ cb sb := by
  subst hq
  intro p e s m args below meth c H locs cells slots ls C hR hS hl h1 h2
  exact lv_i2c C.1 C.2.1 hd hv (h p e s m args below meth c H locs cells slots ls C hR hS hl h1 h2)
theorem wp_invT {N : Mt} {As : List Value} {i n ix mc' ms' : Nat} {Qn : Res → Mem → Prop} {stk : List Value} (hi : i < 35) (hd : decode M.2.1 pc = .ok (.invokevirtual ix, 3)) (hq : pc + 3 = q) (hh : M.2.2.2.2 = []) (hN : mOK N n) (hlk : Cond.methodLink M.1.cls ix N.1 ∈ TW) (hin : Cond.instanceMethod N.1 ∈ TW) (hse : Cond.selects N.1.cls N.1 N.1 ∈ TW) (hC : N.1.cls = "java/lang/String")
    (hst : stk = As.reverse ++ .retAddr i :: st) (hn : As.length = n) (hw : (st.map fun v => v.category).sum ≤ 8) (hc : mc' ≤ cb) (hsl : ms' ≤ sb) (hcall : Cal l G k mc' ms' N (.retAddr i :: As) μ Qn)
    (hret : ∀ (r : Option Value) (μ' : Mem), Qn (.inl r) μ' → WP l G (k + 1) mc ms M Q q L (r.toList ++ st) μ' (cb - mc') (sb - ms')) (hthr : ∀ (E : String) (μ' : Mem), Qn (.inr E) μ' → Q (.inr E) μ') : WP l G (k + 1) mc ms M Q pc L stk μ cb sb := by
  subst hq; subst hst
  intro p e s m args below meth c H locs cells slots ls C hR hS hl h1 h2
  have hrc := vk_recv C.2.2.2.2.2.2.2.2.1.2.2.2.2.2.2.2.2.1 hi hS
  rw [← hC] at hrc
  refine call_core C hh hS hl h1 h2 hc hsl (vx_runV (As := As.map (cv G)) (rest := st.map (cv G)) (b := G.2.2.2.1 i) (C := N.1.cls) ⟨C.1, C.2.1, C.2.2.2.1, C.2.2.2.2.1, C.2.2.2.2.2.1⟩ hcall ⟨mOK_B C hN hlk, C.2.2.2.2.2.1 _ hin, C.2.2.2.2.2.1 _ hse⟩ ⟨prC_blind, hrc, fun U hU hW => ⟨rfl, by rw [hU]; exact hR, by rw [hU]; exact C.2.2.2.2.2.2.2.2.1.to hW hS.1 hS.2.1⟩⟩ rfl (by rw [List.length_map]; exact hn) hl.1 ?_ (lv_room (by rw [cat_cv]; exact hw)) hd ⟨by simp only [room]; omega, by simp only [room]; omega⟩) hret hthr
  show List.map (cv G) _ = _
  rw [List.map_append, List.map_reverse]
  rfl
/-- a call on a text that changes nothing -/
theorem wp_pT {N : Mt} {As : List Value} {i n ix : Nat} {v : Value} {stk : List Value} (hi : i < 35) (hd : decode M.2.1 pc = .ok (.invokevirtual ix, 3)) (hq : pc + 3 = q) (hh : M.2.2.2.2 = []) (hN : mOK N n) (hlk : Cond.methodLink M.1.cls ix N.1 ∈ TW) (hin : Cond.instanceMethod N.1 ∈ TW) (hse : Cond.selects N.1.cls N.1 N.1 ∈ TW) (hC : N.1.cls = "java/lang/String")
    (hst : stk = As.reverse ++ .retAddr i :: st) (hn : As.length = n) (hw : (st.map fun v => v.category).sum ≤ 8) (hcall : Cal l G k 0 0 N (.retAddr i :: As) μ (fun r μ' => r = .inl (some v) ∧ μ' = μ))
    (h : WP l G (k + 1) mc ms M Q q L (v :: st) μ cb sb) : WP l G (k + 1) mc ms M Q pc L stk μ cb sb :=
  wp_invT hi hd hq hh hN hlk hin hse hC hst hn hw (Nat.zero_le _) (Nat.zero_le _) hcall (fun r μ' hr => by obtain ⟨h1, h2⟩ := hr; cases h1; cases h2; exact h) (fun E μ' hr => by cases hr.1)
theorem shr0 (x : Int32) : x >>> ((0 : Int32) &&& 31) = x := by
  rw [show ((0 : Int32) &&& 31) = 0 from rfl]; simp
theorem nI_nneg {n : Nat} (h : n < 2 ^ 31) : ¬ nI n < (0 : Int32) := by rw [fa_lt, nI_toInt h, show (0 : Int32).toInt = 0 by decide]; omega
theorem nar_c {b : Int32} (h : (b.toUInt32 % 65536).toInt32 = b) : narrow .char (.int b) = .int b := congrArg Value.int h
theorem nI_of_in {x : Int32} {n : Nat} (h : vp_in x n) : x = nI x.toNatClampNeg ∧ x.toNatClampNeg < n := by
  have h1 : ¬ x < 0 := fun g => h (Or.inl g)
  have h2 : ¬ n ≤ x.toNatClampNeg := fun g => h (Or.inr g)
  rw [fa_lt, show (0 : Int32).toInt = 0 by decide] at h1
  have hub := Int32.toInt_lt x
  refine ⟨?_, by omega⟩
  unfold nI
  apply Int32.toInt_inj.mp
  rw [Int32.toInt_ofNat_of_lt (by rw [Int32.toNatClampNeg]; omega), Int32.toNatClampNeg]; omega
theorem tx_ok : ∀ i, i < 35 → (tx i).length < 1000 ∧ ∀ b ∈ tx i, b &&& (255 : Int32) = b ∧ (b.toUInt32 % 65536).toInt32 = b := by decide +kernel
theorem coder_t {i : Nat} (hi : i < 35) : Cal l G k 0 0 mJ0_coder_7d493 [.retAddr i] μ (fun r μ' => r = .inl (some (.int 0)) ∧ μ' = μ) := by
  refine Cal.of (L := [some (.retAddr i)]) rfl (by decide +kernel) (by simp) (Nat.le_of_ble_eq_true rfl) rfl ?_
  refine wp_getCS dJ0_coder_7d493_0 rfl fl_RJ0_38 ?_
  refine wp_if_eq (tgt := 13) dJ0_coder_7d493_3 rfl rfl (fun h => absurd h (by decide)) (fun _ => ?_)
  refine wp_sload_n dJ0_coder_7d493_6 rfl rfl rfl ?_
  refine wp_sgetC hi dJ0_coder_7d493_7 rfl fl_RJ0_15 ?_
  refine wp_goto (tgt := 14) dJ0_coder_7d493_10 rfl ?_
  exact wp_zreturn dJ0_coder_7d493_14 rfl rfl ⟨rfl, rfl⟩
theorem length_t {i : Nat} (hT : GT G) (hi : i < 35) : Cal l G (k + 1) 0 0 mJ0_length_8abf5 [.retAddr i] μ (fun r μ' => r = .inl (some (.int (nI (tx i).length))) ∧ μ' = μ) := by
  refine Cal.of (L := [some (.retAddr i)]) rfl (by decide +kernel) (by simp) (Nat.le_of_ble_eq_true rfl) rfl ?_
  refine wp_sload_n dJ0_length_8abf5_0 rfl rfl rfl ?_
  refine wp_sgetV hT hi dJ0_length_8abf5_1 rfl fl_RJ0_9 ?_
  refine wp_slen hT hi dJ0_length_8abf5_4 rfl ?_
  refine wp_sload_n dJ0_length_8abf5_5 rfl rfl rfl ?_
  refine wp_pT (As := []) hi dJ0_length_8abf5_6 rfl rfl ok_J0_coder_7d493 ml_RJ0_335 im_J0_coder_7d493 se_J0_coder_7d493 rfl rfl rfl (by simp [Value.category]) (coder_t hi) ?_
  refine wp_ishr dJ0_length_8abf5_9 rfl ?_
  rw [show nI (tx i).length >>> ((0 : Int32) &&& 31) = nI (tx i).length from shr0 _]
  exact wp_ireturn dJ0_length_8abf5_10 rfl ⟨rfl, rfl⟩
theorem latin_t {i : Nat} (hi : i < 35) : Cal l G k 0 0 mJ0_isLatin1_aae02 [.retAddr i] μ (fun r μ' => r = .inl (some (.int 1)) ∧ μ' = μ) := by
  refine Cal.of (L := [some (.retAddr i)]) rfl (by decide +kernel) (by simp) (Nat.le_of_ble_eq_true rfl) rfl ?_
  refine wp_getCS dJ0_isLatin1_aae02_0 rfl fl_RJ0_38 ?_
  refine wp_if_eq (tgt := 17) dJ0_isLatin1_aae02_3 rfl rfl (fun h => absurd h (by decide)) (fun _ => ?_)
  refine wp_sload_n dJ0_isLatin1_aae02_6 rfl rfl rfl ?_
  refine wp_sgetC hi dJ0_isLatin1_aae02_7 rfl fl_RJ0_15 ?_
  refine wp_if_ne (tgt := 17) dJ0_isLatin1_aae02_10 rfl rfl (fun h => absurd rfl h) (fun _ => ?_)
  refine wp_iconst dJ0_isLatin1_aae02_13 rfl (v := 1) (by decide) ?_
  refine wp_goto (tgt := 18) dJ0_isLatin1_aae02_14 rfl ?_
  exact wp_zreturn dJ0_isLatin1_aae02_18 rfl rfl ⟨rfl, rfl⟩
theorem ckJ3_t {x y : Int32} {v : Value} (hv : v = .null ∨ v = .retAddr 1001) (h0 : ¬ x < 0) (h1 : x < y) : Cal l G k 0 0 mJ3_checkIndex_8e157 [.int x, .int y, v] μ (fun r μ' => r = .inl (some (.int x)) ∧ μ' = μ) := by
  refine Cal.of (L := [some (.int x), some (.int y), some v]) rfl (by decide +kernel) (by rcases hv with rfl | rfl <;> simp) (by rcases hv with rfl | rfl <;> exact Nat.le_of_ble_eq_true rfl) (by rcases hv with rfl | rfl <;> rfl) ?_
  refine wp_iload_n dJ3_checkIndex_8e157_0 rfl rfl rfl ?_
  refine wp_if_lt (tgt := 9) dJ3_checkIndex_8e157_1 rfl rfl (fun h => absurd h h0) (fun _ => ?_)
  refine wp_iload_n dJ3_checkIndex_8e157_4 rfl rfl rfl ?_
  refine wp_iload_n dJ3_checkIndex_8e157_5 rfl rfl rfl ?_
  refine wp_icmp_lt (tgt := 16) dJ3_checkIndex_8e157_6 rfl rfl (fun _ => ?_) (fun h => absurd h1 h)
  refine wp_iload_n dJ3_checkIndex_8e157_16 rfl rfl rfl ?_
  exact wp_ireturn dJ3_checkIndex_8e157_17 rfl ⟨rfl, rfl⟩
theorem ckJ0_t {x y : Int32} (h0 : ¬ x < 0) (h1 : x < y) : Cal l G (k + 1) 0 0 mJ0_checkIndex_df160 [.int x, .int y] μ (fun r μ' => r = .inl none ∧ μ' = μ) := by
  refine Cal.of (L := [some (.int x), some (.int y)]) rfl (by decide +kernel) (by simp) (Nat.le_of_ble_eq_true rfl) rfl ?_
  refine wp_iload_n dJ0_checkIndex_df160_0 rfl rfl rfl ?_
  refine wp_iload_n dJ0_checkIndex_df160_1 rfl rfl rfl ?_
  refine wp_getSF dJ0_checkIndex_df160_2 rfl fl_RJ0_1053 (fun v hv => ?_)
  refine wp_pS (As := [.int x, .int y, v]) dJ0_checkIndex_df160_5 rfl rfl ok_J3_checkIndex_8e157 ml_RJ0_1059 sm_J3_checkIndex_8e157 rfl rfl (by simp) (ckJ3_t hv h0 h1) ?_
  refine wp_pop dJ0_checkIndex_df160_8 rfl rfl ?_
  exact wp_return dJ0_checkIndex_df160_9 rfl ⟨rfl, rfl⟩
theorem chJ1_t {i j : Nat} (hT : GT G) (hi : i < 35) (hj : j < (tx i).length) : Cal l G (k + 2) 0 0 mJ1_charAt_3b067 [.retAddr (2000 + i), .int (nI j)] μ (fun r μ' => r = .inl (some (.int ((tx i).getD j 0))) ∧ μ' = μ) := by
  obtain ⟨hl, hb⟩ := tx_ok i hi
  have hm : (tx i).getD j 0 ∈ tx i := by rw [List.getD_eq_getElem?_getD, List.getElem?_eq_getElem hj]; exact List.getElem_mem hj
  obtain ⟨b1, b2⟩ := hb _ hm
  refine Cal.of (L := [some (.retAddr (2000 + i)), some (.int (nI j))]) rfl (by decide +kernel) (by simp) (Nat.le_of_ble_eq_true rfl) rfl ?_
  refine wp_iload_n dJ1_charAt_3b067_0 rfl rfl rfl ?_
  refine wp_sload_n dJ1_charAt_3b067_1 rfl rfl rfl ?_
  refine wp_slen hT hi dJ1_charAt_3b067_2 rfl ?_
  refine wp_invS (mc' := 0) (ms' := 0) (As := [.int (nI j), .int (nI (tx i).length)]) dJ1_charAt_3b067_3 rfl rfl ok_J0_checkIndex_df160 ml_RJ1_9 sm_J0_checkIndex_df160 rfl rfl (by simp) (Nat.zero_le _) (Nat.zero_le _) (ckJ0_t (x := nI j) (y := nI (tx i).length) (nI_nneg (by omega)) (nI_lt hj (by omega))) (fun r μ' hr => ?_) (fun E μ' hr => by cases hr.1)
  obtain ⟨hr1, hr2⟩ := hr
  cases hr1; subst hr2
  refine wp_sload_n dJ1_charAt_3b067_6 rfl rfl rfl ?_
  refine wp_iload_n dJ1_charAt_3b067_7 rfl rfl rfl ?_
  refine wp_sbal hT hi (vp_in_nI hj (by omega)) dJ1_charAt_3b067_8 rfl ?_
  rw [nI_clamp (by omega)]
  refine wp_sipush dJ1_charAt_3b067_9 rfl (v := 255) (by decide) ?_
  refine wp_iand dJ1_charAt_3b067_12 rfl ?_
  rw [b1]
  refine wp_i2c dJ1_charAt_3b067_13 rfl b2 ?_
  exact wp_zreturn dJ1_charAt_3b067_14 rfl (nar_c b2) ⟨rfl, rfl⟩
theorem charAt_t {i j : Nat} (hT : GT G) (hi : i < 35) (hj : j < (tx i).length) : Cal l G (k + 3) 0 0 mJ0_charAt_5068e [.retAddr i, .int (nI j)] μ (fun r μ' => r = .inl (some (.int ((tx i).getD j 0))) ∧ μ' = μ) := by
  obtain ⟨hl, hb⟩ := tx_ok i hi
  have hm : (tx i).getD j 0 ∈ tx i := by rw [List.getD_eq_getElem?_getD, List.getElem?_eq_getElem hj]; exact List.getElem_mem hj
  obtain ⟨b1, b2⟩ := hb _ hm
  refine Cal.of (L := [some (.retAddr i), some (.int (nI j))]) rfl (by decide +kernel) (by simp) (Nat.le_of_ble_eq_true rfl) rfl ?_
  refine wp_sload_n dJ0_charAt_5068e_0 rfl rfl rfl ?_
  refine wp_pT (As := []) hi dJ0_charAt_5068e_1 rfl rfl ok_J0_isLatin1_aae02 ml_RJ0_492 im_J0_isLatin1_aae02 se_J0_isLatin1_aae02 rfl rfl rfl (by simp) (latin_t hi) ?_
  refine wp_if_eq (tgt := 16) dJ0_charAt_5068e_4 rfl rfl (fun h => absurd h (by decide)) (fun _ => ?_)
  refine wp_sload_n dJ0_charAt_5068e_7 rfl rfl rfl ?_
  refine wp_sgetV hT hi dJ0_charAt_5068e_8 rfl fl_RJ0_9 ?_
  refine wp_iload_n dJ0_charAt_5068e_11 rfl rfl rfl ?_
  refine wp_pS (As := [.retAddr (2000 + i), .int (nI j)]) dJ0_charAt_5068e_12 rfl rfl ok_J1_charAt_3b067 ml_RJ0_495 sm_J1_charAt_3b067 rfl rfl (by simp) (chJ1_t hT hi hj) ?_
  exact wp_zreturn dJ0_charAt_5068e_15 rfl (nar_c b2) ⟨rfl, rfl⟩
theorem charAt_x {i : Nat} {x : Int32} (hT : GT G) (hi : i < 35) (hx : vp_in x (tx i).length) : Cal l G (k + 3) 0 0 mJ0_charAt_5068e [.retAddr i, .int x] μ (fun r μ' => r = .inl (some (.int ((tx i).getD x.toNatClampNeg 0))) ∧ μ' = μ) := by
  obtain ⟨h1, h2⟩ := nI_of_in hx
  rw [h1, nI_clamp (by have := (tx_ok i hi).1; omega)]
  exact charAt_t hT hi h2
end A
