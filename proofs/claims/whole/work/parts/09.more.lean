/-! more rules: constants as indices, texts, pure calls; what is known of the reference's cells -/
section LdcW
variable {p : Program} {l : Launch} {e : Env} {R : Room} {s : State} {m : MethodId} {args : Array Value} {below : List Frame} {meth : Method} {c : Code} {T : State} {H : Heap} {locs : List Loc} {cells slots : Nat} {Q : State → Prop} {cc : ByteArray} {pc : Nat} {ls : Array Slot} {rest : List Value}
theorem vz_ldcwS0 (X : Stand p l e R s m args below meth c T locs cells slots) (hexec : p.tables.exec = Jvm.exec) {own text : String} {index : Nat} {a : Addr} (hown : s.vm.findClass own = some m.cls)
    (hconst : (Cond.stringRef own index text).before args s = true) (hev : (Term.string own index).eval args s none [] s = some (.ref a)) {g : JFrame} (hg : g.method = m) (hdg : decode c.code g.pc = .ok (.ldc_w index, 3)) :
    ∀ target, Steps p.tables e below (T.setTop { g with pc := g.pc + 3, stack := .ref a :: g.stack }) target → Steps p.tables e below (T.setTop g) target := by
  obtain ⟨k, cf, i, a', hk, hcf, hcp, -, hr, hev'⟩ := Cond.stringRef_spec hown hconst
  cases hev.symm.trans hev'
  obtain ⟨k', hk', he⟩ := X.warmed.alike.2.2 _ _ hk
  have hr' : k'.resolved[index]? = some (some (.string a)) := by
    rcases X.warmed.entry hk hk' index with h | ⟨h, -⟩
    · rw [h]; exact hr
    · rw [hr] at h; cases h
  intro target hrest
  subst hg
  jvm_step X.here [hexec, hdg, ldc_w.wp_string (e := e) (s := T) (f := g) X.here.top hk' (by rw [he]; exact hcf) hcp hr']
  exact hrest
theorem va_ldcwS (hexec : p.tables.exec = Jvm.exec) (hb : c.code = cc) {own tx : String} {index q : Nat} (hown : s.vm.findClass own = some m.cls) (hZ : vk_R own index tx q s) (hdg : decode cc pc = .ok (.ldc_w index, 3))
    (k : W p l e R s m args below meth c H locs cells slots Q (F0 m (pc + 3) ls (.ref q :: rest))) : W p l e R s m args below meth c H locs cells slots Q (F0 m pc ls rest) := by
  intro T hT X
  obtain ⟨t, a1, b1⟩ := k T hT X
  exact ⟨t, vz_ldcwS0 X hexec hown (text := tx) (a := q) hZ.1 hZ.2 (g := F0 m pc ls rest) rfl (by rw [hb]; exact hdg) t a1, b1⟩
end LdcW
section Rules
variable {l : Launch} {G : Gh} {k mc ms : Nat} {M : Mt} {Q : Res → Mem → Prop} {pc q : Nat} {L L' : List (Option Value)} {st : List Value} {I : Nat → Nat → Int32} {J : Nat → Nat → Int64} {R : Nat → Nat → Option Nat} {S : Nat → Nat × Nat} {nx : Nat} {cb sb : Nat}
theorem sb_0 : sbL [] [] := trivial
theorem sb_n {a : Option Value} {s t : List (Option Value)} (h : sbL s t) : sbL (a :: s) (none :: t) := ⟨Or.inl rfl, h⟩
theorem sb_e {a : Option Value} {s t : List (Option Value)} (h : sbL s t) : sbL (a :: s) (a :: t) := ⟨Or.inr rfl, h⟩
theorem vin_c {i : Int32} {m n : Nat} (h1 : i.toNatClampNeg = m) (h0 : ¬ i < 0) (h2 : m < n) : vp_in i n := by
  rintro (h | h)
  · exact h0 h
  · omega
theorem wp_ldcw {ix : Nat} {v : Int32} {μ : Mem} (hd : decode M.2.1 pc = .ok (.ldc_w ix, 3)) (hq : pc + 3 = q) (hc : Cond.constant M.1.cls ix v ∈ TW) (h : WP l G k mc ms M Q q L (.int v :: st) μ cb sb) : WP l G k mc ms M Q pc L st μ cb sb := by
  subst hq
  intro p e s m args below meth c H locs cells slots ls C hR hS hl h1 h2
  exact lv_ldcw C.1 C.2.1 C.2.2.2.2.1 (C.2.2.2.2.2.1 _ hc) hd (h p e s m args below meth c H locs cells slots ls C hR hS hl h1 h2)
theorem wp_sdc {ix : Nat} {μ : Mem} (hd : decode M.2.1 pc = .ok (.ldc ix, 2)) (hq : pc + 2 = q) {si : Nat} (hsi : si < 35) (hss : (stL.getD si ("", 0, "")).1 = M.1.cls ∧ (stL.getD si ("", 0, "")).2.1 = ix) (h : WP l G k mc ms M Q q L (.retAddr si :: st) μ cb sb) : WP l G k mc ms M Q pc L st μ cb sb := by
  subst hq
  intro p e s m args below meth c H locs cells slots ls C hR hS hl h1 h2
  have hstr := C.2.2.2.2.2.2.2.2.1.2.2.2.2.2.1 si hsi
  rw [hss.1, hss.2] at hstr
  exact va_ldcS C.1 C.2.1 C.2.2.2.2.1 hstr hd (h p e s m args below meth c H locs cells slots ls C hR hS hl h1 h2)
theorem wp_sdcw {ix : Nat} {μ : Mem} (hd : decode M.2.1 pc = .ok (.ldc_w ix, 3)) (hq : pc + 3 = q) {si : Nat} (hsi : si < 35) (hss : (stL.getD si ("", 0, "")).1 = M.1.cls ∧ (stL.getD si ("", 0, "")).2.1 = ix) (h : WP l G k mc ms M Q q L (.retAddr si :: st) μ cb sb) : WP l G k mc ms M Q pc L st μ cb sb := by
  subst hq
  intro p e s m args below meth c H locs cells slots ls C hR hS hl h1 h2
  have hstr := C.2.2.2.2.2.2.2.2.1.2.2.2.2.2.1 si hsi
  rw [hss.1, hss.2] at hstr
  exact va_ldcwS C.1 C.2.1 C.2.2.2.2.1 hstr hd (h p e s m args below meth c H locs cells slots ls C hR hS hl h1 h2)
theorem wp_ialoadC {a n m : Nat} {i : Int32} (hd : decode M.2.1 pc = .ok (.iaload, 1)) (hq : pc + 1 = q) (ha : a < nx) (hs : S a = (100, n)) (hm : i.toNatClampNeg = m) (h0 : ¬ i < 0) (hlt : m < n) (h : WP l G k mc ms M Q q L (.int (I a m) :: st) (I, J, R, S, nx) cb sb) : WP l G k mc ms M Q pc L (.int i :: .ref a :: st) (I, J, R, S, nx) cb sb := wp_iaload hd hq ha hs (vin_c hm h0 hlt) (by rw [hm]; exact h)
theorem wp_baloadC {a n m : Nat} {i : Int32} (hd : decode M.2.1 pc = .ok (.baload, 1)) (hq : pc + 1 = q) (ha : a < nx) (hs : S a = (102, n)) (hm : i.toNatClampNeg = m) (h0 : ¬ i < 0) (hlt : m < n) (h : WP l G k mc ms M Q q L (.int (I a m) :: st) (I, J, R, S, nx) cb sb) : WP l G k mc ms M Q pc L (.int i :: .ref a :: st) (I, J, R, S, nx) cb sb := wp_baload hd hq ha hs (vin_c hm h0 hlt) (by rw [hm]; exact h)
theorem wp_zaloadC {a n m : Nat} {i : Int32} (hd : decode M.2.1 pc = .ok (.baload, 1)) (hq : pc + 1 = q) (ha : a < nx) (hs : S a = (103, n)) (hm : i.toNatClampNeg = m) (h0 : ¬ i < 0) (hlt : m < n) (h : WP l G k mc ms M Q q L (.int (I a m) :: st) (I, J, R, S, nx) cb sb) : WP l G k mc ms M Q pc L (.int i :: .ref a :: st) (I, J, R, S, nx) cb sb := wp_zaload hd hq ha hs (vin_c hm h0 hlt) (by rw [hm]; exact h)
theorem wp_laloadC {a n m : Nat} {i : Int32} (hd : decode M.2.1 pc = .ok (.laload, 1)) (hq : pc + 1 = q) (ha : a < nx) (hs : S a = (101, n)) (hm : i.toNatClampNeg = m) (h0 : ¬ i < 0) (hlt : m < n) (h : WP l G k mc ms M Q q L (.long (J a m) :: st) (I, J, R, S, nx) cb sb) : WP l G k mc ms M Q pc L (.int i :: .ref a :: st) (I, J, R, S, nx) cb sb := wp_laload hd hq ha hs (vin_c hm h0 hlt) (by rw [hm]; exact h)
theorem wp_iastoreC {a n m : Nat} {i : Int32} {x : Int32} (hd : decode M.2.1 pc = .ok (.iastore, 1)) (hq : pc + 1 = q) (ha : a < nx) (hs : S a = (100, n)) (hm : i.toNatClampNeg = m) (h0 : ¬ i < 0) (hlt : m < n) (h : WP l G k mc ms M Q q L st (up2 I a m x, J, R, S, nx) cb sb) : WP l G k mc ms M Q pc L (.int x :: .int i :: .ref a :: st) (I, J, R, S, nx) cb sb := wp_iastore hd hq ha hs (vin_c hm h0 hlt) (by rw [hm]; exact h)
theorem wp_bastoreC {a n m : Nat} {i : Int32} {x : Int32} (hd : decode M.2.1 pc = .ok (.bastore, 1)) (hq : pc + 1 = q) (ha : a < nx) (hs : S a = (102, n)) (hm : i.toNatClampNeg = m) (h0 : ¬ i < 0) (hlt : m < n) (h : WP l G k mc ms M Q q L st (up2 I a m x.toInt8.toInt32, J, R, S, nx) cb sb) : WP l G k mc ms M Q pc L (.int x :: .int i :: .ref a :: st) (I, J, R, S, nx) cb sb := wp_bastore hd hq ha hs (vin_c hm h0 hlt) (by rw [hm]; exact h)
theorem wp_zastoreC {a n m : Nat} {i : Int32} {x : Int32} (hd : decode M.2.1 pc = .ok (.bastore, 1)) (hq : pc + 1 = q) (ha : a < nx) (hs : S a = (103, n)) (hx : narrow .boolean (.int x) = .int x) (hm : i.toNatClampNeg = m) (h0 : ¬ i < 0) (hlt : m < n) (h : WP l G k mc ms M Q q L st (up2 I a m x, J, R, S, nx) cb sb) : WP l G k mc ms M Q pc L (.int x :: .int i :: .ref a :: st) (I, J, R, S, nx) cb sb := wp_zastore hd hq ha hs hx (vin_c hm h0 hlt) (by rw [hm]; exact h)
theorem wp_lastoreC {a n m : Nat} {i : Int32} {x : Int64} (hd : decode M.2.1 pc = .ok (.lastore, 1)) (hq : pc + 1 = q) (ha : a < nx) (hs : S a = (101, n)) (hm : i.toNatClampNeg = m) (h0 : ¬ i < 0) (hlt : m < n) (h : WP l G k mc ms M Q q L st (I, up2 J a m x, R, S, nx) cb sb) : WP l G k mc ms M Q pc L (.long x :: .int i :: .ref a :: st) (I, J, R, S, nx) cb sb := wp_lastore hd hq ha hs (vin_c hm h0 hlt) (by rw [hm]; exact h)
theorem wp_pS {N : Mt} {As : List Value} {n ix : Nat} {μ : Mem} {v : Value} {stk : List Value} (hd : decode M.2.1 pc = .ok (.invokestatic ix, 3)) (hq : pc + 3 = q) (hh : M.2.2.2.2 = []) (hN : mOK N n) (hlk : Cond.methodLink M.1.cls ix N.1 ∈ TW) (hsta : Cond.static N.1 ∈ TW)
    (hst : stk = As.reverse ++ st) (hn : As.length = n) (hw : (st.map fun v => v.category).sum ≤ 8) (hcall : Cal l G k 0 0 N As μ (fun r μ' => r = .inl (some v) ∧ μ' = μ))
    (h : WP l G (k + 1) mc ms M Q q L (v :: st) μ cb sb) : WP l G (k + 1) mc ms M Q pc L stk μ cb sb :=
  wp_invS hd hq hh hN hlk hsta hst hn hw (Nat.zero_le _) (Nat.zero_le _) hcall (fun r μ' hr => by obtain ⟨h1, h2⟩ := hr; cases h1; cases h2; exact h) (fun E μ' hr => by cases hr.1)
theorem wp_pV {N : Mt} {As : List Value} {a t n ix : Nat} {μ : Mem} {v : Value} {stk : List Value} (hd : decode M.2.1 pc = .ok (.invokevirtual ix, 3)) (hq : pc + 3 = q) (hh : M.2.2.2.2 = []) (hN : mOK N n) (hlk : Cond.methodLink M.1.cls ix N.1 ∈ TW) (hin : Cond.instanceMethod N.1 ∈ TW) (hse : Cond.selects N.1.cls N.1 N.1 ∈ TW) (ht : t < 13) (hC : ∃ qc, mcls[t]? = some qc ∧ qc.1 = N.1.cls) (ha : a < μ.2.2.2.2) (hs : (μ.2.2.2.1 a).1 = t)
    (hst : stk = As.reverse ++ .ref a :: st) (hn : As.length = n) (hw : (st.map fun v => v.category).sum ≤ 8) (hcall : Cal l G k 0 0 N (.ref a :: As) μ (fun r μ' => r = .inl (some v) ∧ μ' = μ))
    (h : WP l G (k + 1) mc ms M Q q L (v :: st) μ cb sb) : WP l G (k + 1) mc ms M Q pc L stk μ cb sb :=
  wp_invV hd hq hh hN hlk hin hse ht hC ha hs hst hn hw (Nat.zero_le _) (Nat.zero_le _) hcall (fun r μ' hr => by obtain ⟨h1, h2⟩ := hr; cases h1; cases h2; exact h) (fun E μ' hr => by cases hr.1)
def Fr (rows : List Nat) (I I' : Nat → Nat → Int32) : Prop := ∀ a, a ∉ rows → I' a = I a
theorem wp_gS {N : Mt} {As : List Value} {n ix : Nat} {μ μ2 : Mem} {v : Option Value} {stk : List Value} (hd : decode M.2.1 pc = .ok (.invokestatic ix, 3)) (hq : pc + 3 = q) (hh : M.2.2.2.2 = []) (hN : mOK N n) (hlk : Cond.methodLink M.1.cls ix N.1 ∈ TW) (hsta : Cond.static N.1 ∈ TW)
    (hst : stk = As.reverse ++ st) (hn : As.length = n) (hw : (st.map fun v => v.category).sum ≤ 8) (hcall : Cal l G k 0 0 N As μ (fun r μ' => r = .inl v ∧ μ' = μ2))
    (h : WP l G (k + 1) mc ms M Q q L (v.toList ++ st) μ2 cb sb) : WP l G (k + 1) mc ms M Q pc L stk μ cb sb :=
  wp_invS hd hq hh hN hlk hsta hst hn hw (Nat.zero_le _) (Nat.zero_le _) hcall (fun r μ' hr => by obtain ⟨h1, h2⟩ := hr; cases h1; cases h2; exact h) (fun E μ' hr => by cases hr.1)
theorem wp_gV {N : Mt} {As : List Value} {a t n ix : Nat} {μ μ2 : Mem} {v : Option Value} {stk : List Value} (hd : decode M.2.1 pc = .ok (.invokevirtual ix, 3)) (hq : pc + 3 = q) (hh : M.2.2.2.2 = []) (hN : mOK N n) (hlk : Cond.methodLink M.1.cls ix N.1 ∈ TW) (hin : Cond.instanceMethod N.1 ∈ TW) (hse : Cond.selects N.1.cls N.1 N.1 ∈ TW) (ht : t < 13) (hC : ∃ qc, mcls[t]? = some qc ∧ qc.1 = N.1.cls) (ha : a < μ.2.2.2.2) (hs : (μ.2.2.2.1 a).1 = t)
    (hst : stk = As.reverse ++ .ref a :: st) (hn : As.length = n) (hw : (st.map fun v => v.category).sum ≤ 8) (hcall : Cal l G k 0 0 N (.ref a :: As) μ (fun r μ' => r = .inl v ∧ μ' = μ2))
    (h : WP l G (k + 1) mc ms M Q q L (v.toList ++ st) μ2 cb sb) : WP l G (k + 1) mc ms M Q pc L stk μ cb sb :=
  wp_invV hd hq hh hN hlk hin hse ht hC ha hs hst hn hw (Nat.zero_le _) (Nat.zero_le _) hcall (fun r μ' hr => by obtain ⟨h1, h2⟩ := hr; cases h1; cases h2; exact h) (fun E μ' hr => by cases hr.1)
theorem wp_fS {N : Mt} {As : List Value} {n ix : Nat} {v : Value} {rows : List Nat} {stk : List Value} (hd : decode M.2.1 pc = .ok (.invokestatic ix, 3)) (hq : pc + 3 = q) (hh : M.2.2.2.2 = []) (hN : mOK N n) (hlk : Cond.methodLink M.1.cls ix N.1 ∈ TW) (hsta : Cond.static N.1 ∈ TW)
    (hst : stk = As.reverse ++ st) (hn : As.length = n) (hw : (st.map fun v => v.category).sum ≤ 8) (hcall : Cal l G k 0 0 N As (I, J, R, S, nx) (fun r μ' => r = .inl (some v) ∧ ∃ I', μ' = (I', J, R, S, nx) ∧ Fr rows I I'))
    (h : ∀ I', Fr rows I I' → WP l G (k + 1) mc ms M Q q L (v :: st) (I', J, R, S, nx) cb sb) : WP l G (k + 1) mc ms M Q pc L stk (I, J, R, S, nx) cb sb :=
  wp_invS hd hq hh hN hlk hsta hst hn hw (Nat.zero_le _) (Nat.zero_le _) hcall (fun r μ' hr => by obtain ⟨h1, I', h2, h3⟩ := hr; cases h1; cases h2; exact h I' h3) (fun E μ' hr => by cases hr.1)
theorem wp_fV {N : Mt} {As : List Value} {a t n ix : Nat} {v : Value} {rows : List Nat} {stk : List Value} (hd : decode M.2.1 pc = .ok (.invokevirtual ix, 3)) (hq : pc + 3 = q) (hh : M.2.2.2.2 = []) (hN : mOK N n) (hlk : Cond.methodLink M.1.cls ix N.1 ∈ TW) (hin : Cond.instanceMethod N.1 ∈ TW) (hse : Cond.selects N.1.cls N.1 N.1 ∈ TW) (ht : t < 13) (hC : ∃ qc, mcls[t]? = some qc ∧ qc.1 = N.1.cls) (ha : a < nx) (hs : (S a).1 = t)
    (hst : stk = As.reverse ++ .ref a :: st) (hn : As.length = n) (hw : (st.map fun v => v.category).sum ≤ 8) (hcall : Cal l G k 0 0 N (.ref a :: As) (I, J, R, S, nx) (fun r μ' => r = .inl (some v) ∧ ∃ I', μ' = (I', J, R, S, nx) ∧ Fr rows I I'))
    (h : ∀ I', Fr rows I I' → WP l G (k + 1) mc ms M Q q L (v :: st) (I', J, R, S, nx) cb sb) : WP l G (k + 1) mc ms M Q pc L stk (I, J, R, S, nx) cb sb :=
  wp_invV hd hq hh hN hlk hin hse ht hC ha hs hst hn hw (Nat.zero_le _) (Nat.zero_le _) hcall (fun r μ' hr => by obtain ⟨h1, I', h2, h3⟩ := hr; cases h1; cases h2; exact h I' h3) (fun E μ' hr => by cases hr.1)
end Rules
theorem kb_m20 : (Int8.ofInt (-20)).toInt32 = (-20) := by decide
theorem kb_m10 : (Int8.ofInt (-10)).toInt32 = (-10) := by decide
theorem kb_m9 : (Int8.ofInt (-9)).toInt32 = (-9) := by decide
theorem kb_m8 : (Int8.ofInt (-8)).toInt32 = (-8) := by decide
theorem kb_m7 : (Int8.ofInt (-7)).toInt32 = (-7) := by decide
theorem kb_m6 : (Int8.ofInt (-6)).toInt32 = (-6) := by decide
theorem kb_m5 : (Int8.ofInt (-5)).toInt32 = (-5) := by decide
theorem kb_m4 : (Int8.ofInt (-4)).toInt32 = (-4) := by decide
theorem kb_m3 : (Int8.ofInt (-3)).toInt32 = (-3) := by decide
theorem kb_m2 : (Int8.ofInt (-2)).toInt32 = (-2) := by decide
theorem kb_6 : (Int8.ofInt 6).toInt32 = 6 := by decide
theorem kb_7 : (Int8.ofInt 7).toInt32 = 7 := by decide
theorem kb_8 : (Int8.ofInt 8).toInt32 = 8 := by decide
theorem kb_9 : (Int8.ofInt 9).toInt32 = 9 := by decide
theorem kb_10 : (Int8.ofInt 10).toInt32 = 10 := by decide
theorem kb_11 : (Int8.ofInt 11).toInt32 = 11 := by decide
theorem kb_12 : (Int8.ofInt 12).toInt32 = 12 := by decide
theorem kb_13 : (Int8.ofInt 13).toInt32 = 13 := by decide
theorem kb_14 : (Int8.ofInt 14).toInt32 = 14 := by decide
theorem kb_15 : (Int8.ofInt 15).toInt32 = 15 := by decide
theorem kb_16 : (Int8.ofInt 16).toInt32 = 16 := by decide
theorem kb_17 : (Int8.ofInt 17).toInt32 = 17 := by decide
theorem kb_18 : (Int8.ofInt 18).toInt32 = 18 := by decide
theorem kb_19 : (Int8.ofInt 19).toInt32 = 19 := by decide
theorem kb_20 : (Int8.ofInt 20).toInt32 = 20 := by decide
theorem kb_21 : (Int8.ofInt 21).toInt32 = 21 := by decide
theorem kb_22 : (Int8.ofInt 22).toInt32 = 22 := by decide
theorem kb_24 : (Int8.ofInt 24).toInt32 = 24 := by decide
theorem kb_25 : (Int8.ofInt 25).toInt32 = 25 := by decide
theorem kb_28 : (Int8.ofInt 28).toInt32 = 28 := by decide
theorem kb_30 : (Int8.ofInt 30).toInt32 = 30 := by decide
theorem kb_32 : (Int8.ofInt 32).toInt32 = 32 := by decide
theorem kb_33 : (Int8.ofInt 33).toInt32 = 33 := by decide
theorem kb_37 : (Int8.ofInt 37).toInt32 = 37 := by decide
theorem kb_40 : (Int8.ofInt 40).toInt32 = 40 := by decide
theorem kb_41 : (Int8.ofInt 41).toInt32 = 41 := by decide
theorem kb_42 : (Int8.ofInt 42).toInt32 = 42 := by decide
theorem kb_43 : (Int8.ofInt 43).toInt32 = 43 := by decide
theorem kb_45 : (Int8.ofInt 45).toInt32 = 45 := by decide
theorem kb_48 : (Int8.ofInt 48).toInt32 = 48 := by decide
theorem kb_49 : (Int8.ofInt 49).toInt32 = 49 := by decide
theorem kb_53 : (Int8.ofInt 53).toInt32 = 53 := by decide
theorem kb_54 : (Int8.ofInt 54).toInt32 = 54 := by decide
theorem kb_55 : (Int8.ofInt 55).toInt32 = 55 := by decide
theorem kb_56 : (Int8.ofInt 56).toInt32 = 56 := by decide
theorem kb_57 : (Int8.ofInt 57).toInt32 = 57 := by decide
theorem kb_58 : (Int8.ofInt 58).toInt32 = 58 := by decide
theorem kb_59 : (Int8.ofInt 59).toInt32 = 59 := by decide
theorem kb_60 : (Int8.ofInt 60).toInt32 = 60 := by decide
theorem kb_61 : (Int8.ofInt 61).toInt32 = 61 := by decide
theorem kb_62 : (Int8.ofInt 62).toInt32 = 62 := by decide
theorem kb_63 : (Int8.ofInt 63).toInt32 = 63 := by decide
theorem kb_64 : (Int8.ofInt 64).toInt32 = 64 := by decide
theorem kb_66 : (Int8.ofInt 66).toInt32 = 66 := by decide
theorem kb_74 : (Int8.ofInt 74).toInt32 = 74 := by decide
theorem kb_82 : (Int8.ofInt 82).toInt32 = 82 := by decide
theorem kb_91 : (Int8.ofInt 91).toInt32 = 91 := by decide
theorem kb_93 : (Int8.ofInt 93).toInt32 = 93 := by decide
theorem kb_97 : (Int8.ofInt 97).toInt32 = 97 := by decide
theorem kb_99 : (Int8.ofInt 99).toInt32 = 99 := by decide
theorem kb_100 : (Int8.ofInt 100).toInt32 = 100 := by decide
theorem kb_120 : (Int8.ofInt 120).toInt32 = 120 := by decide
theorem kb_122 : (Int8.ofInt 122).toInt32 = 122 := by decide
theorem ki_m8 : Int32.ofInt (-8) = (-8) := by decide
theorem ki_m1 : Int32.ofInt (-1) = (-1) := by decide
theorem ki_0 : Int32.ofInt 0 = 0 := by decide
theorem ki_1 : Int32.ofInt 1 = 1 := by decide
theorem ki_2 : Int32.ofInt 2 = 2 := by decide
theorem ki_3 : Int32.ofInt 3 = 3 := by decide
theorem ki_4 : Int32.ofInt 4 = 4 := by decide
theorem ki_5 : Int32.ofInt 5 = 5 := by decide
theorem ki_6 : Int32.ofInt 6 = 6 := by decide
theorem kl_0 : Int64.ofNat ((0 : Fin 2) : Nat) = 0 := by decide
theorem kl_1 : Int64.ofNat ((1 : Fin 2) : Nat) = 1 := by decide
theorem ks_200 : (Int16.ofInt 200).toInt32 = 200 := by decide
theorem ks_201 : (Int16.ofInt 201).toInt32 = 201 := by decide
theorem ks_224 : (Int16.ofInt 224).toInt32 = 224 := by decide
theorem ks_255 : (Int16.ofInt 255).toInt32 = 255 := by decide
theorem ks_256 : (Int16.ofInt 256).toInt32 = 256 := by decide
theorem ks_257 : (Int16.ofInt 257).toInt32 = 257 := by decide
theorem ks_258 : (Int16.ofInt 258).toInt32 = 258 := by decide
theorem ks_299 : (Int16.ofInt 299).toInt32 = 299 := by decide
theorem ks_300 : (Int16.ofInt 300).toInt32 = 300 := by decide
theorem ks_301 : (Int16.ofInt 301).toInt32 = 301 := by decide
theorem ks_304 : (Int16.ofInt 304).toInt32 = 304 := by decide
theorem ks_305 : (Int16.ofInt 305).toInt32 = 305 := by decide
theorem ks_306 : (Int16.ofInt 306).toInt32 = 306 := by decide
theorem ks_307 : (Int16.ofInt 307).toInt32 = 307 := by decide
theorem ks_308 : (Int16.ofInt 308).toInt32 = 308 := by decide
theorem ks_309 : (Int16.ofInt 309).toInt32 = 309 := by decide
theorem ks_310 : (Int16.ofInt 310).toInt32 = 310 := by decide
theorem ks_311 : (Int16.ofInt 311).toInt32 = 311 := by decide
theorem ks_312 : (Int16.ofInt 312).toInt32 = 312 := by decide
theorem ks_313 : (Int16.ofInt 313).toInt32 = 313 := by decide
theorem ks_314 : (Int16.ofInt 314).toInt32 = 314 := by decide
theorem ks_315 : (Int16.ofInt 315).toInt32 = 315 := by decide
theorem ks_316 : (Int16.ofInt 316).toInt32 = 316 := by decide
theorem ks_317 : (Int16.ofInt 317).toInt32 = 317 := by decide
theorem ks_318 : (Int16.ofInt 318).toInt32 = 318 := by decide
theorem ks_319 : (Int16.ofInt 319).toInt32 = 319 := by decide
theorem ks_320 : (Int16.ofInt 320).toInt32 = 320 := by decide
theorem ks_490 : (Int16.ofInt 490).toInt32 = 490 := by decide
theorem ks_523 : (Int16.ofInt 523).toInt32 = 523 := by decide
theorem ks_572 : (Int16.ofInt 572).toInt32 = 572 := by decide
theorem ks_793 : (Int16.ofInt 793).toInt32 = 793 := by decide
theorem ks_896 : (Int16.ofInt 896).toInt32 = 896 := by decide
theorem ks_900 : (Int16.ofInt 900).toInt32 = 900 := by decide
theorem ks_960 : (Int16.ofInt 960).toInt32 = 960 := by decide
theorem ks_999 : (Int16.ofInt 999).toInt32 = 999 := by decide
theorem ks_1000 : (Int16.ofInt 1000).toInt32 = 1000 := by decide
theorem ks_1023 : (Int16.ofInt 1023).toInt32 = 1023 := by decide
theorem ks_1024 : (Int16.ofInt 1024).toInt32 = 1024 := by decide
theorem ks_1472 : (Int16.ofInt 1472).toInt32 = 1472 := by decide
theorem ks_2380 : (Int16.ofInt 2380).toInt32 = 2380 := by decide
theorem ks_2400 : (Int16.ofInt 2400).toInt32 = 2400 := by decide
theorem ks_3584 : (Int16.ofInt 3584).toInt32 = 3584 := by decide
theorem ks_4096 : (Int16.ofInt 4096).toInt32 = 4096 := by decide
theorem ks_7140 : (Int16.ofInt 7140).toInt32 = 7140 := by decide
theorem ks_10000 : (Int16.ofInt 10000).toInt32 = 10000 := by decide
theorem ks_12345 : (Int16.ofInt 12345).toInt32 = 12345 := by decide
theorem ks_20000 : (Int16.ofInt 20000).toInt32 = 20000 := by decide
theorem ks_30000 : (Int16.ofInt 30000).toInt32 = 30000 := by decide
theorem cn_0 : ((0 : Int32)).toNatClampNeg = 0 := by decide
theorem cz_0 : ¬ ((0 : Int32)) < 0 := by decide
theorem cn_1 : ((1 : Int32)).toNatClampNeg = 1 := by decide
theorem cz_1 : ¬ ((1 : Int32)) < 0 := by decide
theorem cn_2 : ((2 : Int32)).toNatClampNeg = 2 := by decide
theorem cz_2 : ¬ ((2 : Int32)) < 0 := by decide
theorem cn_3 : ((3 : Int32)).toNatClampNeg = 3 := by decide
theorem cz_3 : ¬ ((3 : Int32)) < 0 := by decide
theorem cn_4 : ((4 : Int32)).toNatClampNeg = 4 := by decide
theorem cz_4 : ¬ ((4 : Int32)) < 0 := by decide
theorem cn_5 : ((5 : Int32)).toNatClampNeg = 5 := by decide
theorem cz_5 : ¬ ((5 : Int32)) < 0 := by decide
theorem cn_6 : ((6 : Int32)).toNatClampNeg = 6 := by decide
theorem cz_6 : ¬ ((6 : Int32)) < 0 := by decide
theorem cn_7 : ((7 : Int32)).toNatClampNeg = 7 := by decide
theorem cz_7 : ¬ ((7 : Int32)) < 0 := by decide
theorem cn_8 : ((8 : Int32)).toNatClampNeg = 8 := by decide
theorem cz_8 : ¬ ((8 : Int32)) < 0 := by decide
theorem cn_9 : ((9 : Int32)).toNatClampNeg = 9 := by decide
theorem cz_9 : ¬ ((9 : Int32)) < 0 := by decide
theorem cn_10 : ((10 : Int32)).toNatClampNeg = 10 := by decide
theorem cz_10 : ¬ ((10 : Int32)) < 0 := by decide
theorem cn_11 : ((11 : Int32)).toNatClampNeg = 11 := by decide
theorem cz_11 : ¬ ((11 : Int32)) < 0 := by decide
theorem cn_12 : ((12 : Int32)).toNatClampNeg = 12 := by decide
theorem cz_12 : ¬ ((12 : Int32)) < 0 := by decide
theorem cn_13 : ((13 : Int32)).toNatClampNeg = 13 := by decide
theorem cz_13 : ¬ ((13 : Int32)) < 0 := by decide
theorem cn_14 : ((14 : Int32)).toNatClampNeg = 14 := by decide
theorem cz_14 : ¬ ((14 : Int32)) < 0 := by decide
theorem cn_15 : ((15 : Int32)).toNatClampNeg = 15 := by decide
theorem cz_15 : ¬ ((15 : Int32)) < 0 := by decide
theorem cn_16 : ((16 : Int32)).toNatClampNeg = 16 := by decide
theorem cz_16 : ¬ ((16 : Int32)) < 0 := by decide
theorem cn_17 : ((17 : Int32)).toNatClampNeg = 17 := by decide
theorem cz_17 : ¬ ((17 : Int32)) < 0 := by decide
theorem cn_18 : ((18 : Int32)).toNatClampNeg = 18 := by decide
theorem cz_18 : ¬ ((18 : Int32)) < 0 := by decide
theorem cn_19 : ((19 : Int32)).toNatClampNeg = 19 := by decide
theorem cz_19 : ¬ ((19 : Int32)) < 0 := by decide
theorem cn_20 : ((20 : Int32)).toNatClampNeg = 20 := by decide
theorem cz_20 : ¬ ((20 : Int32)) < 0 := by decide
theorem cn_21 : ((21 : Int32)).toNatClampNeg = 21 := by decide
theorem cz_21 : ¬ ((21 : Int32)) < 0 := by decide
theorem cn_22 : ((22 : Int32)).toNatClampNeg = 22 := by decide
theorem cz_22 : ¬ ((22 : Int32)) < 0 := by decide
theorem cn_24 : ((24 : Int32)).toNatClampNeg = 24 := by decide
theorem cz_24 : ¬ ((24 : Int32)) < 0 := by decide
theorem cn_25 : ((25 : Int32)).toNatClampNeg = 25 := by decide
theorem cz_25 : ¬ ((25 : Int32)) < 0 := by decide
theorem cn_28 : ((28 : Int32)).toNatClampNeg = 28 := by decide
theorem cz_28 : ¬ ((28 : Int32)) < 0 := by decide
theorem cn_30 : ((30 : Int32)).toNatClampNeg = 30 := by decide
theorem cz_30 : ¬ ((30 : Int32)) < 0 := by decide
theorem cn_32 : ((32 : Int32)).toNatClampNeg = 32 := by decide
theorem cz_32 : ¬ ((32 : Int32)) < 0 := by decide
theorem cn_33 : ((33 : Int32)).toNatClampNeg = 33 := by decide
theorem cz_33 : ¬ ((33 : Int32)) < 0 := by decide
theorem cn_37 : ((37 : Int32)).toNatClampNeg = 37 := by decide
theorem cz_37 : ¬ ((37 : Int32)) < 0 := by decide
theorem cn_40 : ((40 : Int32)).toNatClampNeg = 40 := by decide
theorem cz_40 : ¬ ((40 : Int32)) < 0 := by decide
theorem cn_41 : ((41 : Int32)).toNatClampNeg = 41 := by decide
theorem cz_41 : ¬ ((41 : Int32)) < 0 := by decide
theorem cn_42 : ((42 : Int32)).toNatClampNeg = 42 := by decide
theorem cz_42 : ¬ ((42 : Int32)) < 0 := by decide
theorem cn_43 : ((43 : Int32)).toNatClampNeg = 43 := by decide
theorem cz_43 : ¬ ((43 : Int32)) < 0 := by decide
theorem cn_45 : ((45 : Int32)).toNatClampNeg = 45 := by decide
theorem cz_45 : ¬ ((45 : Int32)) < 0 := by decide
theorem cn_48 : ((48 : Int32)).toNatClampNeg = 48 := by decide
theorem cz_48 : ¬ ((48 : Int32)) < 0 := by decide
theorem cn_49 : ((49 : Int32)).toNatClampNeg = 49 := by decide
theorem cz_49 : ¬ ((49 : Int32)) < 0 := by decide
theorem cn_53 : ((53 : Int32)).toNatClampNeg = 53 := by decide
theorem cz_53 : ¬ ((53 : Int32)) < 0 := by decide
theorem cn_54 : ((54 : Int32)).toNatClampNeg = 54 := by decide
theorem cz_54 : ¬ ((54 : Int32)) < 0 := by decide
theorem cn_55 : ((55 : Int32)).toNatClampNeg = 55 := by decide
theorem cz_55 : ¬ ((55 : Int32)) < 0 := by decide
theorem cn_56 : ((56 : Int32)).toNatClampNeg = 56 := by decide
theorem cz_56 : ¬ ((56 : Int32)) < 0 := by decide
theorem cn_57 : ((57 : Int32)).toNatClampNeg = 57 := by decide
theorem cz_57 : ¬ ((57 : Int32)) < 0 := by decide
theorem cn_58 : ((58 : Int32)).toNatClampNeg = 58 := by decide
theorem cz_58 : ¬ ((58 : Int32)) < 0 := by decide
theorem cn_59 : ((59 : Int32)).toNatClampNeg = 59 := by decide
theorem cz_59 : ¬ ((59 : Int32)) < 0 := by decide
theorem cn_60 : ((60 : Int32)).toNatClampNeg = 60 := by decide
theorem cz_60 : ¬ ((60 : Int32)) < 0 := by decide
theorem cn_61 : ((61 : Int32)).toNatClampNeg = 61 := by decide
theorem cz_61 : ¬ ((61 : Int32)) < 0 := by decide
theorem cn_62 : ((62 : Int32)).toNatClampNeg = 62 := by decide
theorem cz_62 : ¬ ((62 : Int32)) < 0 := by decide
theorem cn_63 : ((63 : Int32)).toNatClampNeg = 63 := by decide
theorem cz_63 : ¬ ((63 : Int32)) < 0 := by decide
theorem cn_64 : ((64 : Int32)).toNatClampNeg = 64 := by decide
theorem cz_64 : ¬ ((64 : Int32)) < 0 := by decide
theorem cn_66 : ((66 : Int32)).toNatClampNeg = 66 := by decide
theorem cz_66 : ¬ ((66 : Int32)) < 0 := by decide
theorem cn_74 : ((74 : Int32)).toNatClampNeg = 74 := by decide
theorem cz_74 : ¬ ((74 : Int32)) < 0 := by decide
theorem cn_82 : ((82 : Int32)).toNatClampNeg = 82 := by decide
theorem cz_82 : ¬ ((82 : Int32)) < 0 := by decide
theorem cn_91 : ((91 : Int32)).toNatClampNeg = 91 := by decide
theorem cz_91 : ¬ ((91 : Int32)) < 0 := by decide
theorem cn_93 : ((93 : Int32)).toNatClampNeg = 93 := by decide
theorem cz_93 : ¬ ((93 : Int32)) < 0 := by decide
theorem cn_97 : ((97 : Int32)).toNatClampNeg = 97 := by decide
theorem cz_97 : ¬ ((97 : Int32)) < 0 := by decide
theorem cn_99 : ((99 : Int32)).toNatClampNeg = 99 := by decide
theorem cz_99 : ¬ ((99 : Int32)) < 0 := by decide
theorem cn_100 : ((100 : Int32)).toNatClampNeg = 100 := by decide
theorem cz_100 : ¬ ((100 : Int32)) < 0 := by decide
theorem cn_120 : ((120 : Int32)).toNatClampNeg = 120 := by decide
theorem cz_120 : ¬ ((120 : Int32)) < 0 := by decide
theorem cn_122 : ((122 : Int32)).toNatClampNeg = 122 := by decide
theorem cz_122 : ¬ ((122 : Int32)) < 0 := by decide
theorem cn_200 : ((200 : Int32)).toNatClampNeg = 200 := by decide
theorem cz_200 : ¬ ((200 : Int32)) < 0 := by decide
theorem cn_201 : ((201 : Int32)).toNatClampNeg = 201 := by decide
theorem cz_201 : ¬ ((201 : Int32)) < 0 := by decide
theorem cn_224 : ((224 : Int32)).toNatClampNeg = 224 := by decide
theorem cz_224 : ¬ ((224 : Int32)) < 0 := by decide
theorem cn_255 : ((255 : Int32)).toNatClampNeg = 255 := by decide
theorem cz_255 : ¬ ((255 : Int32)) < 0 := by decide
theorem cn_256 : ((256 : Int32)).toNatClampNeg = 256 := by decide
theorem cz_256 : ¬ ((256 : Int32)) < 0 := by decide
theorem cn_257 : ((257 : Int32)).toNatClampNeg = 257 := by decide
theorem cz_257 : ¬ ((257 : Int32)) < 0 := by decide
theorem cn_258 : ((258 : Int32)).toNatClampNeg = 258 := by decide
theorem cz_258 : ¬ ((258 : Int32)) < 0 := by decide
theorem cn_299 : ((299 : Int32)).toNatClampNeg = 299 := by decide
theorem cz_299 : ¬ ((299 : Int32)) < 0 := by decide
theorem cn_300 : ((300 : Int32)).toNatClampNeg = 300 := by decide
theorem cz_300 : ¬ ((300 : Int32)) < 0 := by decide
theorem cn_301 : ((301 : Int32)).toNatClampNeg = 301 := by decide
theorem cz_301 : ¬ ((301 : Int32)) < 0 := by decide
theorem cn_304 : ((304 : Int32)).toNatClampNeg = 304 := by decide
theorem cz_304 : ¬ ((304 : Int32)) < 0 := by decide
theorem cn_305 : ((305 : Int32)).toNatClampNeg = 305 := by decide
theorem cz_305 : ¬ ((305 : Int32)) < 0 := by decide
theorem cn_306 : ((306 : Int32)).toNatClampNeg = 306 := by decide
theorem cz_306 : ¬ ((306 : Int32)) < 0 := by decide
theorem cn_307 : ((307 : Int32)).toNatClampNeg = 307 := by decide
theorem cz_307 : ¬ ((307 : Int32)) < 0 := by decide
theorem cn_308 : ((308 : Int32)).toNatClampNeg = 308 := by decide
theorem cz_308 : ¬ ((308 : Int32)) < 0 := by decide
theorem cn_309 : ((309 : Int32)).toNatClampNeg = 309 := by decide
theorem cz_309 : ¬ ((309 : Int32)) < 0 := by decide
theorem cn_310 : ((310 : Int32)).toNatClampNeg = 310 := by decide
theorem cz_310 : ¬ ((310 : Int32)) < 0 := by decide
theorem cn_311 : ((311 : Int32)).toNatClampNeg = 311 := by decide
theorem cz_311 : ¬ ((311 : Int32)) < 0 := by decide
theorem cn_312 : ((312 : Int32)).toNatClampNeg = 312 := by decide
theorem cz_312 : ¬ ((312 : Int32)) < 0 := by decide
theorem cn_313 : ((313 : Int32)).toNatClampNeg = 313 := by decide
theorem cz_313 : ¬ ((313 : Int32)) < 0 := by decide
theorem cn_314 : ((314 : Int32)).toNatClampNeg = 314 := by decide
theorem cz_314 : ¬ ((314 : Int32)) < 0 := by decide
theorem cn_315 : ((315 : Int32)).toNatClampNeg = 315 := by decide
theorem cz_315 : ¬ ((315 : Int32)) < 0 := by decide
theorem cn_316 : ((316 : Int32)).toNatClampNeg = 316 := by decide
theorem cz_316 : ¬ ((316 : Int32)) < 0 := by decide
theorem cn_317 : ((317 : Int32)).toNatClampNeg = 317 := by decide
theorem cz_317 : ¬ ((317 : Int32)) < 0 := by decide
theorem cn_318 : ((318 : Int32)).toNatClampNeg = 318 := by decide
theorem cz_318 : ¬ ((318 : Int32)) < 0 := by decide
theorem cn_319 : ((319 : Int32)).toNatClampNeg = 319 := by decide
theorem cz_319 : ¬ ((319 : Int32)) < 0 := by decide
theorem cn_320 : ((320 : Int32)).toNatClampNeg = 320 := by decide
theorem cz_320 : ¬ ((320 : Int32)) < 0 := by decide
theorem cn_490 : ((490 : Int32)).toNatClampNeg = 490 := by decide
theorem cz_490 : ¬ ((490 : Int32)) < 0 := by decide
theorem cn_523 : ((523 : Int32)).toNatClampNeg = 523 := by decide
theorem cz_523 : ¬ ((523 : Int32)) < 0 := by decide
theorem cn_572 : ((572 : Int32)).toNatClampNeg = 572 := by decide
theorem cz_572 : ¬ ((572 : Int32)) < 0 := by decide
theorem cn_793 : ((793 : Int32)).toNatClampNeg = 793 := by decide
theorem cz_793 : ¬ ((793 : Int32)) < 0 := by decide
theorem cn_896 : ((896 : Int32)).toNatClampNeg = 896 := by decide
theorem cz_896 : ¬ ((896 : Int32)) < 0 := by decide
theorem cn_900 : ((900 : Int32)).toNatClampNeg = 900 := by decide
theorem cz_900 : ¬ ((900 : Int32)) < 0 := by decide
theorem cn_960 : ((960 : Int32)).toNatClampNeg = 960 := by decide
theorem cz_960 : ¬ ((960 : Int32)) < 0 := by decide
theorem cn_999 : ((999 : Int32)).toNatClampNeg = 999 := by decide
theorem cz_999 : ¬ ((999 : Int32)) < 0 := by decide
theorem cn_1000 : ((1000 : Int32)).toNatClampNeg = 1000 := by decide
theorem cz_1000 : ¬ ((1000 : Int32)) < 0 := by decide
theorem cn_1023 : ((1023 : Int32)).toNatClampNeg = 1023 := by decide
theorem cz_1023 : ¬ ((1023 : Int32)) < 0 := by decide
theorem cn_1024 : ((1024 : Int32)).toNatClampNeg = 1024 := by decide
theorem cz_1024 : ¬ ((1024 : Int32)) < 0 := by decide
theorem cn_1472 : ((1472 : Int32)).toNatClampNeg = 1472 := by decide
theorem cz_1472 : ¬ ((1472 : Int32)) < 0 := by decide
theorem cn_2380 : ((2380 : Int32)).toNatClampNeg = 2380 := by decide
theorem cz_2380 : ¬ ((2380 : Int32)) < 0 := by decide
theorem cn_2400 : ((2400 : Int32)).toNatClampNeg = 2400 := by decide
theorem cz_2400 : ¬ ((2400 : Int32)) < 0 := by decide
theorem cn_3584 : ((3584 : Int32)).toNatClampNeg = 3584 := by decide
theorem cz_3584 : ¬ ((3584 : Int32)) < 0 := by decide
theorem cn_4096 : ((4096 : Int32)).toNatClampNeg = 4096 := by decide
theorem cz_4096 : ¬ ((4096 : Int32)) < 0 := by decide
theorem cn_7140 : ((7140 : Int32)).toNatClampNeg = 7140 := by decide
theorem cz_7140 : ¬ ((7140 : Int32)) < 0 := by decide
theorem cn_10000 : ((10000 : Int32)).toNatClampNeg = 10000 := by decide
theorem cz_10000 : ¬ ((10000 : Int32)) < 0 := by decide
theorem cn_12345 : ((12345 : Int32)).toNatClampNeg = 12345 := by decide
theorem cz_12345 : ¬ ((12345 : Int32)) < 0 := by decide
theorem cn_20000 : ((20000 : Int32)).toNatClampNeg = 20000 := by decide
theorem cz_20000 : ¬ ((20000 : Int32)) < 0 := by decide
theorem cn_30000 : ((30000 : Int32)).toNatClampNeg = 30000 := by decide
theorem cz_30000 : ¬ ((30000 : Int32)) < 0 := by decide
def mwL : List (Nat × Nat × Nat × Nat) := [(0, 44, 100, 2380), (1, 45, 100, 2380), (2, 46, 100, 7140), (3, 47, 103, 3), (5, 48, 100, 900), (19, 49, 100, 64), (20, 50, 100, 7), (21, 51, 100, 2400), (22, 52, 100, 1024), (23, 53, 100, 4096), (24, 54, 103, 4096), (25, 55, 100, 49), (27, 56, 100, 201), (28, 57, 100, 305), (29, 58, 100, 61), (30, 59, 100, 61), (31, 60, 100, 5), (32, 61, 100, 5), (33, 62, 101, 5), (34, 63, 101, 5), (35, 64, 100, 4), (36, 65, 100, 4), (39, 66, 100, 41), (40, 67, 100, 793), (41, 68, 100, 4), (42, 69, 100, 4), (43, 70, 101, 120)]
def MW (R : Nat → Nat → Option Nat) (S : Nat → Nat × Nat) (nx : Nat) : Prop := 72 ≤ nx ∧ (S 43).1 = 12 ∧ ∀ q ∈ mwL, R 43 q.1 = some q.2.1 ∧ S q.2.1 = (q.2.2.1, q.2.2.2)
section MWs
variable {R : Nat → Nat → Option Nat} {S : Nat → Nat × Nat} {nx : Nat}
theorem mw_n (w : MW R S nx) {a : Nat} (h : a < 72) : a < nx := Nat.lt_of_lt_of_le h w.1
theorem mw_R_known (w : MW R S nx) : R 43 0 = some 44 := (w.2.2 (0, 44, 100, 2380) (by decide)).1
theorem mw_S_known (w : MW R S nx) : S 44 = (100, 2380) := (w.2.2 (0, 44, 100, 2380) (by decide)).2
theorem mw_R_telling (w : MW R S nx) : R 43 1 = some 45 := (w.2.2 (1, 45, 100, 2380) (by decide)).1
theorem mw_S_telling (w : MW R S nx) : S 45 = (100, 2380) := (w.2.2 (1, 45, 100, 2380) (by decide)).2
theorem mw_R_images (w : MW R S nx) : R 43 2 = some 46 := (w.2.2 (2, 46, 100, 7140) (by decide)).1
theorem mw_S_images (w : MW R S nx) : S 46 = (100, 7140) := (w.2.2 (2, 46, 100, 7140) (by decide)).2
theorem mw_R_isImage (w : MW R S nx) : R 43 3 = some 47 := (w.2.2 (3, 47, 103, 3) (by decide)).1
theorem mw_S_isImage (w : MW R S nx) : S 47 = (103, 3) := (w.2.2 (3, 47, 103, 3) (by decide)).2
theorem mw_R_tape (w : MW R S nx) : R 43 5 = some 48 := (w.2.2 (5, 48, 100, 900) (by decide)).1
theorem mw_S_tape (w : MW R S nx) : S 48 = (100, 900) := (w.2.2 (5, 48, 100, 900) (by decide)).2
theorem mw_R_stack (w : MW R S nx) : R 43 19 = some 49 := (w.2.2 (19, 49, 100, 64) (by decide)).1
theorem mw_S_stack (w : MW R S nx) : S 49 = (100, 64) := (w.2.2 (19, 49, 100, 64) (by decide)).2
theorem mw_R_asked (w : MW R S nx) : R 43 20 = some 50 := (w.2.2 (20, 50, 100, 7) (by decide)).1
theorem mw_S_asked (w : MW R S nx) : S 50 = (100, 7) := (w.2.2 (20, 50, 100, 7) (by decide)).2
theorem mw_R_codes (w : MW R S nx) : R 43 21 = some 51 := (w.2.2 (21, 51, 100, 2400) (by decide)).1
theorem mw_S_codes (w : MW R S nx) : S 51 = (100, 2400) := (w.2.2 (21, 51, 100, 2400) (by decide)).2
theorem mw_R_degrees (w : MW R S nx) : R 43 22 = some 52 := (w.2.2 (22, 52, 100, 1024) (by decide)).1
theorem mw_S_degrees (w : MW R S nx) : S 52 = (100, 1024) := (w.2.2 (22, 52, 100, 1024) (by decide)).2
theorem mw_R_fines (w : MW R S nx) : R 43 23 = some 53 := (w.2.2 (23, 53, 100, 4096) (by decide)).1
theorem mw_S_fines (w : MW R S nx) : S 53 = (100, 4096) := (w.2.2 (23, 53, 100, 4096) (by decide)).2
theorem mw_R_bars (w : MW R S nx) : R 43 24 = some 54 := (w.2.2 (24, 54, 103, 4096) (by decide)).1
theorem mw_S_bars (w : MW R S nx) : S 54 = (103, 4096) := (w.2.2 (24, 54, 103, 4096) (by decide)).2
theorem mw_R_aside (w : MW R S nx) : R 43 25 = some 55 := (w.2.2 (25, 55, 100, 49) (by decide)).1
theorem mw_S_aside (w : MW R S nx) : S 55 = (100, 49) := (w.2.2 (25, 55, 100, 49) (by decide)).2
theorem mw_R_inForce (w : MW R S nx) : R 43 27 = some 56 := (w.2.2 (27, 56, 100, 201) (by decide)).1
theorem mw_S_inForce (w : MW R S nx) : S 56 = (100, 201) := (w.2.2 (27, 56, 100, 201) (by decide)).2
theorem mw_R_wayFines (w : MW R S nx) : R 43 28 = some 57 := (w.2.2 (28, 57, 100, 305) (by decide)).1
theorem mw_S_wayFines (w : MW R S nx) : S 57 = (100, 305) := (w.2.2 (28, 57, 100, 305) (by decide)).2
theorem mw_R_may (w : MW R S nx) : R 43 29 = some 58 := (w.2.2 (29, 58, 100, 61) (by decide)).1
theorem mw_S_may (w : MW R S nx) : S 58 = (100, 61) := (w.2.2 (29, 58, 100, 61) (by decide)).2
theorem mw_R_can (w : MW R S nx) : R 43 30 = some 59 := (w.2.2 (30, 59, 100, 61) (by decide)).1
theorem mw_S_can (w : MW R S nx) : S 59 = (100, 61) := (w.2.2 (30, 59, 100, 61) (by decide)).2
theorem mw_R_least (w : MW R S nx) : R 43 31 = some 60 := (w.2.2 (31, 60, 100, 5) (by decide)).1
theorem mw_S_least (w : MW R S nx) : S 60 = (100, 5) := (w.2.2 (31, 60, 100, 5) (by decide)).2
theorem mw_R_leastThen (w : MW R S nx) : R 43 32 = some 61 := (w.2.2 (32, 61, 100, 5) (by decide)).1
theorem mw_S_leastThen (w : MW R S nx) : S 61 = (100, 5) := (w.2.2 (32, 61, 100, 5) (by decide)).2
theorem mw_R_many (w : MW R S nx) : R 43 33 = some 62 := (w.2.2 (33, 62, 101, 5) (by decide)).1
theorem mw_S_many (w : MW R S nx) : S 62 = (101, 5) := (w.2.2 (33, 62, 101, 5) (by decide)).2
theorem mw_R_manyThen (w : MW R S nx) : R 43 34 = some 63 := (w.2.2 (34, 63, 101, 5) (by decide)).1
theorem mw_S_manyThen (w : MW R S nx) : S 63 = (101, 5) := (w.2.2 (34, 63, 101, 5) (by decide)).2
theorem mw_R_order (w : MW R S nx) : R 43 35 = some 64 := (w.2.2 (35, 64, 100, 4) (by decide)).1
theorem mw_S_order (w : MW R S nx) : S 64 = (100, 4) := (w.2.2 (35, 64, 100, 4) (by decide)).2
theorem mw_R_bestRow (w : MW R S nx) : R 43 36 = some 65 := (w.2.2 (36, 65, 100, 4) (by decide)).1
theorem mw_S_bestRow (w : MW R S nx) : S 65 = (100, 4) := (w.2.2 (36, 65, 100, 4) (by decide)).2
theorem mw_R_breaths (w : MW R S nx) : R 43 39 = some 66 := (w.2.2 (39, 66, 100, 41) (by decide)).1
theorem mw_S_breaths (w : MW R S nx) : S 66 = (100, 41) := (w.2.2 (39, 66, 100, 41) (by decide)).2
theorem mw_R_likeFines (w : MW R S nx) : R 43 40 = some 67 := (w.2.2 (40, 67, 100, 793) (by decide)).1
theorem mw_S_likeFines (w : MW R S nx) : S 67 = (100, 793) := (w.2.2 (40, 67, 100, 793) (by decide)).2
theorem mw_R_tSort (w : MW R S nx) : R 43 41 = some 68 := (w.2.2 (41, 68, 100, 4) (by decide)).1
theorem mw_S_tSort (w : MW R S nx) : S 68 = (100, 4) := (w.2.2 (41, 68, 100, 4) (by decide)).2
theorem mw_R_tMany (w : MW R S nx) : R 43 42 = some 69 := (w.2.2 (42, 69, 100, 4) (by decide)).1
theorem mw_S_tMany (w : MW R S nx) : S 69 = (100, 4) := (w.2.2 (42, 69, 100, 4) (by decide)).2
theorem mw_R_numbers (w : MW R S nx) : R 43 43 = some 70 := (w.2.2 (43, 70, 101, 120) (by decide)).1
theorem mw_S_numbers (w : MW R S nx) : S 70 = (101, 120) := (w.2.2 (43, 70, 101, 120) (by decide)).2
end MWs
theorem wp_sw_m8_m1 {P : Prop} (x : Int32) (ho : (x.toInt < (-8) ∨ (-1) < x.toInt) → P) (hm8 : x = (-8) → P) (hm7 : x = (-7) → P) (hm6 : x = (-6) → P) (hm5 : x = (-5) → P) (hm4 : x = (-4) → P) (hm3 : x = (-3) → P) (hm2 : x = (-2) → P) (hm1 : x = (-1) → P) : P := by
  by_cases hx : (x.toInt < (-8) ∨ (-1) < x.toInt)
  · exact ho hx
  · have hc : x.toInt = (-8) ∨ x.toInt = (-7) ∨ x.toInt = (-6) ∨ x.toInt = (-5) ∨ x.toInt = (-4) ∨ x.toInt = (-3) ∨ x.toInt = (-2) ∨ x.toInt = (-1) := by omega
    rcases hc with h | h | h | h | h | h | h | h
    · exact hm8 (Int32.toInt_inj.mp (by rw [h]; decide))
    · exact hm7 (Int32.toInt_inj.mp (by rw [h]; decide))
    · exact hm6 (Int32.toInt_inj.mp (by rw [h]; decide))
    · exact hm5 (Int32.toInt_inj.mp (by rw [h]; decide))
    · exact hm4 (Int32.toInt_inj.mp (by rw [h]; decide))
    · exact hm3 (Int32.toInt_inj.mp (by rw [h]; decide))
    · exact hm2 (Int32.toInt_inj.mp (by rw [h]; decide))
    · exact hm1 (Int32.toInt_inj.mp (by rw [h]; decide))
theorem wp_sw_0_2 {P : Prop} (x : Int32) (ho : (x.toInt < 0 ∨ 2 < x.toInt) → P) (h0 : x = 0 → P) (h1 : x = 1 → P) (h2 : x = 2 → P) : P := by
  by_cases hx : (x.toInt < 0 ∨ 2 < x.toInt)
  · exact ho hx
  · have hc : x.toInt = 0 ∨ x.toInt = 1 ∨ x.toInt = 2 := by omega
    rcases hc with h | h | h
    · exact h0 (Int32.toInt_inj.mp (by rw [h]; decide))
    · exact h1 (Int32.toInt_inj.mp (by rw [h]; decide))
    · exact h2 (Int32.toInt_inj.mp (by rw [h]; decide))
theorem wp_sw_0_3 {P : Prop} (x : Int32) (ho : (x.toInt < 0 ∨ 3 < x.toInt) → P) (h0 : x = 0 → P) (h1 : x = 1 → P) (h2 : x = 2 → P) (h3 : x = 3 → P) : P := by
  by_cases hx : (x.toInt < 0 ∨ 3 < x.toInt)
  · exact ho hx
  · have hc : x.toInt = 0 ∨ x.toInt = 1 ∨ x.toInt = 2 ∨ x.toInt = 3 := by omega
    rcases hc with h | h | h | h
    · exact h0 (Int32.toInt_inj.mp (by rw [h]; decide))
    · exact h1 (Int32.toInt_inj.mp (by rw [h]; decide))
    · exact h2 (Int32.toInt_inj.mp (by rw [h]; decide))
    · exact h3 (Int32.toInt_inj.mp (by rw [h]; decide))
theorem wp_sw_0_4 {P : Prop} (x : Int32) (ho : (x.toInt < 0 ∨ 4 < x.toInt) → P) (h0 : x = 0 → P) (h1 : x = 1 → P) (h2 : x = 2 → P) (h3 : x = 3 → P) (h4 : x = 4 → P) : P := by
  by_cases hx : (x.toInt < 0 ∨ 4 < x.toInt)
  · exact ho hx
  · have hc : x.toInt = 0 ∨ x.toInt = 1 ∨ x.toInt = 2 ∨ x.toInt = 3 ∨ x.toInt = 4 := by omega
    rcases hc with h | h | h | h | h
    · exact h0 (Int32.toInt_inj.mp (by rw [h]; decide))
    · exact h1 (Int32.toInt_inj.mp (by rw [h]; decide))
    · exact h2 (Int32.toInt_inj.mp (by rw [h]; decide))
    · exact h3 (Int32.toInt_inj.mp (by rw [h]; decide))
    · exact h4 (Int32.toInt_inj.mp (by rw [h]; decide))
theorem wp_sw_0_8 {P : Prop} (x : Int32) (ho : (x.toInt < 0 ∨ 8 < x.toInt) → P) (h0 : x = 0 → P) (h1 : x = 1 → P) (h2 : x = 2 → P) (h3 : x = 3 → P) (h4 : x = 4 → P) (h5 : x = 5 → P) (h6 : x = 6 → P) (h7 : x = 7 → P) (h8 : x = 8 → P) : P := by
  by_cases hx : (x.toInt < 0 ∨ 8 < x.toInt)
  · exact ho hx
  · have hc : x.toInt = 0 ∨ x.toInt = 1 ∨ x.toInt = 2 ∨ x.toInt = 3 ∨ x.toInt = 4 ∨ x.toInt = 5 ∨ x.toInt = 6 ∨ x.toInt = 7 ∨ x.toInt = 8 := by omega
    rcases hc with h | h | h | h | h | h | h | h | h
    · exact h0 (Int32.toInt_inj.mp (by rw [h]; decide))
    · exact h1 (Int32.toInt_inj.mp (by rw [h]; decide))
    · exact h2 (Int32.toInt_inj.mp (by rw [h]; decide))
    · exact h3 (Int32.toInt_inj.mp (by rw [h]; decide))
    · exact h4 (Int32.toInt_inj.mp (by rw [h]; decide))
    · exact h5 (Int32.toInt_inj.mp (by rw [h]; decide))
    · exact h6 (Int32.toInt_inj.mp (by rw [h]; decide))
    · exact h7 (Int32.toInt_inj.mp (by rw [h]; decide))
    · exact h8 (Int32.toInt_inj.mp (by rw [h]; decide))
theorem wp_sw_10_16 {P : Prop} (x : Int32) (ho : (x.toInt < 10 ∨ 16 < x.toInt) → P) (h10 : x = 10 → P) (h11 : x = 11 → P) (h12 : x = 12 → P) (h13 : x = 13 → P) (h14 : x = 14 → P) (h15 : x = 15 → P) (h16 : x = 16 → P) : P := by
  by_cases hx : (x.toInt < 10 ∨ 16 < x.toInt)
  · exact ho hx
  · have hc : x.toInt = 10 ∨ x.toInt = 11 ∨ x.toInt = 12 ∨ x.toInt = 13 ∨ x.toInt = 14 ∨ x.toInt = 15 ∨ x.toInt = 16 := by omega
    rcases hc with h | h | h | h | h | h | h
    · exact h10 (Int32.toInt_inj.mp (by rw [h]; decide))
    · exact h11 (Int32.toInt_inj.mp (by rw [h]; decide))
    · exact h12 (Int32.toInt_inj.mp (by rw [h]; decide))
    · exact h13 (Int32.toInt_inj.mp (by rw [h]; decide))
    · exact h14 (Int32.toInt_inj.mp (by rw [h]; decide))
    · exact h15 (Int32.toInt_inj.mp (by rw [h]; decide))
    · exact h16 (Int32.toInt_inj.mp (by rw [h]; decide))
theorem wp_sw_300_306 {P : Prop} (x : Int32) (ho : (x.toInt < 300 ∨ 306 < x.toInt) → P) (h300 : x = 300 → P) (h301 : x = 301 → P) (h302 : x = 302 → P) (h303 : x = 303 → P) (h304 : x = 304 → P) (h305 : x = 305 → P) (h306 : x = 306 → P) : P := by
  by_cases hx : (x.toInt < 300 ∨ 306 < x.toInt)
  · exact ho hx
  · have hc : x.toInt = 300 ∨ x.toInt = 301 ∨ x.toInt = 302 ∨ x.toInt = 303 ∨ x.toInt = 304 ∨ x.toInt = 305 ∨ x.toInt = 306 := by omega
    rcases hc with h | h | h | h | h | h | h
    · exact h300 (Int32.toInt_inj.mp (by rw [h]; decide))
    · exact h301 (Int32.toInt_inj.mp (by rw [h]; decide))
    · exact h302 (Int32.toInt_inj.mp (by rw [h]; decide))
    · exact h303 (Int32.toInt_inj.mp (by rw [h]; decide))
    · exact h304 (Int32.toInt_inj.mp (by rw [h]; decide))
    · exact h305 (Int32.toInt_inj.mp (by rw [h]; decide))
    · exact h306 (Int32.toInt_inj.mp (by rw [h]; decide))
