/-! System.arraycopy on rows of ints and of longs -/
theorem ac_S : Cond.static arraycopyName ∈ TW := List.mem_filter.mpr ⟨tt_3 (List.mem_of_getElem? (i := 122) rfl), rfl⟩
theorem ac_N : Cond.native arraycopyName ∈ TW := List.mem_filter.mpr ⟨tt_3 (List.mem_of_getElem? (i := 123) rfl), rfl⟩
theorem ac_I : Cond.initialized "java/lang/System" ∈ TW := List.mem_filter.mpr ⟨tt_1 (List.mem_of_getElem? (i := 19) rfl), rfl⟩
/-- a row with a piece of another one in it -/
def upC {α : Type} (f : Nat → Nat → α) (a0 a sp dp n : Nat) : Nat → Nat → α := fun b j => if b = a ∧ dp ≤ j ∧ j < dp + n then f a0 (sp + (j - dp)) else f b j
theorem upC_ne {α : Type} {f : Nat → Nat → α} {a0 a sp dp n b : Nat} (h : b ≠ a) : upC f a0 a sp dp n b = f b := by
  funext j; unfold upC; rw [if_neg (fun g => h g.1)]
section B
variable {p : Program} {l : Launch} {e : Env} {R : Room} {s : State} {m : MethodId} {args : Array Value} {below : List Frame} {meth : Method} {c : Code} {H : Heap} {locs : List Loc} {cells slots : Nat} {Q : State → Prop}
variable {cc : ByteArray} {pc : Nat} {ls : Array Slot} {rest : List Value} {D : va_G} {cl : List vw_C} {A : Nat → Prop} {a : Nat} {tys : List (ClassId × FieldType)} {H0 : Heap}
theorem cl_nn (z : Int32) (hz : ¬ z < 0) : z.toInt = (z.toNatClampNeg : Int) := by
  rw [fa_lt, show (0 : Int32).toInt = 0 by decide] at hz
  rw [Int32.toNatClampNeg]; omega
theorem vz_copyi (hexec : p.tables.exec = Jvm.exec) (hb : c.code = cc) (hml : c.maxLocals = ls.size) {own : String} {index : Nat} (hown : s.vm.findClass own = some m.cls) (hlink : (Cond.methodLink own index arraycopyName).before args s = true) (hnat : (Cond.native arraycopyName).before args s = true) (hstat : (Cond.static arraycopyName).before args s = true) (hini : (Cond.initialized "java/lang/System").before args s = true)
    (hK : va_K D cl tys s) (hS : va_S A H0 H locs) (t0 : Nat) {a0 : Nat} {cA : ClassId} {n0 n1 : Nat} {f g : Nat → Int32} (ha0 : va_at D cl (a0, .inl (cA, n0, .inl f)) H) (ha1 : va_at D cl (a, .inl (cA, n1, .inl g)) H) (hA : A a) (ht : tys[t0]? = some (cA, .int))
    {sp dp n : Int32} (h1 : ¬ sp < 0) (h2 : ¬ dp < 0) (h3 : ¬ n < 0) (h4 : sp.toNatClampNeg + n.toNatClampNeg ≤ n0) (h5 : dp.toNatClampNeg + n.toNatClampNeg ≤ n1)
    (hframes : 1 ≤ R.frames) (hlocals : (rest.map fun v => v.category).sum + (nativeFrameWords "java/lang/System" "arraycopy" 5 + 11) ≤ R.locals) (hdg : decode cc pc = .ok (.invokestatic index, 3))
    (kk : ∀ (H1 : Heap) (locs1 : List Loc), va_at D cl (a, .inl (cA, n1, .inl (va_cpy f g sp.toNatClampNeg dp.toNatClampNeg n.toNatClampNeg))) H1 → H1.size = H.size → (∀ q, q ≠ a → H1[q]? = H[q]?) → va_S A H0 H1 locs1 → W p l e R s m args below meth c H1 locs1 cells slots Q (F0 m (pc + 3) ls rest)) :
    W p l e R s m args below meth c H locs cells slots Q (F0 m pc ls (.int n :: .int dp :: .ref a :: .int sp :: .ref a0 :: rest)) := by
  intro T hT X
  have hc0 : H[a0]? = some (vp_cell cA (n0, .inl f)) := ha0
  have hc1 : H[a]? = some (vp_cell cA (n1, .inl g)) := ha1
  obtain ⟨-, k0, hk0, cm0, hkk0⟩ := (hK.2 t0 _ ht).1 n0 (fun j => .int (f j))
  obtain ⟨-, k1, hk1, cm1, hkk1⟩ := (hK.2 t0 _ ht).1 n1 (fun j => .int (g j))
  obtain ⟨vm', X', step⟩ := X.arraycopy hexec hown hlink hnat hstat hini (src := a0) (dst := a) (cs := vp_cell cA (n0, .inl f)) (cd := vp_cell cA (n1, .inl g)) (srcPos := sp) (destPos := dp) (n := n) (by rw [hT]; exact hc0) (by rw [hT]; exact hc1) (fun _ h => by cases h) (fun _ h => by cases h) (fun h => by cases h) (fun h => by cases h) hk0 hk1 hkk0 hkk1 (by simp [refKind]) h1 h2 h3
    (by rw [cl_nn sp h1, cl_nn n h3]; show ¬ _ > ((arrV cA n0 (fun j => .int (f j))).slots.size : Int); rw [arrV_size]; omega)
    (by rw [cl_nn dp h2, cl_nn n h3]; show ¬ _ > ((arrV cA n1 (fun j => .int (g j))).slots.size : Int); rw [arrV_size]; omega)
    (fun vm₁ _ i hi => by
      have e : (vp_cell cA (n0, .inl f)).slots.getD (sp.toNatClampNeg + i) .null = .int (f (sp.toNatClampNeg + i)) := by
        show (arrV cA n0 (fun j => .int (f j))).slots.getD _ _ = _
        rw [Array.getD_eq_getD_getElem?, arrV_read _ _ (by omega)]; rfl
      rw [e]; exact ⟨rfl, trivial⟩)
    (g := F0 m pc ls (.int n :: .int dp :: .ref a :: .int sp :: .ref a0 :: rest)) rfl (by rw [hml]) (rest := rest) rfl (by rw [hb]; exact hdg) hframes (by show 2 * 0 + _ + _ ≤ _; omega)
  have e1 : copied (vp_cell cA (n0, .inl f)) (vp_cell cA (n1, .inl g)) sp dp n = vp_cell cA (n1, .inl (va_cpy f g sp.toNatClampNeg dp.toNatClampNeg n.toNatClampNeg)) := va_copied (fun z => .int z) cA cA f g h4
  rw [e1] at X' step
  obtain ⟨cell, hcell⟩ : ∃ cell, vp_cell cA (n1, .inl (va_cpy f g sp.toNatClampNeg dp.toNatClampNeg n.toNatClampNeg)) = cell := ⟨_, rfl⟩
  rw [hcell] at X' step
  have hl : a < H.size := (Array.getElem?_eq_some_iff.mp hc1).1
  have oq : ∀ q : Nat, q ≠ a → (H.setIfInBounds a cell)[q]? = H[q]? := fun q hq => by simp [Array.getElem?_setIfInBounds, Ne.symm hq]
  have hz : (H.setIfInBounds a cell).size = H.size := by simp
  have hat : va_at D cl (a, .inl (cA, n1, .inl (va_cpy f g sp.toNatClampNeg dp.toNatClampNeg n.toNatClampNeg))) (H.setIfInBounds a cell) := by
    show (H.setIfInBounds a cell)[a]? = some (vp_cell cA _)
    rw [hcell]; simp [Array.getElem?_setIfInBounds, hl]
  obtain ⟨t, a1, b1⟩ := kk _ _ hat hz oq ⟨by rw [hz]; exact hS.1, fun q g1 g2 => by
      rw [oq q (fun e => g2 (by rw [e]; exact hA))]; exact hS.2.1 q g1 g2, fun q hq => by
      rcases List.mem_append.mp hq with h | h
      · exact hS.2.2 q h
      · obtain ⟨z, -, hz⟩ := List.mem_map.mp h
        rw [← hz]; exact hA⟩ _ (by rw [← hT]; rfl) X'
  exact ⟨t, step t a1, b1⟩
theorem vz_copyl (hexec : p.tables.exec = Jvm.exec) (hb : c.code = cc) (hml : c.maxLocals = ls.size) {own : String} {index : Nat} (hown : s.vm.findClass own = some m.cls) (hlink : (Cond.methodLink own index arraycopyName).before args s = true) (hnat : (Cond.native arraycopyName).before args s = true) (hstat : (Cond.static arraycopyName).before args s = true) (hini : (Cond.initialized "java/lang/System").before args s = true)
    (hK : va_K D cl tys s) (hS : va_S A H0 H locs) (t0 : Nat) {a0 : Nat} {cA : ClassId} {n0 n1 : Nat} {f g : Nat → Int64} (ha0 : va_at D cl (a0, .inl (cA, n0, .inr (.inl f))) H) (ha1 : va_at D cl (a, .inl (cA, n1, .inr (.inl g))) H) (hA : A a) (ht : tys[t0]? = some (cA, .long))
    {sp dp n : Int32} (h1 : ¬ sp < 0) (h2 : ¬ dp < 0) (h3 : ¬ n < 0) (h4 : sp.toNatClampNeg + n.toNatClampNeg ≤ n0) (h5 : dp.toNatClampNeg + n.toNatClampNeg ≤ n1)
    (hframes : 1 ≤ R.frames) (hlocals : (rest.map fun v => v.category).sum + (nativeFrameWords "java/lang/System" "arraycopy" 5 + 11) ≤ R.locals) (hdg : decode cc pc = .ok (.invokestatic index, 3))
    (kk : ∀ (H1 : Heap) (locs1 : List Loc), va_at D cl (a, .inl (cA, n1, .inr (.inl (va_cpy f g sp.toNatClampNeg dp.toNatClampNeg n.toNatClampNeg)))) H1 → H1.size = H.size → (∀ q, q ≠ a → H1[q]? = H[q]?) → va_S A H0 H1 locs1 → W p l e R s m args below meth c H1 locs1 cells slots Q (F0 m (pc + 3) ls rest)) :
    W p l e R s m args below meth c H locs cells slots Q (F0 m pc ls (.int n :: .int dp :: .ref a :: .int sp :: .ref a0 :: rest)) := by
  intro T hT X
  have hc0 : H[a0]? = some (vp_cell cA (n0, .inr (.inl f))) := ha0
  have hc1 : H[a]? = some (vp_cell cA (n1, .inr (.inl g))) := ha1
  obtain ⟨-, k0, hk0, cm0, hkk0⟩ := (hK.2 t0 _ ht).1 n0 (fun j => .long (f j))
  obtain ⟨-, k1, hk1, cm1, hkk1⟩ := (hK.2 t0 _ ht).1 n1 (fun j => .long (g j))
  obtain ⟨vm', X', step⟩ := X.arraycopy hexec hown hlink hnat hstat hini (src := a0) (dst := a) (cs := vp_cell cA (n0, .inr (.inl f))) (cd := vp_cell cA (n1, .inr (.inl g))) (srcPos := sp) (destPos := dp) (n := n) (by rw [hT]; exact hc0) (by rw [hT]; exact hc1) (fun _ h => by cases h) (fun _ h => by cases h) (fun h => by cases h) (fun h => by cases h) hk0 hk1 hkk0 hkk1 (by simp [refKind]) h1 h2 h3
    (by rw [cl_nn sp h1, cl_nn n h3]; show ¬ _ > ((arrV cA n0 (fun j => .long (f j))).slots.size : Int); rw [arrV_size]; omega)
    (by rw [cl_nn dp h2, cl_nn n h3]; show ¬ _ > ((arrV cA n1 (fun j => .long (g j))).slots.size : Int); rw [arrV_size]; omega)
    (fun vm₁ _ i hi => by
      have e : (vp_cell cA (n0, .inr (.inl f))).slots.getD (sp.toNatClampNeg + i) .null = .long (f (sp.toNatClampNeg + i)) := by
        show (arrV cA n0 (fun j => .long (f j))).slots.getD _ _ = _
        rw [Array.getD_eq_getD_getElem?, arrV_read _ _ (by omega)]; rfl
      rw [e]; exact ⟨rfl, trivial⟩)
    (g := F0 m pc ls (.int n :: .int dp :: .ref a :: .int sp :: .ref a0 :: rest)) rfl (by rw [hml]) (rest := rest) rfl (by rw [hb]; exact hdg) hframes (by show 2 * 0 + _ + _ ≤ _; omega)
  have e1 : copied (vp_cell cA (n0, .inr (.inl f))) (vp_cell cA (n1, .inr (.inl g))) sp dp n = vp_cell cA (n1, .inr (.inl (va_cpy f g sp.toNatClampNeg dp.toNatClampNeg n.toNatClampNeg))) := va_copied (fun z => .long z) cA cA f g h4
  rw [e1] at X' step
  obtain ⟨cell, hcell⟩ : ∃ cell, vp_cell cA (n1, .inr (.inl (va_cpy f g sp.toNatClampNeg dp.toNatClampNeg n.toNatClampNeg))) = cell := ⟨_, rfl⟩
  rw [hcell] at X' step
  have hl : a < H.size := (Array.getElem?_eq_some_iff.mp hc1).1
  have oq : ∀ q : Nat, q ≠ a → (H.setIfInBounds a cell)[q]? = H[q]? := fun q hq => by simp [Array.getElem?_setIfInBounds, Ne.symm hq]
  have hz : (H.setIfInBounds a cell).size = H.size := by simp
  have hat : va_at D cl (a, .inl (cA, n1, .inr (.inl (va_cpy f g sp.toNatClampNeg dp.toNatClampNeg n.toNatClampNeg)))) (H.setIfInBounds a cell) := by
    show (H.setIfInBounds a cell)[a]? = some (vp_cell cA _)
    rw [hcell]; simp [Array.getElem?_setIfInBounds, hl]
  obtain ⟨t, a1, b1⟩ := kk _ _ hat hz oq ⟨by rw [hz]; exact hS.1, fun q g1 g2 => by
      rw [oq q (fun e => g2 (by rw [e]; exact hA))]; exact hS.2.1 q g1 g2, fun q hq => by
      rcases List.mem_append.mp hq with h | h
      · exact hS.2.2 q h
      · obtain ⟨z, -, hz⟩ := List.mem_map.mp h
        rw [← hz]; exact hA⟩ _ (by rw [← hT]; rfl) X'
  exact ⟨t, step t a1, b1⟩
end B
section A
variable {l : Launch} {G : Gh} {k mc ms : Nat} {M : Mt} {Q : Res → Mem → Prop} {pc q : Nat} {L : List (Option Value)} {st : List Value} {I : Nat → Nat → Int32} {J : Nat → Nat → Int64} {R : Nat → Nat → Option Nat} {S : Nat → Nat × Nat} {nx : Nat} {cb sb : Nat}
theorem clO_cgI {G : Gh} {I I' : Nat → Nat → Int32} {J : Nat → Nat → Int64} {R : Nat → Nat → Option Nat} {S : Nat → Nat × Nat} {nx b : Nat} (h : I' b = I b) : clO G (I', J, R, S, nx) b = clO G (I, J, R, S, nx) b := by
  unfold clO acn fsl fvl
  simp only [h]
theorem wp_copyI {ix a0 a n0 n1 : Nat} {sp dp n : Int32} {sp1 dp1 n1p : Nat} (hd : decode M.2.1 pc = .ok (.invokestatic ix, 3)) (hq : pc + 3 = q) (hlk : Cond.methodLink M.1.cls ix arraycopyName ∈ TW) (e1 : sp.toNatClampNeg = sp1) (e2 : dp.toNatClampNeg = dp1) (e3 : n.toNatClampNeg = n1p) (hw : (st.map fun v => v.category).sum ≤ 8) (ha0 : a0 < nx) (hs0 : S a0 = (100, n0)) (ha : a < nx) (hs : S a = (100, n1)) (hb : (¬ sp < 0 ∧ ¬ dp < 0 ∧ ¬ n < 0) ∧ sp.toNatClampNeg + n.toNatClampNeg ≤ n0 ∧ dp.toNatClampNeg + n.toNatClampNeg ≤ n1)
    (h : WP l G k mc ms M Q q L st (upC I a0 a sp1 dp1 n1p, J, R, S, nx) cb sb) : WP l G k mc ms M Q pc L (.int n :: .int dp :: .ref a :: .int sp :: .ref a0 :: st) (I, J, R, S, nx) cb sb := by
  subst hq; subst e1; subst e2; subst e3
  intro p e s m args below meth c H locs cells slots ls C hR hS hl h1 h2
  refine vz_copyi (n0 := n0) (n1 := n1) (f := I a0) (g := I a) C.1 C.2.1 (C.2.2.2.1.trans hl.1.symm) C.2.2.2.2.1 (C.2.2.2.2.2.1 _ hlk) (C.2.2.2.2.2.1 _ ac_N) (C.2.2.2.2.2.1 _ ac_S) (C.2.2.2.2.2.1 _ ac_I) C.2.2.2.2.2.2.2.2.1.1 hS 0 (rel_arr hR ha0 hs0 (by omega) (by omega)) (rel_arr hR ha hs (by omega) (by omega)) (show frA G (G.1 + a) from Nat.le_add_right _ _) rfl hb.1.1 hb.1.2.1 hb.1.2.2 hb.2.1 hb.2.2 (by simp only [room]; omega) ?_ hd fun H1 locs1 g1 g2 g3 g4 => ?_
  · have hn : nativeFrameWords "java/lang/System" "arraycopy" 5 + 11 ≤ 80 := by decide
    rw [cat_cv]
    simp only [room]; omega
  · refine h p e s m args below meth c H1 locs1 cells slots ls C (rel_set hR rfl rfl g2 g3 ?_ (fun b hb => ?_)) g4 hl h1 h2
    · rw [clO_arr (t := 100) (n := n1) hs (by omega)]
      show va_at _ _ (_, .inl (_, n1, .inl (upC I a0 a sp.toNatClampNeg dp.toNatClampNeg n.toNatClampNeg a))) H1
      have : upC I a0 a sp.toNatClampNeg dp.toNatClampNeg n.toNatClampNeg a = va_cpy (I a0) (I a) sp.toNatClampNeg dp.toNatClampNeg n.toNatClampNeg := by
        funext j; unfold upC va_cpy; simp
      rw [this]; exact g1
    · have hr : upC I a0 a sp.toNatClampNeg dp.toNatClampNeg n.toNatClampNeg b = I b := upC_ne hb
      obtain ⟨I', hI⟩ : ∃ I', upC I a0 a sp.toNatClampNeg dp.toNatClampNeg n.toNatClampNeg = I' := ⟨_, rfl⟩
      rw [hI] at hr ⊢
      exact clO_cgI hr
theorem clO_cgJ {G : Gh} {I : Nat → Nat → Int32} {J J' : Nat → Nat → Int64} {R : Nat → Nat → Option Nat} {S : Nat → Nat × Nat} {nx b : Nat} (h : J' b = J b) : clO G (I, J', R, S, nx) b = clO G (I, J, R, S, nx) b := by
  unfold clO acn fsl fvl
  simp only [h]
theorem wp_copyL {ix a0 a n0 n1 : Nat} {sp dp n : Int32} {sp1 dp1 n1p : Nat} (hd : decode M.2.1 pc = .ok (.invokestatic ix, 3)) (hq : pc + 3 = q) (hlk : Cond.methodLink M.1.cls ix arraycopyName ∈ TW) (e1 : sp.toNatClampNeg = sp1) (e2 : dp.toNatClampNeg = dp1) (e3 : n.toNatClampNeg = n1p) (hw : (st.map fun v => v.category).sum ≤ 8) (ha0 : a0 < nx) (hs0 : S a0 = (101, n0)) (ha : a < nx) (hs : S a = (101, n1)) (hb : (¬ sp < 0 ∧ ¬ dp < 0 ∧ ¬ n < 0) ∧ sp.toNatClampNeg + n.toNatClampNeg ≤ n0 ∧ dp.toNatClampNeg + n.toNatClampNeg ≤ n1)
    (h : WP l G k mc ms M Q q L st (I, upC J a0 a sp1 dp1 n1p, R, S, nx) cb sb) : WP l G k mc ms M Q pc L (.int n :: .int dp :: .ref a :: .int sp :: .ref a0 :: st) (I, J, R, S, nx) cb sb := by
  subst hq; subst e1; subst e2; subst e3
  intro p e s m args below meth c H locs cells slots ls C hR hS hl h1 h2
  refine vz_copyl (n0 := n0) (n1 := n1) (f := J a0) (g := J a) C.1 C.2.1 (C.2.2.2.1.trans hl.1.symm) C.2.2.2.2.1 (C.2.2.2.2.2.1 _ hlk) (C.2.2.2.2.2.1 _ ac_N) (C.2.2.2.2.2.1 _ ac_S) (C.2.2.2.2.2.1 _ ac_I) C.2.2.2.2.2.2.2.2.1.1 hS 1 (rel_arr hR ha0 hs0 (by omega) (by omega)) (rel_arr hR ha hs (by omega) (by omega)) (show frA G (G.1 + a) from Nat.le_add_right _ _) rfl hb.1.1 hb.1.2.1 hb.1.2.2 hb.2.1 hb.2.2 (by simp only [room]; omega) ?_ hd fun H1 locs1 g1 g2 g3 g4 => ?_
  · have hn : nativeFrameWords "java/lang/System" "arraycopy" 5 + 11 ≤ 80 := by decide
    rw [cat_cv]
    simp only [room]; omega
  · refine h p e s m args below meth c H1 locs1 cells slots ls C (rel_set hR rfl rfl g2 g3 ?_ (fun b hb => ?_)) g4 hl h1 h2
    · rw [clO_arr (t := 101) (n := n1) hs (by omega)]
      show va_at _ _ (_, .inl (_, n1, .inr (.inl (upC J a0 a sp.toNatClampNeg dp.toNatClampNeg n.toNatClampNeg a)))) H1
      have : upC J a0 a sp.toNatClampNeg dp.toNatClampNeg n.toNatClampNeg a = va_cpy (J a0) (J a) sp.toNatClampNeg dp.toNatClampNeg n.toNatClampNeg := by
        funext j; unfold upC va_cpy; simp
      rw [this]; exact g1
    · have hr : upC J a0 a sp.toNatClampNeg dp.toNatClampNeg n.toNatClampNeg b = J b := upC_ne hb
      obtain ⟨I', hI⟩ : ∃ I' : Nat → Nat → Int64, upC J a0 a sp.toNatClampNeg dp.toNatClampNeg n.toNatClampNeg = I' := ⟨_, rfl⟩
      rw [hI] at hr ⊢
      exact clO_cgJ hr
theorem wp_cS {N : Mt} {As : List Value} {n ix : Nat} {P : (Nat → Nat → Int64) → Prop} {stk : List Value} (hd : decode M.2.1 pc = .ok (.invokestatic ix, 3)) (hq : pc + 3 = q) (hh : M.2.2.2.2 = []) (hN : mOK N n) (hlk : Cond.methodLink M.1.cls ix N.1 ∈ TW) (hsta : Cond.static N.1 ∈ TW)
    (hst : stk = As.reverse ++ st) (hn : As.length = n) (hw : (st.map fun v => v.category).sum ≤ 8) (hcall : Cal l G k 0 0 N As (I, J, R, S, nx) (fun r μ' => r = .inl none ∧ ∃ J', μ' = (I, J', R, S, nx) ∧ P J'))
    (h : ∀ J', P J' → WP l G (k + 1) mc ms M Q q L (st) (I, J', R, S, nx) cb sb) : WP l G (k + 1) mc ms M Q pc L stk (I, J, R, S, nx) cb sb :=
  wp_invS hd hq hh hN hlk hsta hst hn hw (Nat.zero_le _) (Nat.zero_le _) hcall (fun r μ' hr => by obtain ⟨h1, I', h2, h3⟩ := hr; cases h1; cases h2; exact h I' h3) (fun E μ' hr => by cases hr.1)
end A
