/-! rules that make cells, throw, and of the library's own methods -/
def zmem : Mem := ((fun _ _ => 0), (fun _ _ => 0), (fun _ _ => none), (fun _ => (0, 0)), 0)
theorem dfl_0 : ∀ t, t < 13 → ∀ j, j < (ftl.getD t []).length → defaultValue ((mtyp.getD t (fun _ => .int)) j) = fvl 0 zmem t 0 j := by decide +kernel
theorem fvl_z {B : Nat} {μ : Mem} {t a j : Nat} (h1 : μ.1 a j = 0) (h2 : μ.2.1 a j = 0) (h3 : μ.2.2.1 a j = none) : fvl B μ t a j = fvl 0 zmem t 0 j := by
  unfold fvl zmem
  split <;> simp_all [rv]
theorem clO_new {G : Gh} {I : Nat → Nat → Int32} {J : Nat → Nat → Int64} {R : Nat → Nat → Option Nat} {S : Nat → Nat × Nat} {n m b : Nat} {i : Nat → Int32} {j : Nat → Int64} {r : Nat → Option Nat} {z : Nat × Nat} {n' : Nat} (h : b ≠ n) : clO G (up1 I n i, up1 J n j, up1 R n r, up1 S n z, n') b = clO G (I, J, R, S, m) b := by
  have h1 : up1 I n i b = I b := by simp [up1, h]
  have h2 : up1 J n j b = J b := by simp [up1, h]
  have h3 : up1 R n r b = R b := by simp [up1, h]
  have h4 : up1 S n z b = S b := by simp [up1, h]
  unfold clO fsl fvl acn
  simp only [h1, h2, h3, h4]
theorem rel_new {G : Gh} {I : Nat → Nat → Int32} {J : Nat → Nat → Int64} {R : Nat → Nat → Option Nat} {S : Nat → Nat × Nat} {n : Nat} {i : Nat → Int32} {j : Nat → Int64} {r : Nat → Option Nat} {z : Nat × Nat} {H H1 : Heap} (hR : RelM G (I, J, R, S, n) H) (hz : H1.size = G.1 + n + 1) (ho : ∀ q, q < G.1 + n → H1[q]? = H[q]?) (h1 : va_at G.2.1 mcls (G.1 + n, clO G (up1 I n i, up1 J n j, up1 R n r, up1 S n z, n + 1) n) H1) : RelM G (up1 I n i, up1 J n j, up1 R n r, up1 S n z, n + 1) H1 := by
  refine ⟨by rw [hz]; show G.1 + n + 1 = G.1 + (n + 1); omega, fun b hb ht => ?_⟩
  by_cases hbn : b = n
  · rw [hbn]; exact h1
  · have hb9 : b < n + 1 := hb
    have hb2 : b < n := by omega
    have hs : up1 S n z b = S b := by simp [up1, hbn]
    have ht2 : (S b).1 < 200 := by rw [← hs]; exact ht
    rw [clO_new (m := n) hbn]
    exact (hR.2 b hb2 ht2).kept (ho _ (by show G.1 + b < G.1 + n; omega))
theorem clO_obj {G : Gh} {μ : Mem} {a t : Nat} (hs : (μ.2.2.2.1 a).1 = t) (ht : t < 50) : clO G μ a = .inr (t, fsl G.1 μ t a) := by
  rw [clO, if_pos (by omega), hs]
section Rules
variable {l : Launch} {G : Gh} {k mc ms : Nat} {M : Mt} {Q : Res → Mem → Prop} {pc q : Nat} {L L' : List (Option Value)} {st : List Value} {I : Nat → Nat → Int32} {J : Nat → Nat → Int64} {R : Nat → Nat → Option Nat} {S : Nat → Nat × Nat} {nx : Nat} {cb sb : Nat}
theorem wp_new {ix t N : Nat} {qc : vw_C} (hd : decode M.2.1 pc = .ok (.new ix, 3)) (hq : pc + 3 = q) (hqc : mcls[t]? = some qc) (hN : qc.2.2 = N) (ht : t < 13) (hcl : Cond.classLink M.1.cls ix qc.1 ∈ TW) (hin : Cond.instantiable qc.1 N ∈ TW) (hini : Cond.initialized qc.1 ∈ TW) (h : WP l G k mc ms M Q q L (.ref nx :: st) (up1 I nx (fun _ => 0), up1 J nx (fun _ => 0), up1 R nx (fun _ => none), up1 S nx (t, 0), nx + 1) cb sb) : WP l G k mc ms M Q pc L st (I, J, R, S, nx) (cb + 1) (sb + N) := by
  subst hq; subst hN
  intro p e s m args below meth c H locs cells slots ls C hR hS hl h1 h2
  have hKn := C.2.2.2.2.2.2.2.2.1.1.1 t _ hqc
  have hz : H.size = G.1 + nx := hR.1
  refine W.newcK C.1 C.2.1 C.2.2.2.2.1 (C.2.2.2.2.2.1 _ hcl) (C.2.2.2.2.2.1 _ hin) (C.2.2.2.2.2.1 _ hini) rfl hd (by simp only [room]; omega) (by simp only [room]; omega) hKn.2.1 hz fun H1 kC hkC e1 z1 o1 => ?_
  have hty : mtyp[t]? = some (mtyp.getD t (fun _ => .int)) := by
    match t, ht with
    | 0, _ => rfl
    | 1, _ => rfl
    | 2, _ => rfl
    | 3, _ => rfl
    | 4, _ => rfl
    | 5, _ => rfl
    | 6, _ => rfl
    | 7, _ => rfl
    | 8, _ => rfl
    | 9, _ => rfl
    | 10, _ => rfl
    | 11, _ => rfl
    | 12, _ => rfl
  have hb := u_born (mtyp.getD t (fun _ => .int)) C.2.2.2.2.2.1 (mcls_at hqc) hKn hkC e1 (mty_ok t qc _ hqc hty).1
  refine h p e s m args below meth c H1 locs (cells + 1) (slots + qc.2.2) ls C (rel_new hR z1 (fun q hq => o1 q hq) ?_) ⟨Nat.le_trans hS.1 (by omega), fun x g1 g2 => (o1 x (by have := hS.1; omega)).trans (hS.2.1 x g1 g2), hS.2.2⟩ hl (by omega) (by omega)
  have hsh : (up1 S nx (t, 0)) nx = (t, 0) := by simp [up1]
  rw [clO_obj (t := t) (by show ((up1 S nx (t, 0)) nx).1 = t; rw [hsh]) (by omega)]
  refine ⟨qc, hqc, hb.to fun j hj => ?_⟩
  have hlen : j < (ftl.getD t []).length := by rw [ftl_len t qc hqc]; exact hj
  show _ = (fsl G.1 (up1 I nx (fun _ => 0), up1 J nx (fun _ => 0), up1 R nx (fun _ => none), up1 S nx (t, 0), nx + 1) t nx).getD j .null
  have hgd : ∀ (xs : List Value) (v : Value), xs[j]? = some v → xs.getD j .null = v := fun xs v h9 => by simp [List.getD_eq_getElem?_getD, h9]
  rw [hgd _ _ (fsl_at hlen)]
  rw [fvl_z (by simp [up1]) (by simp [up1]) (by simp [up1])]
  exact dfl_0 t ht j hlen
theorem wp_newarr {ty : FieldType} {at9 : ArrayType} {tg n : Nat} {x : Int32} (hd : decode M.2.1 pc = .ok (.newarray at9, 2)) (hq : pc + 2 = q) (htg : (tg = 100 ∧ newarray.typeOf at9 = .int) ∨ (tg = 101 ∧ newarray.typeOf at9 = .long) ∨ (tg = 102 ∧ newarray.typeOf at9 = .byte) ∨ (tg = 103 ∧ newarray.typeOf at9 = .boolean)) (harr : Cond.arrayClass (newarray.typeOf at9) ∈ TW) (hx : ¬ x < 0) (hn : x.toNatClampNeg = n) (hn2 : n ≤ 67108864) (h : WP l G k mc ms M Q q L (.ref nx :: st) (up1 I nx (fun _ => 0), up1 J nx (fun _ => 0), up1 R nx (fun _ => none), up1 S nx (tg, n), nx + 1) cb sb) : WP l G k mc ms M Q pc L (.int x :: st) (I, J, R, S, nx) (cb + 1) (sb + n) := by
  subst hq
  intro p e s m args below meth c H locs cells slots ls C hR hS hl h1 h2
  have hz : H.size = G.1 + nx := hR.1
  refine va_newaK C.1 C.2.1 (C.2.2.2.2.2.1 _ harr) rfl hd rfl hx hn (by rcases htg with ⟨-, h9⟩ | ⟨-, h9⟩ | ⟨-, h9⟩ | ⟨-, h9⟩ <;> rw [h9] <;> simp [componentBytes] <;> omega) (by simp only [room]; omega) (by simp only [room]; omega) hz fun H1 cA e1 z1 o1 hAr hNm => ?_
  refine h p e s m args below meth c H1 locs (cells + 1) (slots + n) ls C (rel_new hR z1 (fun q hq => o1 q hq) ?_) ⟨Nat.le_trans hS.1 (by omega), fun x g1 g2 => (o1 x (by have := hS.1; omega)).trans (hS.2.1 x g1 g2), hS.2.2⟩ hl (by omega) (by omega)
  have hsh : (up1 S nx (tg, n)) nx = (tg, n) := by simp [up1]
  rw [clO_arr (t := tg) (n := n) hsh (by omega)]
  show H1[_]? = some (vp_cell _ _)
  rw [e1]
  have hKT := C.2.2.2.2.2.2.2.2.1.1.2
  rcases htg with ⟨rfl, h9⟩ | ⟨rfl, h9⟩ | ⟨rfl, h9⟩ | ⟨rfl, h9⟩
  · have hca : G.2.2.1 100 = cA := Option.some.inj ((hKT 0 (G.2.2.1 100, .int) rfl).2.symm.trans (by rw [h9] at hNm; exact hNm))
    rw [h9, hca]
    show _ = some (arrV cA n (fun j => .int (up1 I nx (fun _ => 0) nx j)))
    simp [up1, defaultValue]
  · have hca : G.2.2.1 101 = cA := Option.some.inj ((hKT 1 (G.2.2.1 101, .long) rfl).2.symm.trans (by rw [h9] at hNm; exact hNm))
    rw [h9, hca]
    show _ = some (arrV cA n (fun j => .long (up1 J nx (fun _ => 0) nx j)))
    simp [up1, defaultValue]
  · have hca : G.2.2.1 102 = cA := Option.some.inj ((hKT 2 (G.2.2.1 102, .byte) rfl).2.symm.trans (by rw [h9] at hNm; exact hNm))
    rw [h9, hca]
    show _ = some (arrV cA n (fun j => .int (up1 I nx (fun _ => 0) nx j)))
    simp [up1, defaultValue]
  · have hca : G.2.2.1 103 = cA := Option.some.inj ((hKT 3 (G.2.2.1 103, .boolean) rfl).2.symm.trans (by rw [h9] at hNm; exact hNm))
    rw [h9, hca]
    show _ = some (arrV cA n (fun j => .int (up1 I nx (fun _ => 0) nx j)))
    simp [up1, defaultValue]
theorem wp_mmax {x y : Int32} {ix : Nat} {μ : Mem} (hd : decode M.2.1 pc = .ok (.invokestatic ix, 3)) (hq : pc + 3 = q) (hlk : Cond.methodLink M.1.cls ix Lib.Math.max.name ∈ TW) (hst : Cond.static Lib.Math.max.name ∈ TW) (hini : Cond.initialized "java/lang/Math" ∈ TW) (hcd : Cond.code Lib.Math.max.name Lib.Math.max.code 2 (some .int) ∈ TW) (hw : (st.map fun v => v.category).sum ≤ 8) (h : WP l G k mc ms M Q q L (.int (if x < y then y else x) :: st) μ cb sb) : WP l G k mc ms M Q pc L (.int y :: .int x :: st) μ cb sb := by
  subst hq
  intro p e s m args below meth c H locs cells slots ls C hR hS hl h1 h2
  exact va_mmax C.1 C.2.1 (C.2.2.2.1.trans hl.1.symm) C.2.2.2.2.1 (C.2.2.2.2.2.1 _ hlk) (C.2.2.2.2.2.1 _ hst) (C.2.2.2.2.2.1 _ hini) (C.2.2.2.2.2.1 _ hcd) (by simp only [room]; omega) (by rw [cat_cv]; simp only [room]; omega) (by simp only [room]; omega) (by simp only [room]; omega) hd (h p e s m args below meth c H locs cells slots ls C hR hS hl h1 h2)
theorem wp_mmin {x y : Int32} {ix : Nat} {μ : Mem} (hd : decode M.2.1 pc = .ok (.invokestatic ix, 3)) (hq : pc + 3 = q) (hlk : Cond.methodLink M.1.cls ix Lib.Math.min.name ∈ TW) (hst : Cond.static Lib.Math.min.name ∈ TW) (hini : Cond.initialized "java/lang/Math" ∈ TW) (hcd : Cond.code Lib.Math.min.name Lib.Math.min.code 2 (some .int) ∈ TW) (hw : (st.map fun v => v.category).sum ≤ 8) (h : WP l G k mc ms M Q q L (.int (if y < x then y else x) :: st) μ cb sb) : WP l G k mc ms M Q pc L (.int y :: .int x :: st) μ cb sb := by
  subst hq
  intro p e s m args below meth c H locs cells slots ls C hR hS hl h1 h2
  exact va_mmin C.1 C.2.1 (C.2.2.2.1.trans hl.1.symm) C.2.2.2.2.1 (C.2.2.2.2.2.1 _ hlk) (C.2.2.2.2.2.1 _ hst) (C.2.2.2.2.2.1 _ hini) (C.2.2.2.2.2.1 _ hcd) (by simp only [room]; omega) (by rw [cat_cv]; simp only [room]; omega) (by simp only [room]; omega) (by simp only [room]; omega) hd (h p e s m args below meth c H locs cells slots ls C hR hS hl h1 h2)
theorem wp_mabs {x : Int32} {ix : Nat} {μ : Mem} (hd : decode M.2.1 pc = .ok (.invokestatic ix, 3)) (hq : pc + 3 = q) (hlk : Cond.methodLink M.1.cls ix Lib.Math.abs.name ∈ TW) (hst : Cond.static Lib.Math.abs.name ∈ TW) (hini : Cond.initialized "java/lang/Math" ∈ TW) (hcd : Cond.code Lib.Math.abs.name Lib.Math.abs.code 1 (some .int) ∈ TW) (hw : (st.map fun v => v.category).sum ≤ 8) (h : WP l G k mc ms M Q q L (.int (if 0 ≤ x then x else 0 - x) :: st) μ cb sb) : WP l G k mc ms M Q pc L (.int x :: st) μ cb sb := by
  subst hq
  intro p e s m args below meth c H locs cells slots ls C hR hS hl h1 h2
  exact va_mabs C.1 C.2.1 (C.2.2.2.1.trans hl.1.symm) C.2.2.2.2.1 (C.2.2.2.2.2.1 _ hlk) (C.2.2.2.2.2.1 _ hst) (C.2.2.2.2.2.1 _ hini) (C.2.2.2.2.2.1 _ hcd) (by simp only [room]; omega) (by rw [cat_cv]; simp only [room]; omega) (by simp only [room]; omega) (by simp only [room]; omega) hd (h p e s m args below meth c H locs cells slots ls C hR hS hl h1 h2)
theorem wp_mmaxl {x y : Int64} {ix : Nat} {μ : Mem} (hd : decode M.2.1 pc = .ok (.invokestatic ix, 3)) (hq : pc + 3 = q) (hlk : Cond.methodLink M.1.cls ix Lib.MathLoose.max_long.x ∈ TW) (hst : Cond.static Lib.MathLoose.max_long.x ∈ TW) (hini : Cond.initialized "java/lang/Math" ∈ TW) (hcd : Cond.code Lib.MathLoose.max_long.x Lib.MathLoose.max_long.code 4 (some .long) ∈ TW) (hw : (st.map fun v => v.category).sum ≤ 8) (h : WP l G k mc ms M Q q L (.long (if y < x then x else y) :: st) μ cb sb) : WP l G k mc ms M Q pc L (.long y :: .long x :: st) μ cb sb := by
  subst hq
  intro p e s m args below meth c H locs cells slots ls C hR hS hl h1 h2
  exact va_mmax_long C.1 C.2.1 (C.2.2.2.1.trans hl.1.symm) C.2.2.2.2.1 (C.2.2.2.2.2.1 _ hlk) (C.2.2.2.2.2.1 _ hst) (C.2.2.2.2.2.1 _ hini) (C.2.2.2.2.2.1 _ hcd) (by simp only [room]; omega) (by rw [cat_cv]; simp only [room]; omega) (by simp only [room]; omega) (by simp only [room]; omega) hd (h p e s m args below meth c H locs cells slots ls C hR hS hl h1 h2)
theorem wp_mminl {x y : Int64} {ix : Nat} {μ : Mem} (hd : decode M.2.1 pc = .ok (.invokestatic ix, 3)) (hq : pc + 3 = q) (hlk : Cond.methodLink M.1.cls ix Lib.MathLoose.min_long.x ∈ TW) (hst : Cond.static Lib.MathLoose.min_long.x ∈ TW) (hini : Cond.initialized "java/lang/Math" ∈ TW) (hcd : Cond.code Lib.MathLoose.min_long.x Lib.MathLoose.min_long.code 4 (some .long) ∈ TW) (hw : (st.map fun v => v.category).sum ≤ 8) (h : WP l G k mc ms M Q q L (.long (if y < x then y else x) :: st) μ cb sb) : WP l G k mc ms M Q pc L (.long y :: .long x :: st) μ cb sb := by
  subst hq
  intro p e s m args below meth c H locs cells slots ls C hR hS hl h1 h2
  exact va_mmin_long C.1 C.2.1 (C.2.2.2.1.trans hl.1.symm) C.2.2.2.2.1 (C.2.2.2.2.2.1 _ hlk) (C.2.2.2.2.2.1 _ hst) (C.2.2.2.2.2.1 _ hini) (C.2.2.2.2.2.1 _ hcd) (by simp only [room]; omega) (by rw [cat_cv]; simp only [room]; omega) (by simp only [room]; omega) (by simp only [room]; omega) hd (h p e s m args below meth c H locs cells slots ls C hR hS hl h1 h2)
theorem wp_throw {E : String} {ik ist ic si : Nat} {μ : Mem} (hl0 : l.stackTraces = false) (hh : M.2.2.2.2 = []) (hsi : si < 35) (hss : (stL.getD si ("", 0, "")).1 = M.1.cls ∧ (stL.getD si ("", 0, "")).2.1 = ist) (hE : Bundle.fit E = true) (hEx : E ∈ exL) (hck : Cond.classLink M.1.cls ik E ∈ TW) (hini : Cond.initialized E ∈ TW)
    (hat : ∀ w ∈ vx_atS M.1.cls ic E ["java/lang/RuntimeException", "java/lang/Exception"], w ∈ TW ∨ w ∈ dcL.map Cond.declares ∨ w = Cond.castable E E) (hot : ∀ w ∈ Cond.classLink M.1.cls ik E :: Cond.initialized E :: vx_atS M.1.cls ic E ["java/lang/RuntimeException", "java/lang/Exception"], vx_ot w = true)
    (d0 : decode M.2.1 pc = .ok (.new ik, 3)) (d3 : decode M.2.1 (pc + 3) = .ok (.dup, 1)) (d4 : decode M.2.1 (pc + 4) = .ok (.ldc ist, 2)) (d6 : decode M.2.1 (pc + 6) = .ok (.invokespecial ic, 3)) (d9 : decode M.2.1 (pc + 9) = .ok (.athrow, 1)) (hw : (st.map fun v => v.category).sum ≤ 8)
    (h : ∀ n', μ.2.2.2.2 ≤ n' → Q (.inr E) (μ.1, μ.2.1, μ.2.2.1, (fun a => if a < μ.2.2.2.2 then μ.2.2.2.1 a else (999, 0)), n')) : WP l G k mc ms M Q pc L st μ (cb + 1) (sb + 6) := by
  intro p e s m args below meth c H locs cells slots ls C hR hS hl h1 h2
  have hg := C.2.2.2.2.2.2.2.2.1
  have hstr := hg.2.2.2.2.2.1 si hsi
  rw [hss.1, hss.2] at hstr
  refine vx_throwS (names := ["java/lang/RuntimeException", "java/lang/Exception"]) (A := frA G) C.1 C.2.1 hl0 C.2.2.2.2.1 hE (by decide +kernel) (C.2.2.2.2.2.1 _ hck) (C.2.2.2.2.2.1 _ hini) hstr (fun w hw9 => ?_) hot hg.2.2.2.2.2.2.1 hg.2.2.2.2.2.2.2.1 hS (hl.1.trans C.2.2.2.1.symm) d0 d3 d4 d6 d9 (fun x hx => by rw [C.2.2.2.2.2.2.2.2.2.2, hh] at hx; cases hx) (by simp [room]; omega) (by rw [cat_cv]; simp [room]; omega) (by simp only [room]; omega) (by simp only [room]; omega) C.2.2.2.2.2.2.1 (fun t hal hz ho => ?_) hS.2.2 (by omega) (by omega)
  · rcases hat w hw9 with h9 | h9 | h9
    · exact C.2.2.2.2.2.1 _ h9
    · obtain ⟨x, hx, rfl⟩ := List.mem_map.mp h9
      exact va_Nw.use rfl (hg.2.2.2.1.2 x hx)
    · rw [h9]; exact va_Nw.use rfl (hg.2.2.2.1.1 E hEx)
  · have hz0 : H.size = G.1 + μ.2.2.2.2 := hR.1
    refine ⟨⟨_, h (t.heap.size - G.1) (by omega), ?_⟩, Nat.le_trans hS.1 hz, fun q g1 g2 => (ho q (Nat.lt_of_lt_of_le g1 hS.1)).trans (hS.2.1 q g1 g2)⟩
    refine ⟨by show t.heap.size = G.1 + (t.heap.size - G.1); omega, fun b hb ht => ?_⟩
    by_cases hbn : b < μ.2.2.2.2
    · have hs : (if b < μ.2.2.2.2 then μ.2.2.2.1 b else (999, 0)) = μ.2.2.2.1 b := if_pos hbn
      have ht2 : (μ.2.2.2.1 b).1 < 200 := by rw [← hs]; exact ht
      have hcl : clO G (μ.1, μ.2.1, μ.2.2.1, (fun a => if a < μ.2.2.2.2 then μ.2.2.2.1 a else (999, 0)), t.heap.size - G.1) b = clO G μ b := by
        unfold clO fsl fvl acn
        simp only [hs]
      rw [hcl]
      exact (hR.2 b hbn ht2).kept (ho _ (by show G.1 + b < H.size; omega))
    · have hs : (if b < μ.2.2.2.2 then μ.2.2.2.1 b else (999, 0)) = (999, 0) := if_neg hbn
      have ht2 : ((999, 0) : Nat × Nat).1 < 200 := by rw [← hs]; exact ht
      exact absurd ht2 (by decide)
end Rules
