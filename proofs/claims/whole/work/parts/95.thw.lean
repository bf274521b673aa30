/-! the words of the throws -/
theorem zw_in {L : List Cond} (h : ∀ w ∈ L, (goodWord w = true ∧ w ∈ lw_tbl) ∨ w ∈ dcL.map Cond.declares) : ∀ w ∈ L, w ∈ TW ∨ w ∈ dcL.map Cond.declares := fun w hw => (h w hw).imp (fun g => List.mem_filter.mpr ⟨g.2, g.1⟩) id
theorem zw_A : ∀ w ∈ (zwA RX11 298 "java/lang/IllegalArgumentException" 7 Bundle.six "java/lang/RuntimeException" ["java/lang/Exception"]).filter vx_no, (goodWord w = true ∧ w ∈ lw_tbl) ∨ w ∈ dcL.map Cond.declares := by decide +kernel
theorem zw_B : ∀ w ∈ (zwA RX11 397 "java/util/NoSuchElementException" 13 prog_34_method_4_code "java/lang/RuntimeException" ["java/lang/Exception"]).filter vx_no, (goodWord w = true ∧ w ∈ lw_tbl) ∨ w ∈ dcL.map Cond.declares := by decide +kernel
theorem zw_C : ∀ w ∈ (zwA RX11 182 "java/lang/IllegalStateException" 7 Bundle.six "java/lang/RuntimeException" ["java/lang/Exception"]).filter vx_no, (goodWord w = true ∧ w ∈ lw_tbl) ∨ w ∈ dcL.map Cond.declares := by decide +kernel
theorem zw_D : ∀ w ∈ (zwA RX11 367 "java/lang/IndexOutOfBoundsException" 7 Bundle.six "java/lang/RuntimeException" ["java/lang/Exception"]).filter vx_no, (goodWord w = true ∧ w ∈ lw_tbl) ∨ w ∈ dcL.map Cond.declares := by decide +kernel
/-- what a throw of E in the class wants of the tables -/
def thrOK (E : String) (ik ic : Nat) : Prop := ∃ (ix : Nat) (rx : ByteArray), (decode rx 0 = .ok (.aload_n 0, 1) ∧ decode rx 1 = .ok (.aload_n 1, 1) ∧ decode rx 2 = .ok (.invokespecial ix, 3) ∧ decode rx 5 = .ok (.return_, 1)) ∧ Bundle.fit E = true ∧ (Cond.classLink RX11 ik E ∈ TW ∧ Cond.initialized E ∈ TW) ∧ (∀ w ∈ (zwA RX11 ic E ix rx "java/lang/RuntimeException" ["java/lang/Exception"]).filter vx_no, w ∈ TW ∨ w ∈ dcL.map Cond.declares) ∧ ∀ w ∈ Cond.classLink RX11 ik E :: Cond.initialized E :: (zwA RX11 ic E ix rx "java/lang/RuntimeException" ["java/lang/Exception"]).filter vx_no, vx_ot w = true
theorem thr_A : thrOK "java/lang/IllegalArgumentException" 294 298 := ⟨7, Bundle.six, ⟨Bundle.six_0, Bundle.six_1, Bundle.six_2, Bundle.six_5⟩, by decide +kernel, ⟨List.mem_filter.mpr ⟨tt_2 (List.mem_of_getElem? (i := 149) rfl), rfl⟩, List.mem_filter.mpr ⟨tt_1 (List.mem_of_getElem? (i := 12) rfl), rfl⟩⟩, zw_in zw_A, by decide +kernel⟩
theorem thr_B : thrOK "java/util/NoSuchElementException" 393 397 := ⟨13, prog_34_method_4_code, ⟨by decide +kernel, by decide +kernel, by decide +kernel, by decide +kernel⟩, by decide +kernel, ⟨List.mem_filter.mpr ⟨tt_3 (List.mem_of_getElem? (i := 159) rfl), rfl⟩, List.mem_filter.mpr ⟨tt_1 (List.mem_of_getElem? (i := 20) rfl), rfl⟩⟩, zw_in zw_B, by decide +kernel⟩
theorem thr_C : thrOK "java/lang/IllegalStateException" 178 182 := ⟨7, Bundle.six, ⟨Bundle.six_0, Bundle.six_1, Bundle.six_2, Bundle.six_5⟩, by decide +kernel, ⟨List.mem_filter.mpr ⟨tt_4 (List.mem_of_getElem? (i := 96) rfl), rfl⟩, List.mem_filter.mpr ⟨tt_1 (List.mem_of_getElem? (i := 23) rfl), rfl⟩⟩, zw_in zw_C, by decide +kernel⟩
theorem thr_D : thrOK "java/lang/IndexOutOfBoundsException" 363 367 := ⟨7, Bundle.six, ⟨Bundle.six_0, Bundle.six_1, Bundle.six_2, Bundle.six_5⟩, by decide +kernel, ⟨List.mem_filter.mpr ⟨tt_6 (List.mem_of_getElem? (i := 176) rfl), rfl⟩, List.mem_filter.mpr ⟨tt_1 (List.mem_of_getElem? (i := 27) rfl), rfl⟩⟩, zw_in zw_D, by decide +kernel⟩
/-- the memory behind a throw: new cells that nobody names -/
def thr (μ : Mem) (n : Nat) : Mem := (μ.1, μ.2.1, μ.2.2.1, (fun a => if a < μ.2.2.2.2 then μ.2.2.2.1 a else (999, 0)), n)
section Rules
variable {l : Launch} {G : Gh} {k mc ms : Nat} {M : Mt} {Q : Res → Mem → Prop} {pc q : Nat} {L L' : List (Option Value)} {st : List Value} {cb sb : Nat}
theorem wp_thr {E : String} {ik ist ic si : Nat} {μ : Mem} (hl0 : l.stackTraces = false) (hh : M.2.2.2.2 = []) (hcl : M.1.cls = RX11) (hO : thrOK E ik ic) (hsi : si < 35) (hss : (stL.getD si ("", 0, "")).1 = RX11 ∧ (stL.getD si ("", 0, "")).2.1 = ist)
    (d0 : decode M.2.1 pc = .ok (.new ik, 3)) (d3 : decode M.2.1 (pc + 3) = .ok (.dup, 1)) (d4 : decode M.2.1 (pc + 4) = .ok (.ldc_w ist, 3)) (d6 : decode M.2.1 (pc + 7) = .ok (.invokespecial ic, 3)) (d9 : decode M.2.1 (pc + 10) = .ok (.athrow, 1)) (hw : (st.map fun v => v.category).sum ≤ 8)
    (hc : 1 ≤ cb) (hs : 6 ≤ sb) (h : ∀ n', μ.2.2.2.2 ≤ n' → Q (.inr E) (thr μ n')) : WP l G k mc ms M Q pc L st μ cb sb := by
  intro p e s m args below meth c H locs cells slots ls C hR hS hl h1 h2
  obtain ⟨ix, rx, ⟨x0, x1, x2, x5⟩, hE, ⟨hck, hini⟩, hat, hot⟩ := hO
  have hg := C.2.2.2.2.2.2.2.2.1
  have hstr := hg.2.2.2.2.2.1 si hsi
  rw [hss.1, hss.2] at hstr
  have hown : s.vm.findClass RX11 = some m.cls := by rw [← hcl]; exact C.2.2.2.2.1
  refine vz_throw (Y := "java/lang/RuntimeException") (r := ["java/lang/Exception"]) (A := frA G) C.1 C.2.1 hl0 x0 x1 x2 x5 hown hE (by decide +kernel) (C.2.2.2.2.2.1 _ hck) (C.2.2.2.2.2.1 _ hini) hstr (fun w hw9 => ?_) hot hg.2.2.2.2.2.2.1 hg.2.2.2.2.2.2.2.1 hS (hl.1.trans C.2.2.2.1.symm) d0 d3 d4 d6 d9 (fun x hx => by rw [C.2.2.2.2.2.2.2.2.2.2, hh] at hx; cases hx) (by simp [room]; omega) (by rw [cat_cv]; simp [room]; omega) (by simp only [room]; omega) (by simp only [room]; omega) C.2.2.2.2.2.2.1 (fun t hal hz ho => ?_) hS.2.2 (by omega) (by omega)
  · rcases hat w hw9 with h9 | h9
    · exact C.2.2.2.2.2.1 _ h9
    · obtain ⟨x, hx, rfl⟩ := List.mem_map.mp h9
      exact va_Nw.use rfl (hg.2.2.2.1.2 x hx)
  · have hz0 : H.size = G.1 + μ.2.2.2.2 := hR.1
    refine ⟨⟨_, h (t.heap.size - G.1) (by omega), ?_⟩, Nat.le_trans hS.1 hz, fun q g1 g2 => (ho q (Nat.lt_of_lt_of_le g1 hS.1)).trans (hS.2.1 q g1 g2)⟩
    unfold thr
    refine ⟨by show t.heap.size = G.1 + (t.heap.size - G.1); omega, fun b hb ht => ?_⟩
    by_cases hbn : b < μ.2.2.2.2
    · have hs : (if b < μ.2.2.2.2 then μ.2.2.2.1 b else (999, 0)) = μ.2.2.2.1 b := if_pos hbn
      have ht2 : (μ.2.2.2.1 b).1 < 200 := by rw [← hs]; exact ht
      have hcl : clO G (μ.1, μ.2.1, μ.2.2.1, (fun a => if a < μ.2.2.2.2 then μ.2.2.2.1 a else (999, 0)), t.heap.size - G.1) b = clO G μ b := by
        unfold clO fsl fvl acn
        simp only [hs]
      rw [hcl]
      exact (hR.2 b hbn ht2).kept (ho _ (by show G.1 + b < H.size; omega))
    · have hs : (if b < μ.2.2.2.2 then μ.2.2.2.1 b else (999, 0)) = (999, 0) := if_neg hbn
      have ht2 : ((999, 0) : Nat × Nat).1 < 200 := by rw [← hs]; exact ht
      exact absurd ht2 (by decide)
end Rules
