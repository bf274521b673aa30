/-! more rules: throws with a far text, rows of objects -/
section B
variable {p : Program} {l : Launch} {e : Env} {R : Room} {s : State} {m : MethodId} {args : Array Value} {below : List Frame} {meth : Method} {c : Code} {H : Heap} {locs : List Loc} {cells slots : Nat} {Q : State → Prop}
variable {cc : ByteArray} {pc : Nat} {ls : Array Slot} {rest : List Value} {D : va_G} {cl : List vw_C} {A : Nat → Prop} {a : Nat} {tys : List (ClassId × FieldType)} {H0 : Heap}
theorem vz_aast (hexec : p.tables.exec = Jvm.exec) (hb : c.code = cc) (hK : va_K D cl tys s) (hS : va_S A H0 H locs) (t0 ci : Nat) {cA : ClassId} {r : vw_C} {n v : Nat} {vs : List Value} {f : Nat → Option Nat} (ha : va_at D cl (a, .inl (cA, n, .inr (.inr (.inr (.inr f))))) H) (hA : A a) (ht : tys[t0]? = some (cA, .object r.1)) (hv : va_at D cl (v, .inr (ci, vs)) H) (hc : cl[ci]? = some r) {i : Int32} (hin : vp_in i n) (hdg : decode cc pc = .ok (.aastore, 1))
    (kk : ∀ (H1 : Heap) (locs1 : List Loc), va_at D cl (a, .inl (cA, n, .inr (.inr (.inr (.inr (va_up f i.toNatClampNeg (some v))))))) H1 → H1.size = H.size → (∀ q, q ≠ a → H1[q]? = H[q]?) → va_S A H0 H1 locs1 → W p l e R s m args below meth c H1 locs1 cells slots Q (F0 m (pc + 1) ls rest)) : W p l e R s m args below meth c H locs cells slots Q (F0 m pc ls (.ref v :: .int i :: .ref a :: rest)) := by
  have hlt : i.toNatClampNeg < n := Nat.not_le.mp fun q => hin (Or.inr q)
  have h0 : ¬ i < 0 := fun q => hin (Or.inl q)
  obtain ⟨r', hr', cellV, g1, g2, g3, -⟩ := hv
  have hcls := (hK.1 ci r hc).2
  obtain ⟨kA, comp, k1, k2, k3, -⟩ := (hK.2 t0 _ ht).2
  have hcomp : comp = D.1 ci := Option.some.inj (k3.symm.trans hcls.1)
  subst hcomp
  obtain ⟨kC, hkC, -⟩ := hcls.2
  refine W.aast hexec hb ha (fun q h => by cases h) (fun h => by cases h) k1 k2 rfl hkC ⟨h0, by show _ < (arrV _ _ _).slots.size; rw [arrV_size]; exact hlt⟩ g1 (fun q h => by rw [g3] at h; cases h) (by rw [g2]; exact hkC) (by rw [g2]; exact va_assign hcls) rfl rfl hdg fun H1 e z oq => ?_
  refine kk H1 _ ?_ z oq (hS.put z oq hA)
  show H1[a]? = some (vp_cell _ _)
  rw [e]
  rw [vp_cell_q, vp_cell_q, arrV_store]
  congr 2
  funext q
  by_cases hq : q = i.toNatClampNeg
  · subst hq
    simp [updV, va_up, va_rf]
  · simp [updV, va_up, hq]
end B
section Rules
variable {l : Launch} {G : Gh} {k mc ms : Nat} {M : Mt} {Q : Res → Mem → Prop} {pc q : Nat} {L L' : List (Option Value)} {st : List Value} {I : Nat → Nat → Int32} {J : Nat → Nat → Int64} {R : Nat → Nat → Option Nat} {S : Nat → Nat × Nat} {nx : Nat} {cb sb : Nat}
theorem wp_throwW {E : String} {ik ist ic si : Nat} {μ : Mem} (hl0 : l.stackTraces = false) (hh : M.2.2.2.2 = []) (hsi : si < 35) (hss : (stL.getD si ("", 0, "")).1 = M.1.cls ∧ (stL.getD si ("", 0, "")).2.1 = ist) (hE : Bundle.fit E = true) (hEx : E ∈ exL) (hck : Cond.classLink M.1.cls ik E ∈ TW) (hini : Cond.initialized E ∈ TW)
    (hat : ∀ w ∈ vx_atS M.1.cls ic E ["java/lang/RuntimeException", "java/lang/Exception"], w ∈ TW ∨ w ∈ dcL.map Cond.declares ∨ w = Cond.castable E E) (hot : ∀ w ∈ Cond.classLink M.1.cls ik E :: Cond.initialized E :: vx_atS M.1.cls ic E ["java/lang/RuntimeException", "java/lang/Exception"], vx_ot w = true)
    (d0 : decode M.2.1 pc = .ok (.new ik, 3)) (d3 : decode M.2.1 (pc + 3) = .ok (.dup, 1)) (d4 : decode M.2.1 (pc + 4) = .ok (.ldc_w ist, 3)) (d6 : decode M.2.1 (pc + 7) = .ok (.invokespecial ic, 3)) (d9 : decode M.2.1 (pc + 10) = .ok (.athrow, 1)) (hw : (st.map fun v => v.category).sum ≤ 8)
    (h : ∀ n', μ.2.2.2.2 ≤ n' → Q (.inr E) (μ.1, μ.2.1, μ.2.2.1, (fun a => if a < μ.2.2.2.2 then μ.2.2.2.1 a else (999, 0)), n')) : WP l G k mc ms M Q pc L st μ (cb + 1) (sb + 6) := by
  intro p e s m args below meth c H locs cells slots ls C hR hS hl h1 h2
  have hg := C.2.2.2.2.2.2.2.2.1
  have hstr := hg.2.2.2.2.2.1 si hsi
  rw [hss.1, hss.2] at hstr
  refine vx_throwSW (names := ["java/lang/RuntimeException", "java/lang/Exception"]) (A := frA G) C.1 C.2.1 hl0 C.2.2.2.2.1 hE (by decide +kernel) (C.2.2.2.2.2.1 _ hck) (C.2.2.2.2.2.1 _ hini) hstr (fun w hw9 => ?_) hot hg.2.2.2.2.2.2.1 hg.2.2.2.2.2.2.2.1 hS (hl.1.trans C.2.2.2.1.symm) d0 d3 d4 d6 d9 (fun x hx => by rw [C.2.2.2.2.2.2.2.2.2.2, hh] at hx; cases hx) (by simp [room]; omega) (by rw [cat_cv]; simp [room]; omega) (by simp only [room]; omega) (by simp only [room]; omega) C.2.2.2.2.2.2.1 (fun t hal hz ho => ?_) hS.2.2 (by omega) (by omega)
  · rcases hat w hw9 with h9 | h9 | h9
    · exact C.2.2.2.2.2.1 _ h9
    · obtain ⟨x, hx, rfl⟩ := List.mem_map.mp h9
      exact va_Nw.use rfl (hg.2.2.2.1.2 x hx)
    · rw [h9]; exact va_Nw.use rfl (hg.2.2.2.1.1 E hEx)
  · have hz0 : H.size = G.1 + μ.2.2.2.2 := hR.1
    refine ⟨⟨_, h (t.heap.size - G.1) (by omega), ?_⟩, Nat.le_trans hS.1 hz, fun q g1 g2 => (ho q (Nat.lt_of_lt_of_le g1 hS.1)).trans (hS.2.1 q g1 g2)⟩
    refine ⟨by show t.heap.size = G.1 + (t.heap.size - G.1); omega, fun b hb ht => ?_⟩
    by_cases hbn : b < μ.2.2.2.2
    · have hs : (if b < μ.2.2.2.2 then μ.2.2.2.1 b else (999, 0)) = μ.2.2.2.1 b := if_pos hbn
      have ht2 : (μ.2.2.2.1 b).1 < 200 := by rw [← hs]; exact ht
      have hcl : clO G (μ.1, μ.2.1, μ.2.2.1, (fun a => if a < μ.2.2.2.2 then μ.2.2.2.1 a else (999, 0)), t.heap.size - G.1) b = clO G μ b := by
        unfold clO fsl fvl acn
        simp only [hs]
      rw [hcl]
      exact (hR.2 b hbn ht2).kept (ho _ (by show G.1 + b < H.size; omega))
    · have hs : (if b < μ.2.2.2.2 then μ.2.2.2.1 b else (999, 0)) = (999, 0) := if_neg hbn
      have ht2 : ((999, 0) : Nat × Nat).1 < 200 := by rw [← hs]; exact ht
      exact absurd ht2 (by decide)
theorem acn_q {B : Nat} {μ : Mem} {t a : Nat} (ht : t = 104 ∨ t = 105) : acn B μ t a = .inr (.inr (.inr (.inr (fun i => (μ.2.2.1 a i).map (fun x => B + x))))) := by
  rcases ht with rfl | rfl <;> rfl
theorem wp_aaloadR {a t n b : Nat} {i : Int32} (hd : decode M.2.1 pc = .ok (.aaload, 1)) (hq : pc + 1 = q) (ht : t = 104 ∨ t = 105) (ha : a < nx) (hs : S a = (t, n)) (hi : vp_in i n) (hr : R a i.toNatClampNeg = some b) (h : WP l G k mc ms M Q q L (.ref b :: st) (I, J, R, S, nx) cb sb) : WP l G k mc ms M Q pc L (.int i :: .ref a :: st) (I, J, R, S, nx) cb sb := by
  subst hq
  intro p e s m args below meth c H locs cells slots ls C hR hS hl h1 h2
  have h0 := rel_arr hR ha hs (by omega) (by omega)
  rw [acn_q ht] at h0
  have h9 := h p e s m args below meth c H locs cells slots ls C hR hS hl h1 h2
  rcases ht with rfl | rfl
  · refine va_aldq (n := n) (C := RX9) C.1 C.2.1 C.2.2.2.2.2.2.2.2.1.1 (va_P1 h0) 0 4 rfl rfl hi hd ?_
    show W _ _ _ _ _ _ _ _ _ _ _ _ _ _ _ (F0 _ _ _ (va_rf ((R a i.toNatClampNeg).map _) :: _))
    rw [hr]; exact h9
  · refine va_aldq (n := n) (C := RX1) C.1 C.2.1 C.2.2.2.2.2.2.2.2.1.1 (va_P1 h0) 0 5 rfl rfl hi hd ?_
    show W _ _ _ _ _ _ _ _ _ _ _ _ _ _ _ (F0 _ _ _ (va_rf ((R a i.toNatClampNeg).map _) :: _))
    rw [hr]; exact h9
theorem wp_aaloadN {a t n : Nat} {i : Int32} (hd : decode M.2.1 pc = .ok (.aaload, 1)) (hq : pc + 1 = q) (ht : t = 104 ∨ t = 105) (ha : a < nx) (hs : S a = (t, n)) (hi : vp_in i n) (hr : R a i.toNatClampNeg = none) (h : WP l G k mc ms M Q q L (.null :: st) (I, J, R, S, nx) cb sb) : WP l G k mc ms M Q pc L (.int i :: .ref a :: st) (I, J, R, S, nx) cb sb := by
  subst hq
  intro p e s m args below meth c H locs cells slots ls C hR hS hl h1 h2
  have h0 := rel_arr hR ha hs (by omega) (by omega)
  rw [acn_q ht] at h0
  have h9 := h p e s m args below meth c H locs cells slots ls C hR hS hl h1 h2
  rcases ht with rfl | rfl
  · refine va_aldq (n := n) (C := RX9) C.1 C.2.1 C.2.2.2.2.2.2.2.2.1.1 (va_P1 h0) 0 4 rfl rfl hi hd ?_
    show W _ _ _ _ _ _ _ _ _ _ _ _ _ _ _ (F0 _ _ _ (va_rf ((R a i.toNatClampNeg).map _) :: _))
    rw [hr]; exact h9
  · refine va_aldq (n := n) (C := RX1) C.1 C.2.1 C.2.2.2.2.2.2.2.2.1.1 (va_P1 h0) 0 5 rfl rfl hi hd ?_
    show W _ _ _ _ _ _ _ _ _ _ _ _ _ _ _ (F0 _ _ _ (va_rf ((R a i.toNatClampNeg).map _) :: _))
    rw [hr]; exact h9
theorem wp_aastore {a t n v ci : Nat} {i : Int32} (hd : decode M.2.1 pc = .ok (.aastore, 1)) (hq : pc + 1 = q) (ht : (t = 104 ∧ ci = 9) ∨ (t = 105 ∧ ci = 1)) (ha : a < nx) (hs : S a = (t, n)) (hv : v < nx) (hvs : (S v).1 = ci) (hi : vp_in i n) (h : WP l G k mc ms M Q q L st (I, J, up2 R a i.toNatClampNeg (some v), S, nx) cb sb) : WP l G k mc ms M Q pc L (.ref v :: .int i :: .ref a :: st) (I, J, R, S, nx) cb sb := by
  subst hq
  intro p e s m args below meth c H locs cells slots ls C hR hS hl h1 h2
  have ht2 : t = 104 ∨ t = 105 := ht.imp (·.1) (·.1)
  have h0 := rel_arr hR ha hs (by omega) (by omega)
  rw [acn_q ht2] at h0
  have hv0 := rel_obj hR hv hvs (by omega)
  have key : ∀ (H1 : Heap) (locs1 : List Loc), va_at G.2.1 mcls (G.1 + a, .inl (G.2.2.1 t, n, .inr (.inr (.inr (.inr (va_up (fun i => (R a i).map (fun x => G.1 + x)) i.toNatClampNeg (some (G.1 + v)))))))) H1 → H1.size = H.size → (∀ q, q ≠ G.1 + a → H1[q]? = H[q]?) → va_S (frA G) s.heap H1 locs1 → RelM G (I, J, up2 R a i.toNatClampNeg (some v), S, nx) H1 := by
    intro H1 locs1 g1 g2 g3 g4
    refine rel_set hR rfl rfl g2 g3 ?_ (fun b hb => clO_R hb)
    rw [clO_arr (t := t) (n := n) hs (by omega), acn_q ht2]
    have e : (fun j => (up2 R a i.toNatClampNeg (some v) a j).map (fun x => G.1 + x)) = va_up (fun i => (R a i).map (fun x => G.1 + x)) i.toNatClampNeg (some (G.1 + v)) := by
      funext j
      unfold va_up up2
      by_cases c : j = i.toNatClampNeg <;> simp [c]
    show va_at _ _ (_, .inl (_, n, .inr (.inr (.inr (.inr (fun j => (up2 R a i.toNatClampNeg (some v) a j).map (fun x => G.1 + x))))))) H1
    rw [e]; exact g1
  rcases ht with ⟨rfl, rfl⟩ | ⟨rfl, rfl⟩
  · exact vz_aast C.1 C.2.1 C.2.2.2.2.2.2.2.2.1.1 hS 4 9 h0 (show frA G (G.1 + a) from Nat.le_add_right _ _) rfl hv0 rfl hi hd fun H1 locs1 g1 g2 g3 g4 => h p e s m args below meth c H1 locs1 cells slots ls C (key H1 locs1 g1 g2 g3 g4) g4 hl h1 h2
  · exact vz_aast C.1 C.2.1 C.2.2.2.2.2.2.2.2.1.1 hS 5 1 h0 (show frA G (G.1 + a) from Nat.le_add_right _ _) rfl hv0 rfl hi hd fun H1 locs1 g1 g2 g3 g4 => h p e s m args below meth c H1 locs1 cells slots ls C (key H1 locs1 g1 g2 g3 g4) g4 hl h1 h2
end Rules
