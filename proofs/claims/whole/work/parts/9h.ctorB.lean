/-! constructors of the class and of the reference, at their names -/
section R
variable {l : Launch} {G : Gh} {k mc ms : Nat} {M : Mt} {Q : Res → Mem → Prop} {pc q : Nat} {L L' : List (Option Value)} {st : List Value} {cb sb : Nat} {I : Nat → Nat → Int32} {J : Nat → Nat → Int64} {R : Nat → Nat → Option Nat} {S : Nat → Nat × Nat} {nx : Nat}
theorem wp_anew {ix tg n : Nat} {Cn : String} {x : Int32} (hd : decode M.2.1 pc = .ok (.anewarray ix, 3)) (hq : pc + 3 = q) (htg : (tg = 104 ∧ Cn = RX9) ∨ (tg = 105 ∧ Cn = RX1)) (hcl : Cond.classLink M.1.cls ix Cn ∈ TW) (hx : ¬ x < 0) (hn : x.toNatClampNeg = n) (hn2 : n ≤ 134217728) (h : WP l G k mc ms M Q q L (.ref nx :: st) (up1 I nx (fun _ => 0), up1 J nx (fun _ => 0), up1 R nx (fun _ => none), up1 S nx (tg, n), nx + 1) cb sb) : WP l G k mc ms M Q pc L (.int x :: st) (I, J, R, S, nx) (cb + 1) (sb + n) := by
  subst hq
  intro p e s m args below meth c H locs cells slots ls C hR hS hl h1 h2
  have hz : H.size = G.1 + nx := hR.1
  have hg := C.2.2.2.2.2.2.2.2.1
  have hov : va_AO Cn s := by
    rcases htg with ⟨-, rfl⟩ | ⟨-, rfl⟩
    · exact hg.2.2.1.1
    · exact hg.2.2.1.2
  refine W.anew C.1 C.2.1 C.2.2.2.2.1 (C.2.2.2.2.2.1 _ hcl) (va_AO.use hov) rfl hd rfl hx (by rw [hn]; omega) (by simp only [room]; omega) (by rw [hn]; simp only [room]; omega) fun cA kA comp f1 f2 f3 f4 => ?_
  rw [hn]
  generalize hH1 : H.push ({ cls := cA, slots := Array.replicate n .null, vm := .none } : Cell) = H1
  have z1 : H1.size = H.size + 1 := by rw [← hH1, Array.size_push]
  have e1 : H1[H.size]? = some (arrV cA n (fun _ => .null)) := by rw [← hH1, Array.getElem?_push_size, ← arrV_new]
  have o1 : ∀ q : Nat, q < H.size → H1[q]? = H[q]? := fun q hq => by rw [← hH1, Array.getElem?_push, if_neg (Nat.ne_of_lt hq)]
  rw [hz] at z1 e1 o1
  have K := h p e s m args below meth c H1 locs (cells + 1) (slots + n) ls C (rel_new hR z1 o1 (by
    have hsh : (up1 S nx (tg, n)) nx = (tg, n) := by simp [up1]
    rw [clO_arr (t := tg) (n := n) hsh (by omega)]
    show H1[_]? = some (vp_cell _ _)
    rw [e1]
    have hKT := hg.1.2
    have hf : acn G.1 (up1 I nx (fun _ => 0), up1 J nx (fun _ => 0), up1 R nx (fun _ => none), up1 S nx (tg, n), nx + 1) tg nx = .inr (.inr (.inr (.inr (fun _ => none)))) := by
      rw [acn_q (by omega)]
      simp [up1]
    rw [hf]
    rcases htg with ⟨rfl, rfl⟩ | ⟨rfl, rfl⟩
    · obtain ⟨kA2, comp2, g1, g2, g3, g4⟩ := (hKT 4 (G.2.2.1 104, .object RX9) rfl).2
      rw [vp_cell_q, show G.2.2.1 104 = cA from Option.some.inj (g4.symm.trans f1)]; rfl
    · obtain ⟨kA2, comp2, g1, g2, g3, g4⟩ := (hKT 5 (G.2.2.1 105, .object RX1) rfl).2
      rw [vp_cell_q, show G.2.2.1 105 = cA from Option.some.inj (g4.symm.trans f1)]; rfl)) ⟨Nat.le_trans hS.1 (by omega), fun x g1 g2 => (o1 x (by have := hS.1; omega)).trans (hS.2.1 x g1 g2), hS.2.2⟩ hl (by omega) (by omega)
  show W p l e (room k mc ms) s m args below meth c H1 locs (cells + 1) (slots + n) _ (F0 m (pc + 3) ls (.ref H.size :: st.map (cv G)))
  rw [hz]
  exact K
end R
/-- what the reader's constructor leaves -/
def E1 (I : Nat → Nat → Int32) (R : Nat → Nat → Option Nat) (S : Nat → Nat × Nat) : Prop := ((S 1).1 = 6 ∧ S 2 = (102, 900) ∧ S 13 = (100, 900)) ∧ (R 1 0 = some 2 ∧ R 1 9 = some 13) ∧ I 1 1 = 0 ∧ I 1 11 = 0 ∧ I 1 12 = -1
def E2 (I : Nat → Nat → Int32) (R : Nat → Nat → Option Nat) (S : Nat → Nat × Nat) : Prop := ((S 14).1 = 7 ∧ S 25 = (100, 49) ∧ (S 26).1 = 3 ∧ S 27 = (100, 21) ∧ S 28 = (100, 64) ∧ S 29 = (100, 960)) ∧ (R 14 0 = some 15 ∧ R 14 1 = some 25 ∧ R 14 2 = some 26 ∧ R 14 3 = some 29 ∧ R 26 0 = some 27 ∧ R 26 1 = some 28) ∧ ((S 15).1 = 2 ∧ (∀ i, i < 7 → R 15 (5 + i) = some (15 + (1 + i)) ∧ S (15 + (1 + i)) = (100, [5, 5, 8, 8, 8, 8, 10].getD i 0)) ∧ (R 15 12 = some 23 ∧ R 15 13 = some 24) ∧ (S 23 = (100, 0) ∧ S 24 = (100, 0))) ∧ (I 15 0 = 0 ∧ I 15 1 = 0 ∧ I 15 2 = 0 ∧ I 15 4 = 0) ∧ (∀ i, i < 7 → I (15 + (1 + i)) = fun _ => 0) ∧ I 25 = (fun _ => 0) ∧ I 29 = fun _ => 0
section A
variable {l : Launch} {G : Gh} {k : Nat} {I : Nat → Nat → Int32} {J : Nat → Nat → Int64} {R : Nat → Nat → Option Nat} {S : Nat → Nat × Nat} {nx : Nat} {κ : Nat → Nat} {hb pb : Nat}
theorem E1.cg {I' : Nat → Nat → Int32} {R' : Nat → Nat → Option Nat} {S' : Nat → Nat × Nat} (h : E1 I R S) (e : ∀ a, 1 ≤ a → a < 14 → I' a = I a ∧ R' a = R a ∧ S' a = S a) : E1 I' R' S' := by
  unfold E1
  rw [(e 1 (by decide) (by decide)).1, (e 1 (by decide) (by decide)).2.1, (e 1 (by decide) (by decide)).2.2, (e 2 (by decide) (by decide)).2.2, (e 13 (by decide) (by decide)).2.2]
  exact h
theorem E2.cg {I' : Nat → Nat → Int32} {R' : Nat → Nat → Option Nat} {S' : Nat → Nat × Nat} (h : E2 I R S) (e : ∀ a, 14 ≤ a → a < 30 → I' a = I a ∧ R' a = R a ∧ S' a = S a) : E2 I' R' S' := by
  obtain ⟨h1, h2, ⟨h3, h4, h5, h6⟩, h7, h8, h9, h10⟩ := h
  have eI : ∀ a, 14 ≤ a → a < 30 → I' a = I a := fun a x y => (e a x y).1
  have eR : ∀ a, 14 ≤ a → a < 30 → R' a = R a := fun a x y => (e a x y).2.1
  have eS : ∀ a, 14 ≤ a → a < 30 → S' a = S a := fun a x y => (e a x y).2.2
  refine ⟨?_, ?_, ⟨?_, fun i hi => ⟨?_, ?_⟩, ?_, ?_⟩, ?_, fun i hi => ?_, ?_, ?_⟩
  · rw [eS 14 (by decide) (by decide), eS 25 (by decide) (by decide), eS 26 (by decide) (by decide), eS 27 (by decide) (by decide), eS 28 (by decide) (by decide), eS 29 (by decide) (by decide)]; exact h1
  · rw [eR 14 (by decide) (by decide), eR 26 (by decide) (by decide)]; exact h2
  · rw [eS 15 (by decide) (by decide)]; exact h3
  · rw [eR 15 (by decide) (by decide)]; exact (h4 i hi).1
  · rw [eS _ (by omega) (by omega)]; exact (h4 i hi).2
  · rw [eR 15 (by decide) (by decide)]; exact h5
  · rw [eS 23 (by decide) (by decide), eS 24 (by decide) (by decide)]; exact h6
  · rw [eI 15 (by decide) (by decide)]; exact h7
  · rw [eI _ (by omega) (by omega)]; exact h8 i hi
  · rw [eI 25 (by decide) (by decide)]; exact h9
  · rw [eI 29 (by decide) (by decide)]; exact h10
theorem i_X6_init (hs : (S 1).1 = 6) : Cal l G (k + 1) 12 1866 mX6_init [.ref 1] (I, J, R, S, 2) (fun r μ' => r = .inl none ∧ ∃ I' J' R' S', μ' = (I', J', R', S', 14) ∧ (I' 0 = I 0 ∧ J' 0 = J 0 ∧ R' 0 = R 0 ∧ S' 0 = S 0) ∧ E1 I' R' S') := by
  refine Cal.of rfl (by decide +kernel) (by simp) (Nat.le_of_ble_eq_true rfl) rfl (wp_aload_n (q := 1) dX6_init_0 rfl rfl rfl (wp_objInit (q := 4) dX6_init_1 rfl ml_RX6_5 OI OC (Nat.le_of_ble_eq_true rfl) (wp_aload_n (q := 5) dX6_init_4 rfl rfl rfl (wp_sipush (q := 8) dX6_init_5 rfl ks_900 (wp_newarr (q := 10) (ty := .int) (tg := 102) (n := 900) dX6_init_8 rfl (Or.inr (Or.inr (Or.inl ⟨rfl, rfl⟩))) AR102 (by decide) (by decide) (by decide) (wp_putR (q := 13) (ty := tyX6) dX6_init_10 rfl fl_RX6_11 rfl (Or.inr ⟨rfl, rfl, rfl⟩) (fun _ => rfl) (fun _ => rfl) rfl (by omega) hs (wp_aload_n (q := 14) dX6_init_13 rfl rfl rfl (wp_iconst (q := 15) dX6_init_14 rfl ki_0 (wp_putI (q := 18) (ty := tyX6) dX6_init_15 rfl fl_RX6_15 rfl rfl rfl rfl rfl (by omega) hs (wp_aload_n (q := 19) dX6_init_18 rfl rfl rfl (wp_iconst (q := 20) dX6_init_19 rfl ki_0 (wp_putI (q := 23) (ty := tyX6) dX6_init_20 rfl fl_RX6_19 rfl rfl rfl rfl rfl (by omega) hs (wp_aload_n (q := 24) dX6_init_23 rfl rfl rfl (wp_iconst (q := 25) dX6_init_24 rfl ki_0 (wp_putI (q := 28) (ty := tyX6) dX6_init_25 rfl fl_RX6_22 rfl rfl rfl rfl rfl (by omega) hs (wp_aload_n (q := 29) dX6_init_28 rfl rfl rfl (wp_sipush (q := 32) dX6_init_29 rfl ks_257 (wp_putI (q := 35) (ty := tyX6) dX6_init_32 rfl fl_RX6_25 rfl rfl rfl rfl rfl (by omega) hs (wp_aload_n (q := 36) dX6_init_35 rfl rfl rfl (wp_iconst (q := 37) dX6_init_36 rfl ki_0 (wp_putI (q := 40) (ty := tyX6) dX6_init_37 rfl fl_RX6_28 rfl rfl rfl rfl rfl (by omega) hs (wp_aload_n (q := 41) dX6_init_40 rfl rfl rfl (wp_iconst (q := 42) dX6_init_41 rfl ki_0 (wp_putI (q := 45) (ty := tyX6) dX6_init_42 rfl fl_RX6_31 rfl rfl rfl rfl rfl (by omega) hs (wp_aload_n (q := 46) dX6_init_45 rfl rfl rfl (wp_new (q := 49) (t := 2) dX6_init_46 rfl rfl rfl (by decide) cl_RX6_34 ib_RX2 in_RX2 (wp_dup (q := 50) dX6_init_49 rfl rfl (wp_invIN (q := 53) (As := []) (host := RX11) (mc' := 9) (ms' := 52) dX6_init_50 rfl rfl ok_X2_init rfl rfl (List.mem_of_getElem? (i := 1) rfl) im_X2_init rfl rfl (Nat.le_of_ble_eq_true rfl) (by decide) (by decide) (i_X2_init (x0 := 3) (by omega) rfl) ?_ ?_))))))))))))))))))))))))))))
  · rintro r μ' ⟨hr1, I1, J1, R1, S1, rfl, a1, a2, a3, a4, a5⟩
    obtain rfl := Sum.inl.inj hr1
    have b0 := a1 0 (by decide)
    have b1 := a1 1 (by decide)
    have b2 := a1 2 (by decide)
    have hs1 : (S1 1).1 = 6 := by rw [b1.2.2]; exact hs
    refine WP.less (cb' := 1) (sb' := 900) (by decide) (by decide) (wp_putR (q := 56) (ty := tyX6) dX6_init_53 rfl fl_RX6_37 rfl (Or.inl rfl) (fun _ => rfl) (fun _ => rfl) rfl (by omega) hs1 (wp_aload_n (q := 57) dX6_init_56 rfl rfl rfl (wp_iconst (q := 58) dX6_init_57 rfl ki_0 (wp_putI (q := 61) (ty := tyX6) dX6_init_58 rfl fl_RX6_41 rfl rfl rfl rfl rfl (by omega) hs1 (wp_aload_n (q := 62) dX6_init_61 rfl rfl rfl (wp_sipush (q := 65) dX6_init_62 rfl ks_900 (wp_newarr (q := 67) (ty := .int) (tg := 100) (n := 900) dX6_init_65 rfl (Or.inl ⟨rfl, rfl⟩) AR100 (by decide) (by decide) (by decide) (wp_putR (q := 70) (ty := tyX6) dX6_init_67 rfl fl_RX6_45 rfl (Or.inr ⟨rfl, rfl, rfl⟩) (fun _ => rfl) (fun _ => rfl) rfl (by omega) hs1 (wp_aload_n (q := 71) dX6_init_70 rfl rfl rfl (wp_iconst (q := 72) dX6_init_71 rfl ki_0 (wp_putI (q := 75) (ty := tyX6) dX6_init_72 rfl fl_RX6_49 rfl rfl rfl rfl rfl (by omega) hs1 (wp_aload_n (q := 76) dX6_init_75 rfl rfl rfl (wp_iconst (q := 77) dX6_init_76 rfl ki_0 (wp_putI (q := 80) (ty := tyX6) dX6_init_77 rfl fl_RX6_52 rfl rfl rfl rfl rfl (by omega) hs1 (wp_aload_n (q := 81) dX6_init_80 rfl rfl rfl (wp_iconst (q := 82) dX6_init_81 rfl ki_m1 (wp_putI (q := 85) (ty := tyX6) dX6_init_82 rfl fl_RX6_55 rfl rfl rfl rfl rfl (by omega) hs1 (wp_return dX6_init_85 rfl ?_))))))))))))))))))
    refine ⟨rfl, _, _, _, _, rfl, ⟨?_, ?_, ?_, ?_⟩, ⟨?_, ?_, ?_⟩, ⟨?_, ?_⟩, ?_, ?_, ?_⟩
    · show I1 0 = I 0
      exact (b0.1 (by decide)).1
    · show J1 0 = J 0
      exact b0.2.1
    · show R1 0 = R 0
      exact (b0.1 (by decide)).2
    · show S1 0 = S 0
      exact b0.2.2
    · show (S1 1).1 = 6
      exact hs1
    · show S1 2 = (102, 900)
      rw [b2.2.2]; rfl
    · rfl
    · show R1 1 0 = some 2
      rw [(b1.1 (by decide)).2]; rfl
    · rfl
    · show I1 1 1 = 0
      rw [(b1.1 (by decide)).1]; rfl
    · rfl
    · rfl
  · rintro E μ' ⟨hr1, _⟩; cases hr1
theorem i_X7_init (hs : (S 14).1 = 7) : Cal l G (k + 1) 15 1162 mX7_init [.ref 14] (I, J, R, S, 15) (fun r μ' => r = .inl none ∧ ∃ I' J' R' S', μ' = (I', J', R', S', 30) ∧ (∀ a, a < 14 → I' a = I a ∧ J' a = J a ∧ R' a = R a ∧ S' a = S a) ∧ E2 I' R' S') := by
  refine Cal.of rfl (by decide +kernel) (by simp) (Nat.le_of_ble_eq_true rfl) rfl (wp_aload_n (q := 1) dX7_init_0 rfl rfl rfl (wp_objInit (q := 4) dX7_init_1 rfl ml_RX7_3 OI OC (Nat.le_of_ble_eq_true rfl) (wp_aload_n (q := 5) dX7_init_4 rfl rfl rfl (wp_new (q := 8) (t := 2) dX7_init_5 rfl rfl rfl (by decide) cl_RX7_9 ib_RX2 in_RX2 (wp_dup (q := 9) dX7_init_8 rfl rfl (wp_invIN (q := 12) (As := []) (host := RX11) (mc' := 9) (ms' := 52) dX7_init_9 rfl rfl ok_X2_init rfl rfl (List.mem_of_getElem? (i := 3) rfl) im_X2_init rfl rfl (Nat.le_of_ble_eq_true rfl) (by decide) (by decide) (i_X2_init (x0 := 15) (by omega) rfl) ?_ ?_))))))
  · rintro r μ' ⟨hr1, I1, J1, R1, S1, rfl, a1, a2, a3, a4, a5⟩
    obtain rfl := Sum.inl.inj hr1
    have hs1 : (S1 14).1 = 7 := by rw [(a1 14 (by decide)).2.2]; exact hs
    refine WP.less (cb' := 5) (sb' := 1096) (by decide) (by decide) (wp_putR (q := 15) (ty := tyX7) dX7_init_12 rfl fl_RX7_12 rfl (Or.inl rfl) (fun _ => rfl) (fun _ => rfl) rfl (by omega) hs1 (wp_aload_n (q := 16) dX7_init_15 rfl rfl rfl (wp_bipush (q := 18) dX7_init_16 rfl kb_49 (wp_newarr (q := 20) (ty := .int) (tg := 100) (n := 49) dX7_init_18 rfl (Or.inl ⟨rfl, rfl⟩) AR100 (by decide) (by decide) (by decide) (wp_putR (q := 23) (ty := tyX7) dX7_init_20 rfl fl_RX7_18 rfl (Or.inr ⟨rfl, rfl, rfl⟩) (fun _ => rfl) (fun _ => rfl) rfl (by omega) hs1 (wp_aload_n (q := 24) dX7_init_23 rfl rfl rfl (wp_new (q := 27) (t := 3) dX7_init_24 rfl rfl rfl (by decide) cl_RX7_22 ib_RX3 in_RX3 (wp_dup (q := 28) dX7_init_27 rfl rfl (wp_invIN (q := 31) (As := []) (host := RX11) (mc' := 2) (ms' := 85) dX7_init_28 rfl rfl ok_X3_init rfl rfl (List.mem_of_getElem? (i := 4) rfl) im_X3_init rfl rfl (Nat.le_of_ble_eq_true rfl) (by decide) (by decide) (i_X3_init (x0 := 26) (by omega) rfl) ?_ ?_)))))))))
    · rintro r μ' ⟨hr2, I2, J2, R2, S2, rfl, c1, c2, c3, c4, c5⟩
      obtain rfl := Sum.inl.inj hr2
      have hs2 : (S2 14).1 = 7 := by rw [(c1 14 (by decide)).2.2]; exact hs1
      have cS : ∀ a, a < 26 → S2 a = (up1 (up1 S1 25 (100, 49)) 26 (3, 0)) a := fun a ha => (c1 a (by omega)).2.2
      have cR : ∀ a, a < 26 → R2 a = (up1 (up2 (up1 (up2 R1 14 0 (some 15)) 25 (fun _ => none)) 14 1 (some 25)) 26 (fun _ => none)) a := fun a ha => ((c1 a (by omega)).1 (by omega)).2
      have cI : ∀ a, a < 26 → I2 a = (up1 (up1 I1 25 (fun _ => 0)) 26 (fun _ => 0)) a := fun a ha => ((c1 a (by omega)).1 (by omega)).1
      obtain ⟨r5, r6, r7, r8, r9, r10, r11, r12, r13⟩ := a3
      obtain ⟨s0, s1, s2, s3, s4, s5, s6, s7, s8⟩ := a4
      refine WP.less (cb' := 1) (sb' := 960) (by decide) (by decide) (wp_putR (q := 34) (ty := tyX7) dX7_init_31 rfl fl_RX7_25 rfl (Or.inr ⟨rfl, rfl, rfl⟩) (fun _ => rfl) (fun _ => rfl) rfl (by omega) hs2 (wp_aload_n (q := 35) dX7_init_34 rfl rfl rfl (wp_sipush (q := 38) dX7_init_35 rfl ks_960 (wp_newarr (q := 40) (ty := .int) (tg := 100) (n := 960) dX7_init_38 rfl (Or.inl ⟨rfl, rfl⟩) AR100 (by decide) (by decide) (by decide) (wp_putR (q := 43) (ty := tyX7) dX7_init_40 rfl fl_RX7_29 rfl (Or.inr ⟨rfl, rfl, rfl⟩) (fun _ => rfl) (fun _ => rfl) rfl (by omega) hs2 (wp_return dX7_init_43 rfl ?_))))))
      refine ⟨rfl, _, _, _, _, rfl, fun a ha => ?_, ⟨?_, ?_, ?_, ?_, ?_, ?_⟩, ⟨?_, ?_, ?_, ?_, ?_, ?_⟩, ⟨?_, fun i hi => ?_, ⟨?_, ?_⟩, ?_, ?_⟩, ⟨?_, ?_, ?_, ?_⟩, fun i hi => ?_, ?_, ?_⟩
      · obtain ⟨d1, d2, d3⟩ := a1 a (by omega)
        obtain ⟨d4, d5⟩ := d1 (by omega)
        obtain ⟨e1, e2, e3⟩ := c1 a (by omega)
        obtain ⟨e4, e5⟩ := e1 (by omega)
        rw [up1_ne (by omega)] at d2 d3 d4 d5
        rw [up1_ne (by omega), up1_ne (by omega)] at e2 e3 e4
        refine ⟨?_, ?_, ?_, ?_⟩
        · rw [up1_ne (by omega), e4, d4]
        · rw [up1_ne (by omega), e2, d2]
        · rw [up2_g (by omega), up1_ne (by omega), up2_g (by omega), e5, up1_ne (by omega), up2_g (by omega), up1_ne (by omega), up2_g (by omega), d5]
        · rw [up1_ne (by omega), e3, d3]
      · exact hs2
      · show S2 25 = (100, 49)
        rw [cS 25 (by decide)]; rfl
      · show (S2 26).1 = 3
        rw [(c1 26 (by decide)).2.2]; rfl
      · exact c4.1
      · exact c4.2
      · rfl
      · show R2 14 0 = some 15
        rw [cR 14 (by decide)]; rfl
      · show R2 14 1 = some 25
        rw [cR 14 (by decide)]; rfl
      · rfl
      · rfl
      · exact c3.1
      · exact c3.2
      · show (S2 15).1 = 2
        rw [cS 15 (by decide)]
        show (S1 15).1 = 2
        rw [(a1 15 (by decide)).2.2]; rfl
      · have hi' : i = 0 ∨ i = 1 ∨ i = 2 ∨ i = 3 ∨ i = 4 ∨ i = 5 ∨ i = 6 := by omega
        rcases hi' with rfl | rfl | rfl | rfl | rfl | rfl | rfl
        · exact ⟨by show R2 15 5 = some 16; rw [cR 15 (by decide)]; exact r5, by show S2 16 = (100, 5); rw [cS 16 (by decide)]; exact s0⟩
        · exact ⟨by show R2 15 6 = some 17; rw [cR 15 (by decide)]; exact r6, by show S2 17 = (100, 5); rw [cS 17 (by decide)]; exact s1⟩
        · exact ⟨by show R2 15 7 = some 18; rw [cR 15 (by decide)]; exact r7, by show S2 18 = (100, 8); rw [cS 18 (by decide)]; exact s2⟩
        · exact ⟨by show R2 15 8 = some 19; rw [cR 15 (by decide)]; exact r8, by show S2 19 = (100, 8); rw [cS 19 (by decide)]; exact s3⟩
        · exact ⟨by show R2 15 9 = some 20; rw [cR 15 (by decide)]; exact r9, by show S2 20 = (100, 8); rw [cS 20 (by decide)]; exact s4⟩
        · exact ⟨by show R2 15 10 = some 21; rw [cR 15 (by decide)]; exact r10, by show S2 21 = (100, 8); rw [cS 21 (by decide)]; exact s5⟩
        · exact ⟨by show R2 15 11 = some 22; rw [cR 15 (by decide)]; exact r11, by show S2 22 = (100, 10); rw [cS 22 (by decide)]; exact s6⟩
      · show R2 15 12 = some 23
        rw [cR 15 (by decide)]; exact r12
      · show R2 15 13 = some 24
        rw [cR 15 (by decide)]; exact r13
      · show S2 23 = (100, 0)
        rw [cS 23 (by decide)]; exact s7
      · show S2 24 = (100, 0)
        rw [cS 24 (by decide)]; exact s8
      · show I2 15 0 = 0
        rw [cI 15 (by decide)]; exact a5.1
      · show I2 15 1 = 0
        rw [cI 15 (by decide)]; exact a5.2.1
      · show I2 15 2 = 0
        rw [cI 15 (by decide)]; exact a5.2.2.1
      · show I2 15 4 = 0
        rw [cI 15 (by decide)]; exact a5.2.2.2.2
      · rw [up1_ne (by omega), cI _ (by omega), up1_ne (by omega), up1_ne (by omega), show 15 + (1 + i) = 15 + 1 + i by omega]
        exact (a2 i (by omega)).1
      · show I2 25 = fun _ => 0
        rw [cI 25 (by decide)]; rfl
      · rfl
    · rintro E μ' ⟨hr2, _⟩; cases hr2
  · rintro E μ' ⟨hr1, _⟩; cases hr1
theorem i_X12_init (hs : (S 43).1 = 12) : Cal l G k 27 26157 mX12_init [.ref 43] (I, J, R, S, 44) (fun r μ' => r = .inl none ∧ ∃ I' J' R' S', μ' = (I', J', R', S', 71) ∧ (∀ a, a < 43 → I' a = I a ∧ J' a = J a ∧ R' a = R a ∧ S' a = S a) ∧ (S' 43).1 = 12 ∧ (∀ q ∈ mwL, R' 43 q.1 = some q.2.1 ∧ S' q.2.1 = (q.2.2.1, q.2.2.2)) ∧ (I' 44 = (fun _ => 0) ∧ I' 47 = (fun _ => 0) ∧ I' 43 6 = I 43 6 ∧ I' 43 14 = I 43 14 ∧ I' 43 15 = -1) ∧ (∀ t, t < 4 → I' 68 t = -1) ∧ I' 69 = (fun _ => 0) ∧ J' 70 = fun _ => 0) := by
  refine Cal.of rfl (by decide +kernel) (by simp) (Nat.le_of_ble_eq_true rfl) rfl (wp_aload_n (q := 1) dX12_init_0 rfl rfl rfl (wp_objInit (q := 4) dX12_init_1 rfl ml_RX12_1 OI OC (Nat.le_of_ble_eq_true rfl) (wp_aload_n (q := 5) dX12_init_4 rfl rfl rfl (wp_sipush (q := 8) dX12_init_5 rfl ks_2380 (wp_newarr (q := 10) (ty := .int) (tg := 100) (n := 2380) dX12_init_8 rfl (Or.inl ⟨rfl, rfl⟩) AR100 (by decide) (by decide) (by decide) (wp_putR (q := 13) (ty := tyX12) dX12_init_10 rfl fl_RX12_9 rfl (Or.inr ⟨rfl, rfl, rfl⟩) (fun _ => rfl) (fun _ => rfl) rfl (by omega) hs (wp_aload_n (q := 14) dX12_init_13 rfl rfl rfl (wp_sipush (q := 17) dX12_init_14 rfl ks_2380 (wp_newarr (q := 19) (ty := .int) (tg := 100) (n := 2380) dX12_init_17 rfl (Or.inl ⟨rfl, rfl⟩) AR100 (by decide) (by decide) (by decide) (wp_putR (q := 22) (ty := tyX12) dX12_init_19 rfl fl_RX12_13 rfl (Or.inr ⟨rfl, rfl, rfl⟩) (fun _ => rfl) (fun _ => rfl) rfl (by omega) hs (wp_aload_n (q := 23) dX12_init_22 rfl rfl rfl (wp_sipush (q := 26) dX12_init_23 rfl ks_7140 (wp_newarr (q := 28) (ty := .int) (tg := 100) (n := 7140) dX12_init_26 rfl (Or.inl ⟨rfl, rfl⟩) AR100 (by decide) (by decide) (by decide) (wp_putR (q := 31) (ty := tyX12) dX12_init_28 rfl fl_RX12_16 rfl (Or.inr ⟨rfl, rfl, rfl⟩) (fun _ => rfl) (fun _ => rfl) rfl (by omega) hs (wp_aload_n (q := 32) dX12_init_31 rfl rfl rfl (wp_iconst (q := 33) dX12_init_32 rfl ki_3 (wp_newarr (q := 35) (ty := .int) (tg := 103) (n := 3) dX12_init_33 rfl (Or.inr (Or.inr (Or.inr ⟨rfl, rfl⟩))) AR103 (by decide) (by decide) (by decide) (wp_putR (q := 38) (ty := tyX12) dX12_init_35 rfl fl_RX12_19 rfl (Or.inr ⟨rfl, rfl, rfl⟩) (fun _ => rfl) (fun _ => rfl) rfl (by omega) hs (wp_aload_n (q := 39) dX12_init_38 rfl rfl rfl (wp_sipush (q := 42) dX12_init_39 rfl ks_900 (wp_newarr (q := 44) (ty := .int) (tg := 100) (n := 900) dX12_init_42 rfl (Or.inl ⟨rfl, rfl⟩) AR100 (by decide) (by decide) (by decide) (wp_putR (q := 47) (ty := tyX12) dX12_init_44 rfl fl_RX12_23 rfl (Or.inr ⟨rfl, rfl, rfl⟩) (fun _ => rfl) (fun _ => rfl) rfl (by omega) hs (wp_aload_n (q := 48) dX12_init_47 rfl rfl rfl (wp_iconst (q := 49) dX12_init_48 rfl ki_m1 (wp_putI (q := 52) (ty := tyX12) dX12_init_49 rfl fl_RX12_26 rfl rfl rfl rfl rfl (by omega) hs (wp_aload_n (q := 53) dX12_init_52 rfl rfl rfl (wp_bipush (q := 55) dX12_init_53 rfl kb_64 (wp_newarr (q := 57) (ty := .int) (tg := 100) (n := 64) dX12_init_55 rfl (Or.inl ⟨rfl, rfl⟩) AR100 (by decide) (by decide) (by decide) (wp_putR (q := 60) (ty := tyX12) dX12_init_57 rfl fl_RX12_30 rfl (Or.inr ⟨rfl, rfl, rfl⟩) (fun _ => rfl) (fun _ => rfl) rfl (by omega) hs (wp_aload_n (q := 61) dX12_init_60 rfl rfl rfl (wp_bipush (q := 63) dX12_init_61 rfl kb_7 (wp_newarr (q := 65) (ty := .int) (tg := 100) (n := 7) dX12_init_63 rfl (Or.inl ⟨rfl, rfl⟩) AR100 (by decide) (by decide) (by decide) (wp_putR (q := 68) (ty := tyX12) dX12_init_65 rfl fl_RX12_33 rfl (Or.inr ⟨rfl, rfl, rfl⟩) (fun _ => rfl) (fun _ => rfl) rfl (by omega) hs (wp_aload_n (q := 69) dX12_init_68 rfl rfl rfl (wp_sipush (q := 72) dX12_init_69 rfl ks_2400 (wp_newarr (q := 74) (ty := .int) (tg := 100) (n := 2400) dX12_init_72 rfl (Or.inl ⟨rfl, rfl⟩) AR100 (by decide) (by decide) (by decide) (wp_putR (q := 77) (ty := tyX12) dX12_init_74 rfl fl_RX12_36 rfl (Or.inr ⟨rfl, rfl, rfl⟩) (fun _ => rfl) (fun _ => rfl) rfl (by omega) hs (wp_aload_n (q := 78) dX12_init_77 rfl rfl rfl (wp_sipush (q := 81) dX12_init_78 rfl ks_1024 (wp_newarr (q := 83) (ty := .int) (tg := 100) (n := 1024) dX12_init_81 rfl (Or.inl ⟨rfl, rfl⟩) AR100 (by decide) (by decide) (by decide) (wp_putR (q := 86) (ty := tyX12) dX12_init_83 rfl fl_RX12_39 rfl (Or.inr ⟨rfl, rfl, rfl⟩) (fun _ => rfl) (fun _ => rfl) rfl (by omega) hs (wp_aload_n (q := 87) dX12_init_86 rfl rfl rfl (wp_sipush (q := 90) dX12_init_87 rfl ks_4096 (wp_newarr (q := 92) (ty := .int) (tg := 100) (n := 4096) dX12_init_90 rfl (Or.inl ⟨rfl, rfl⟩) AR100 (by decide) (by decide) (by decide) (wp_putR (q := 95) (ty := tyX12) dX12_init_92 rfl fl_RX12_42 rfl (Or.inr ⟨rfl, rfl, rfl⟩) (fun _ => rfl) (fun _ => rfl) rfl (by omega) hs (wp_aload_n (q := 96) dX12_init_95 rfl rfl rfl (wp_sipush (q := 99) dX12_init_96 rfl ks_4096 (wp_newarr (q := 101) (ty := .int) (tg := 103) (n := 4096) dX12_init_99 rfl (Or.inr (Or.inr (Or.inr ⟨rfl, rfl⟩))) AR103 (by decide) (by decide) (by decide) (wp_putR (q := 104) (ty := tyX12) dX12_init_101 rfl fl_RX12_45 rfl (Or.inr ⟨rfl, rfl, rfl⟩) (fun _ => rfl) (fun _ => rfl) rfl (by omega) hs (wp_aload_n (q := 105) dX12_init_104 rfl rfl rfl (wp_bipush (q := 107) dX12_init_105 rfl kb_49 (wp_newarr (q := 109) (ty := .int) (tg := 100) (n := 49) dX12_init_107 rfl (Or.inl ⟨rfl, rfl⟩) AR100 (by decide) (by decide) (by decide) (wp_putR (q := 112) (ty := tyX12) dX12_init_109 rfl fl_RX12_48 rfl (Or.inr ⟨rfl, rfl, rfl⟩) (fun _ => rfl) (fun _ => rfl) rfl (by omega) hs (wp_aload_n (q := 113) dX12_init_112 rfl rfl rfl (wp_sipush (q := 116) dX12_init_113 rfl ks_201 (wp_newarr (q := 118) (ty := .int) (tg := 100) (n := 201) dX12_init_116 rfl (Or.inl ⟨rfl, rfl⟩) AR100 (by decide) (by decide) (by decide) (wp_putR (q := 121) (ty := tyX12) dX12_init_118 rfl fl_RX12_51 rfl (Or.inr ⟨rfl, rfl, rfl⟩) (fun _ => rfl) (fun _ => rfl) rfl (by omega) hs (wp_aload_n (q := 122) dX12_init_121 rfl rfl rfl (wp_sipush (q := 125) dX12_init_122 rfl ks_305 (wp_newarr (q := 127) (ty := .int) (tg := 100) (n := 305) dX12_init_125 rfl (Or.inl ⟨rfl, rfl⟩) AR100 (by decide) (by decide) (by decide) (wp_putR (q := 130) (ty := tyX12) dX12_init_127 rfl fl_RX12_54 rfl (Or.inr ⟨rfl, rfl, rfl⟩) (fun _ => rfl) (fun _ => rfl) rfl (by omega) hs (wp_aload_n (q := 131) dX12_init_130 rfl rfl rfl (wp_bipush (q := 133) dX12_init_131 rfl kb_61 (wp_newarr (q := 135) (ty := .int) (tg := 100) (n := 61) dX12_init_133 rfl (Or.inl ⟨rfl, rfl⟩) AR100 (by decide) (by decide) (by decide) (wp_putR (q := 138) (ty := tyX12) dX12_init_135 rfl fl_RX12_57 rfl (Or.inr ⟨rfl, rfl, rfl⟩) (fun _ => rfl) (fun _ => rfl) rfl (by omega) hs (wp_aload_n (q := 139) dX12_init_138 rfl rfl rfl (wp_bipush (q := 141) dX12_init_139 rfl kb_61 (wp_newarr (q := 143) (ty := .int) (tg := 100) (n := 61) dX12_init_141 rfl (Or.inl ⟨rfl, rfl⟩) AR100 (by decide) (by decide) (by decide) (wp_putR (q := 146) (ty := tyX12) dX12_init_143 rfl fl_RX12_60 rfl (Or.inr ⟨rfl, rfl, rfl⟩) (fun _ => rfl) (fun _ => rfl) rfl (by omega) hs (wp_aload_n (q := 147) dX12_init_146 rfl rfl rfl (wp_iconst (q := 148) dX12_init_147 rfl ki_5 (wp_newarr (q := 150) (ty := .int) (tg := 100) (n := 5) dX12_init_148 rfl (Or.inl ⟨rfl, rfl⟩) AR100 (by decide) (by decide) (by decide) (wp_putR (q := 153) (ty := tyX12) dX12_init_150 rfl fl_RX12_63 rfl (Or.inr ⟨rfl, rfl, rfl⟩) (fun _ => rfl) (fun _ => rfl) rfl (by omega) hs (wp_aload_n (q := 154) dX12_init_153 rfl rfl rfl (wp_iconst (q := 155) dX12_init_154 rfl ki_5 (wp_newarr (q := 157) (ty := .int) (tg := 100) (n := 5) dX12_init_155 rfl (Or.inl ⟨rfl, rfl⟩) AR100 (by decide) (by decide) (by decide) (wp_putR (q := 160) (ty := tyX12) dX12_init_157 rfl fl_RX12_66 rfl (Or.inr ⟨rfl, rfl, rfl⟩) (fun _ => rfl) (fun _ => rfl) rfl (by omega) hs (wp_aload_n (q := 161) dX12_init_160 rfl rfl rfl (wp_iconst (q := 162) dX12_init_161 rfl ki_5 (wp_newarr (q := 164) (ty := .int) (tg := 101) (n := 5) dX12_init_162 rfl (Or.inr (Or.inl ⟨rfl, rfl⟩)) AR101 (by decide) (by decide) (by decide) (wp_putR (q := 167) (ty := tyX12) dX12_init_164 rfl fl_RX12_69 rfl (Or.inr ⟨rfl, rfl, rfl⟩) (fun _ => rfl) (fun _ => rfl) rfl (by omega) hs (wp_aload_n (q := 168) dX12_init_167 rfl rfl rfl (wp_iconst (q := 169) dX12_init_168 rfl ki_5 (wp_newarr (q := 171) (ty := .int) (tg := 101) (n := 5) dX12_init_169 rfl (Or.inr (Or.inl ⟨rfl, rfl⟩)) AR101 (by decide) (by decide) (by decide) (wp_putR (q := 174) (ty := tyX12) dX12_init_171 rfl fl_RX12_73 rfl (Or.inr ⟨rfl, rfl, rfl⟩) (fun _ => rfl) (fun _ => rfl) rfl (by omega) hs (wp_aload_n (q := 175) dX12_init_174 rfl rfl rfl (wp_iconst (q := 176) dX12_init_175 rfl ki_4 (wp_newarr (q := 178) (ty := .int) (tg := 100) (n := 4) dX12_init_176 rfl (Or.inl ⟨rfl, rfl⟩) AR100 (by decide) (by decide) (by decide) (wp_putR (q := 181) (ty := tyX12) dX12_init_178 rfl fl_RX12_76 rfl (Or.inr ⟨rfl, rfl, rfl⟩) (fun _ => rfl) (fun _ => rfl) rfl (by omega) hs (wp_aload_n (q := 182) dX12_init_181 rfl rfl rfl (wp_iconst (q := 183) dX12_init_182 rfl ki_4 (wp_newarr (q := 185) (ty := .int) (tg := 100) (n := 4) dX12_init_183 rfl (Or.inl ⟨rfl, rfl⟩) AR100 (by decide) (by decide) (by decide) (wp_putR (q := 188) (ty := tyX12) dX12_init_185 rfl fl_RX12_79 rfl (Or.inr ⟨rfl, rfl, rfl⟩) (fun _ => rfl) (fun _ => rfl) rfl (by omega) hs (wp_aload_n (q := 189) dX12_init_188 rfl rfl rfl (wp_bipush (q := 191) dX12_init_189 rfl kb_41 (wp_newarr (q := 193) (ty := .int) (tg := 100) (n := 41) dX12_init_191 rfl (Or.inl ⟨rfl, rfl⟩) AR100 (by decide) (by decide) (by decide) (wp_putR (q := 196) (ty := tyX12) dX12_init_193 rfl fl_RX12_82 rfl (Or.inr ⟨rfl, rfl, rfl⟩) (fun _ => rfl) (fun _ => rfl) rfl (by omega) hs (wp_aload_n (q := 197) dX12_init_196 rfl rfl rfl (wp_sipush (q := 200) dX12_init_197 rfl ks_793 (wp_newarr (q := 202) (ty := .int) (tg := 100) (n := 793) dX12_init_200 rfl (Or.inl ⟨rfl, rfl⟩) AR100 (by decide) (by decide) (by decide) (wp_putR (q := 205) (ty := tyX12) dX12_init_202 rfl fl_RX12_85 rfl (Or.inr ⟨rfl, rfl, rfl⟩) (fun _ => rfl) (fun _ => rfl) rfl (by omega) hs (wp_aload_n (q := 206) dX12_init_205 rfl rfl rfl (wp_iconst (q := 207) dX12_init_206 rfl ki_4 (wp_newarr (q := 209) (ty := .int) (tg := 100) (n := 4) dX12_init_207 rfl (Or.inl ⟨rfl, rfl⟩) AR100 (by decide) (by decide) (by decide) (wp_dup (q := 210) dX12_init_209 rfl rfl (wp_iconst (q := 211) dX12_init_210 rfl ki_0 (wp_iconst (q := 212) dX12_init_211 rfl ki_m1 (wp_iastoreC (q := 213) dX12_init_212 rfl (by omega) rfl cn_0 cz_0 (Nat.le_of_ble_eq_true rfl) (wp_dup (q := 214) dX12_init_213 rfl rfl (wp_iconst (q := 215) dX12_init_214 rfl ki_1 (wp_iconst (q := 216) dX12_init_215 rfl ki_m1 (wp_iastoreC (q := 217) dX12_init_216 rfl (by omega) rfl cn_1 cz_1 (Nat.le_of_ble_eq_true rfl) (wp_dup (q := 218) dX12_init_217 rfl rfl (wp_iconst (q := 219) dX12_init_218 rfl ki_2 (wp_iconst (q := 220) dX12_init_219 rfl ki_m1 (wp_iastoreC (q := 221) dX12_init_220 rfl (by omega) rfl cn_2 cz_2 (Nat.le_of_ble_eq_true rfl) (wp_dup (q := 222) dX12_init_221 rfl rfl (wp_iconst (q := 223) dX12_init_222 rfl ki_3 (wp_iconst (q := 224) dX12_init_223 rfl ki_m1 (wp_iastoreC (q := 225) dX12_init_224 rfl (by omega) rfl cn_3 cz_3 (Nat.le_of_ble_eq_true rfl) (wp_putR (q := 228) (ty := tyX12) dX12_init_225 rfl fl_RX12_88 rfl (Or.inr ⟨rfl, rfl, rfl⟩) (fun _ => rfl) (fun _ => rfl) rfl (by omega) hs (wp_aload_n (q := 229) dX12_init_228 rfl rfl rfl (wp_iconst (q := 230) dX12_init_229 rfl ki_4 (wp_newarr (q := 232) (ty := .int) (tg := 100) (n := 4) dX12_init_230 rfl (Or.inl ⟨rfl, rfl⟩) AR100 (by decide) (by decide) (by decide) (wp_putR (q := 235) (ty := tyX12) dX12_init_232 rfl fl_RX12_91 rfl (Or.inr ⟨rfl, rfl, rfl⟩) (fun _ => rfl) (fun _ => rfl) rfl (by omega) hs (wp_aload_n (q := 236) dX12_init_235 rfl rfl rfl (wp_bipush (q := 238) dX12_init_236 rfl kb_120 (wp_newarr (q := 240) (ty := .int) (tg := 101) (n := 120) dX12_init_238 rfl (Or.inr (Or.inl ⟨rfl, rfl⟩)) AR101 (by decide) (by decide) (by decide) (wp_putR (q := 243) (ty := tyX12) dX12_init_240 rfl fl_RX12_94 rfl (Or.inr ⟨rfl, rfl, rfl⟩) (fun _ => rfl) (fun _ => rfl) rfl (by omega) hs (wp_return dX12_init_243 rfl ?_))))))))))))))))))))))))))))))))))))))))))))))))))))))))))))))))))))))))))))))))))))))))))))))))))))))))))))))))))))))))))))))))))
  refine ⟨rfl, _, _, _, _, rfl, fun a ha => ⟨?_, ?_, ?_, ?_⟩, hs, fun q hq => ?_, ⟨rfl, rfl, rfl, rfl, rfl⟩, fun t ht => ?_, rfl, rfl⟩
  · rw [up1_ne (by omega), up1_ne (by omega), up2_g (by omega), up2_g (by omega), up2_g (by omega), up2_g (by omega), up1_ne (by omega), up1_ne (by omega), up1_ne (by omega), up1_ne (by omega), up1_ne (by omega), up1_ne (by omega), up1_ne (by omega), up1_ne (by omega), up1_ne (by omega), up1_ne (by omega), up1_ne (by omega), up1_ne (by omega), up1_ne (by omega), up1_ne (by omega), up1_ne (by omega), up1_ne (by omega), up1_ne (by omega), up1_ne (by omega), up1_ne (by omega), up1_ne (by omega), up2_g (by omega), up1_ne (by omega), up1_ne (by omega), up1_ne (by omega), up1_ne (by omega), up1_ne (by omega)]
  · rw [up1_ne (by omega), up1_ne (by omega), up1_ne (by omega), up1_ne (by omega), up1_ne (by omega), up1_ne (by omega), up1_ne (by omega), up1_ne (by omega), up1_ne (by omega), up1_ne (by omega), up1_ne (by omega), up1_ne (by omega), up1_ne (by omega), up1_ne (by omega), up1_ne (by omega), up1_ne (by omega), up1_ne (by omega), up1_ne (by omega), up1_ne (by omega), up1_ne (by omega), up1_ne (by omega), up1_ne (by omega), up1_ne (by omega), up1_ne (by omega), up1_ne (by omega), up1_ne (by omega), up1_ne (by omega)]
  · rw [up2_g (by omega), up1_ne (by omega), up2_g (by omega), up1_ne (by omega), up2_g (by omega), up1_ne (by omega), up2_g (by omega), up1_ne (by omega), up2_g (by omega), up1_ne (by omega), up2_g (by omega), up1_ne (by omega), up2_g (by omega), up1_ne (by omega), up2_g (by omega), up1_ne (by omega), up2_g (by omega), up1_ne (by omega), up2_g (by omega), up1_ne (by omega), up2_g (by omega), up1_ne (by omega), up2_g (by omega), up1_ne (by omega), up2_g (by omega), up1_ne (by omega), up2_g (by omega), up1_ne (by omega), up2_g (by omega), up1_ne (by omega), up2_g (by omega), up1_ne (by omega), up2_g (by omega), up1_ne (by omega), up2_g (by omega), up1_ne (by omega), up2_g (by omega), up1_ne (by omega), up2_g (by omega), up1_ne (by omega), up2_g (by omega), up1_ne (by omega), up2_g (by omega), up1_ne (by omega), up2_g (by omega), up1_ne (by omega), up2_g (by omega), up1_ne (by omega), up2_g (by omega), up1_ne (by omega), up2_g (by omega), up1_ne (by omega), up2_g (by omega), up1_ne (by omega)]
  · rw [up1_ne (by omega), up1_ne (by omega), up1_ne (by omega), up1_ne (by omega), up1_ne (by omega), up1_ne (by omega), up1_ne (by omega), up1_ne (by omega), up1_ne (by omega), up1_ne (by omega), up1_ne (by omega), up1_ne (by omega), up1_ne (by omega), up1_ne (by omega), up1_ne (by omega), up1_ne (by omega), up1_ne (by omega), up1_ne (by omega), up1_ne (by omega), up1_ne (by omega), up1_ne (by omega), up1_ne (by omega), up1_ne (by omega), up1_ne (by omega), up1_ne (by omega), up1_ne (by omega), up1_ne (by omega)]
  · simp only [mwL, List.mem_cons, List.not_mem_nil, or_false] at hq
    rcases hq with rfl | rfl | rfl | rfl | rfl | rfl | rfl | rfl | rfl | rfl | rfl | rfl | rfl | rfl | rfl | rfl | rfl | rfl | rfl | rfl | rfl | rfl | rfl | rfl | rfl | rfl | rfl <;> exact ⟨rfl, rfl⟩
  · have ht' : t = 0 ∨ t = 1 ∨ t = 2 ∨ t = 3 := by omega
    rcases ht' with rfl | rfl | rfl | rfl <;> rfl
end A
