/-! the class's constructor -/
def EB (I : Nat → Nat → Int32) (R : Nat → Nat → Option Nat) (S : Nat → Nat × Nat) : Prop := E1 I R S ∧ E2 I R S ∧ ((S 0).1 = 11 ∧ R 0 0 = some 1 ∧ R 0 1 = some 14 ∧ R 0 2 = some 30 ∧ R 0 3 = some 32 ∧ R 0 4 = some 33 ∧ R 0 5 = some 34 ∧ R 0 7 = none ∧ R 0 8 = none ∧ R 0 9 = none ∧ R 0 10 = none) ∧ ((S 30).1 = 5 ∧ R 30 0 = some 31 ∧ S 31 = (100, 490) ∧ I 30 1 = 0 ∧ I 30 2 = 0) ∧ (S 32 = (100, 49) ∧ S 33 = (104, 4) ∧ S 34 = (105, 3)) ∧ R 34 = fun _ => none
def ET (i : Nat) (I : Nat → Nat → Int32) (J : Nat → Nat → Int64) (R : Nat → Nat → Option Nat) (S : Nat → Nat × Nat) : Prop := ∀ t, t < i → R 33 t = some (35 + 2 * t) ∧ (S (35 + 2 * t)).1 = 9 ∧ R (35 + 2 * t) 2 = some (36 + 2 * t) ∧ S (36 + 2 * t) = (101, 30) ∧ I (35 + 2 * t) 1 = -1 ∧ J (36 + 2 * t) = fun _ => 0
section A
variable {l : Launch} {G : Gh} {k : Nat} {I : Nat → Nat → Int32} {J : Nat → Nat → Int64} {R : Nat → Nat → Option Nat} {S : Nat → Nat × Nat} {nx : Nat} {κ : Nat → Nat} {hb pb : Nat}
variable {mc ms : Nat}
theorem EB.cg {I' : Nat → Nat → Int32} {R' : Nat → Nat → Option Nat} {S' : Nat → Nat × Nat} (h : EB I R S) (e : ∀ a, a < 35 → I' a = I a ∧ (a ≠ 33 → R' a = R a) ∧ S' a = S a) : EB I' R' S' := by
  obtain ⟨h1, h2, h3, h4, h5, h6⟩ := h
  refine ⟨h1.cg (fun a x y => ⟨(e a (by omega)).1, (e a (by omega)).2.1 (by omega), (e a (by omega)).2.2⟩), h2.cg (fun a x y => ⟨(e a (by omega)).1, (e a (by omega)).2.1 (by omega), (e a (by omega)).2.2⟩), ?_, ?_, ?_, ?_⟩
  · rw [(e 0 (by decide)).2.2, (e 0 (by decide)).2.1 (by decide)]; exact h3
  · rw [(e 30 (by decide)).2.2, (e 30 (by decide)).2.1 (by decide), (e 31 (by decide)).2.2, (e 30 (by decide)).1]; exact h4
  · rw [(e 32 (by decide)).2.2, (e 33 (by decide)).2.2, (e 34 (by decide)).2.2]; exact h5
  · rw [(e 34 (by decide)).2.1 (by decide)]; exact h6
theorem X11_loop : ∀ (d i : Nat) (I : Nat → Nat → Int32) (J : Nat → Nat → Int64) (R : Nat → Nat → Option Nat) (S : Nat → Nat × Nat) (cb sb : Nat), i + d = 4 → EB I R S → ET i I J R S → 2 * d ≤ cb → 33 * d ≤ sb → WP l G (k + 1) mc ms mX11_init (fun r μ' => r = .inl none ∧ ∃ I' J' R' S', μ' = (I', J', R', S', 43) ∧ EB I' R' S' ∧ ET 4 I' J' R' S') 88 [some (.ref 0), some (.int (nI i))] [] (I, J, R, S, 35 + 2 * i) cb sb := by
  intro d
  induction d with
  | zero =>
    intro i I J R S cb sb hi hE hT hc hb
    have h4 : i = 4 := by omega
    subst h4
    exact wp_iload_n (q := 89) dX11_init_88 rfl rfl rfl (wp_aload_n (q := 90) dX11_init_89 rfl rfl rfl (wp_getR (b := 33) (q := 93) dX11_init_90 rfl fl_RX11_36 rfl (by omega) hE.2.2.1.1 hE.2.2.1.2.2.2.2.2.1 (wp_alen (q := 94) dX11_init_93 rfl (by omega) hE.2.2.2.2.1.2.1 (by decide) (wp_icmp_ge (q := 97) (tgt := 116) dX11_init_94 rfl rfl (fun _ => wp_return dX11_init_116 rfl ⟨rfl, I, J, R, S, rfl, hE, hT⟩) (fun c => absurd (by decide) c)))))
  | succ d ih =>
    intro i I J R S cb sb hi hE hT hc hb
    have ec : (nI i).toNatClampNeg = i := nI_clamp (by omega)
    refine wp_iload_n (q := 89) dX11_init_88 rfl rfl rfl (wp_aload_n (q := 90) dX11_init_89 rfl rfl rfl (wp_getR (b := 33) (q := 93) dX11_init_90 rfl fl_RX11_36 rfl (by omega) hE.2.2.1.1 hE.2.2.1.2.2.2.2.2.1 (wp_alen (q := 94) dX11_init_93 rfl (by omega) hE.2.2.2.2.1.2.1 (by decide) (wp_icmp_ge (q := 97) (tgt := 116) dX11_init_94 rfl rfl (fun c => absurd c (nI_ge (b := 4) (by omega) (by decide))) (fun _ => WP.less (cb' := (cb - 1) + 1) (sb' := (sb - 3) + 3) (by omega) (by omega) (wp_aload_n (q := 98) dX11_init_97 rfl rfl rfl (wp_getR (b := 33) (q := 101) dX11_init_98 rfl fl_RX11_36 rfl (by omega) hE.2.2.1.1 hE.2.2.1.2.2.2.2.2.1 (wp_iload_n (q := 102) dX11_init_101 rfl rfl rfl (wp_new (q := 105) (t := 9) dX11_init_102 rfl rfl rfl (by decide) cl_RX11_34 ib_RX9 in_RX9 (wp_dup (q := 106) dX11_init_105 rfl rfl (wp_invIN (q := 109) (As := []) (host := RX11) (mc' := 1) (ms' := 30) dX11_init_106 rfl rfl ok_X9_init rfl rfl (List.mem_of_getElem? (i := 6) rfl) im_X9_init rfl rfl (Nat.le_of_ble_eq_true rfl) (by omega) (by omega) (i_X9_init (x0 := 35 + 2 * i) (by omega) (by rw [up1_eq])) ?_ ?_)))))))))))
    · rintro r μ' ⟨hr1, I1, J1, R1, S1, rfl, a1, a2, a3, a4, a5⟩
      obtain rfl := Sum.inl.inj hr1
      have old : ∀ b, b < 35 + 2 * i → I1 b = I b ∧ J1 b = J b ∧ R1 b = R b ∧ S1 b = S b := fun b hb => by
        obtain ⟨b1, b2, b3⟩ := a1 b (by omega)
        obtain ⟨b4, b5⟩ := b1 (by omega)
        rw [up1_ne (by omega)] at b2 b3 b4 b5
        exact ⟨b4, b2, b5, b3⟩
      have hSn : S1 (35 + 2 * i) = (9, 0) := by rw [(a1 (35 + 2 * i) (by omega)).2.2, up1_eq]
      have e2 : ∀ b, b ≠ 33 → up2 R1 33 (nI i).toNatClampNeg (some (35 + 2 * i)) b = R1 b := fun b hb => up2_g hb
      refine wp_aastore (q := 110) (ci := 9) dX11_init_109 rfl (Or.inl ⟨rfl, rfl⟩) (by omega) (by rw [(old 33 (by omega)).2.2.2]; exact hE.2.2.2.2.1.2.1) (by omega) (by rw [hSn]) (vp_in_nI (by omega) (by decide)) (wp_iinc (L' := [some (.ref 0), some (.int (nI (i + 1)))]) (q := 113) dX11_init_110 rfl rfl (by rw [ki_1]; exact nI_1 i) (by decide) rfl (wp_goto (tgt := 88) dX11_init_113 rfl ?_))
      have K := ih (i + 1) I1 J1 (up2 R1 33 (nI i).toNatClampNeg (some (35 + 2 * i))) S1 (cb - 1 - 1) (sb - 3 - 30) (by omega) (hE.cg (fun a ha => ⟨(old a (by omega)).1, fun hne => (e2 a hne).trans (old a (by omega)).2.2.1, (old a (by omega)).2.2.2⟩)) (fun t ht => ?_) (by omega) (by omega)
      · rw [show 35 + 2 * i + 1 + 1 = 35 + 2 * (i + 1) by omega]
        exact K
      · by_cases ct : t = i
        · subst ct
          refine ⟨by rw [up2_h, if_pos ec.symm], by rw [hSn], ?_, ?_, a5.2, ?_⟩
          · rw [e2 _ (by omega)]; exact a3.trans (congrArg some (by omega))
          · rw [show 36 + 2 * t = 35 + 2 * t + 1 by omega]; exact a4
          · rw [show 36 + 2 * t = 35 + 2 * t + 1 by omega]; exact (a2 0 (by decide)).2
        · obtain ⟨t1, t2, t3, t4, t5, t6⟩ := hT t (by omega)
          refine ⟨?_, ?_, ?_, ?_, ?_, ?_⟩
          · rw [up2_h, if_neg (by rw [ec]; exact ct), (old 33 (by omega)).2.2.1]; exact t1
          · rw [(old (35 + 2 * t) (by omega)).2.2.2]; exact t2
          · rw [e2 _ (by omega), (old (35 + 2 * t) (by omega)).2.2.1]; exact t3
          · rw [(old (36 + 2 * t) (by omega)).2.2.2]; exact t4
          · rw [(old (35 + 2 * t) (by omega)).1]; exact t5
          · rw [(old (36 + 2 * t) (by omega)).2.1]; exact t6
    · rintro E μ' ⟨hr1, _⟩; cases hr1
theorem i_X11_init (hs : (S 0).1 = 11) : Cal l G (k + 2) 42 3726 mX11_init [.ref 0] (I, J, R, S, 1) (fun r μ' => r = .inl none ∧ ∃ I' J' R' S', μ' = (I', J', R', S', 43) ∧ EB I' R' S' ∧ ET 4 I' J' R' S') := by
  refine Cal.of rfl (by decide +kernel) (by simp) (Nat.le_of_ble_eq_true rfl) rfl (WP.less (cb' := 41 + 1) (sb' := 3713 + 13) (by decide) (by decide) (wp_aload_n (q := 1) dX11_init_0 rfl rfl rfl (wp_objInit (q := 4) dX11_init_1 rfl ml_RX11_3 OI OC (Nat.le_of_ble_eq_true rfl) (wp_aload_n (q := 5) dX11_init_4 rfl rfl rfl (wp_new (q := 8) (t := 6) dX11_init_5 rfl rfl rfl (by decide) cl_RX11_9 ib_RX6 in_RX6 (wp_dup (q := 9) dX11_init_8 rfl rfl (wp_invIN (q := 12) (As := []) (host := RX11) (mc' := 12) (ms' := 1866) dX11_init_9 rfl rfl ok_X6_init rfl rfl (List.mem_of_getElem? (i := 0) rfl) im_X6_init rfl rfl (Nat.le_of_ble_eq_true rfl) (by decide) (by decide) (i_X6_init (k := k) rfl) ?_ ?_)))))))
  · rintro r μ' ⟨hr1, I1, J1, R1, S1, rfl, ⟨b1, b2, b3, b4⟩, hE1⟩
    obtain rfl := Sum.inl.inj hr1
    have hs1 : (S1 0).1 = 11 := by rw [b4]; exact hs
    refine WP.less (cb' := 28 + 1) (sb' := 1843 + 4) (by decide) (by decide) (wp_putR (q := 15) (ty := tyX11) dX11_init_12 rfl fl_RX11_12 rfl (Or.inr ⟨rfl, rfl, rfl⟩) (fun _ => rfl) (fun _ => rfl) rfl (by omega) hs1 (wp_aload_n (q := 16) dX11_init_15 rfl rfl rfl (wp_new (q := 19) (t := 7) dX11_init_16 rfl rfl rfl (by decide) cl_RX11_16 ib_RX7 in_RX7 (wp_dup (q := 20) dX11_init_19 rfl rfl (wp_invIN (q := 23) (As := []) (host := RX11) (mc' := 15) (ms' := 1162) dX11_init_20 rfl rfl ok_X7_init rfl rfl (List.mem_of_getElem? (i := 2) rfl) im_X7_init rfl rfl (Nat.le_of_ble_eq_true rfl) (by decide) (by decide) (i_X7_init (k := k) rfl) ?_ ?_)))))
    · rintro r μ' ⟨hr2, I2, J2, R2, S2, rfl, c1, hE2⟩
      obtain rfl := Sum.inl.inj hr2
      have hs2 : (S2 0).1 = 11 := by rw [(c1 0 (by decide)).2.2.2]; exact hs1
      have r00 : R2 0 0 = some 1 := by rw [(c1 0 (by decide)).2.2.1]; rfl
      have hE1' : E1 I2 R2 S2 := hE1.cg (fun a x y => by
        obtain ⟨d1, d2, d3, d4⟩ := c1 a (by omega)
        rw [up1_ne (by omega)] at d1 d4
        rw [up1_ne (by omega), up2_g (by omega)] at d3
        exact ⟨d1, d3, d4⟩)
      refine WP.less (cb' := 12 + 1) (sb' := 678 + 3) (by decide) (by decide) (wp_putR (q := 26) (ty := tyX11) dX11_init_23 rfl fl_RX11_19 rfl (Or.inr ⟨rfl, rfl, rfl⟩) (fun _ => rfl) (fun _ => rfl) rfl (by omega) hs2 (wp_aload_n (q := 27) dX11_init_26 rfl rfl rfl (wp_new (q := 30) (t := 5) dX11_init_27 rfl rfl rfl (by decide) cl_RX11_23 ib_RX5 in_RX5 (wp_dup (q := 31) dX11_init_30 rfl rfl (wp_invIN (q := 34) (As := []) (host := RX11) (mc' := 1) (ms' := 490) dX11_init_31 rfl rfl ok_X5_init rfl rfl (List.mem_of_getElem? (i := 5) rfl) im_X5_init rfl rfl (Nat.le_of_ble_eq_true rfl) (by decide) (by decide) (i_X5_init (x0 := 30) (by omega) rfl) ?_ ?_)))))
      · rintro r μ' ⟨hr3, I3, J3, R3, S3, rfl, f1, f2, f3, f4, f5⟩
        obtain rfl := Sum.inl.inj hr3
        have old : ∀ a, a < 30 → I3 a = I2 a ∧ (a ≠ 0 → R3 a = R2 a) ∧ S3 a = S2 a := fun a ha => by
          obtain ⟨d1, d2, d3⟩ := f1 a (by omega)
          obtain ⟨d4, d5⟩ := d1 (by omega)
          rw [up1_ne (by omega)] at d3 d4 d5
          exact ⟨d4, fun h0 => by rw [d5, up2_g h0], d3⟩
        have hs3 : (S3 0).1 = 11 := by rw [(old 0 (by decide)).2.2]; exact hs2
        have rr : R3 0 = up1 (up2 R2 0 1 (some 14)) 30 (fun _ => none) 0 := ((f1 0 (by decide)).1 (by decide)).2
        refine WP.less (cb' := 11) (sb' := 188) (by decide) (by decide) (wp_putR (q := 37) (ty := tyX11) dX11_init_34 rfl fl_RX11_26 rfl (Or.inr ⟨rfl, rfl, rfl⟩) (fun _ => rfl) (fun _ => rfl) rfl (by omega) hs3 (wp_aload_n (q := 38) dX11_init_37 rfl rfl rfl (wp_bipush (q := 40) dX11_init_38 rfl kb_49 (wp_newarr (q := 42) (ty := .int) (tg := 100) (n := 49) dX11_init_40 rfl (Or.inl ⟨rfl, rfl⟩) AR100 (by decide) (by decide) (by decide) (wp_putR (q := 45) (ty := tyX11) dX11_init_42 rfl fl_RX11_30 rfl (Or.inr ⟨rfl, rfl, rfl⟩) (fun _ => rfl) (fun _ => rfl) rfl (by omega) hs3 (wp_aload_n (q := 46) dX11_init_45 rfl rfl rfl (wp_iconst (q := 47) dX11_init_46 rfl ki_4 (wp_anew (q := 50) (tg := 104) (n := 4) dX11_init_47 rfl (Or.inl ⟨rfl, rfl⟩) cl_RX11_34 (by decide) (by decide) (by decide) (wp_putR (q := 53) (ty := tyX11) dX11_init_50 rfl fl_RX11_36 rfl (Or.inr ⟨rfl, rfl, rfl⟩) (fun _ => rfl) (fun _ => rfl) rfl (by omega) hs3 (wp_aload_n (q := 54) dX11_init_53 rfl rfl rfl (wp_iconst (q := 55) dX11_init_54 rfl ki_3 (wp_anew (q := 58) (tg := 105) (n := 3) dX11_init_55 rfl (Or.inr ⟨rfl, rfl⟩) cl_RX11_40 (by decide) (by decide) (by decide) (wp_putR (q := 61) (ty := tyX11) dX11_init_58 rfl fl_RX11_42 rfl (Or.inr ⟨rfl, rfl, rfl⟩) (fun _ => rfl) (fun _ => rfl) rfl (by omega) hs3 (wp_aload_n (q := 62) dX11_init_61 rfl rfl rfl (wp_iconst (q := 63) dX11_init_62 rfl ki_0 (wp_putI (q := 66) (ty := tyX11) dX11_init_63 rfl fl_RX11_46 rfl rfl rfl rfl rfl (by omega) hs3 (wp_aload_n (q := 67) dX11_init_66 rfl rfl rfl (wp_null (q := 68) dX11_init_67 rfl (wp_putN (q := 71) (ty := tyX11) dX11_init_68 rfl fl_RX11_50 rfl (Or.inl rfl) rfl rfl rfl (by omega) hs3 (wp_aload_n (q := 72) dX11_init_71 rfl rfl rfl (wp_null (q := 73) dX11_init_72 rfl (wp_putN (q := 76) (ty := tyX11) dX11_init_73 rfl fl_RX11_54 rfl (Or.inl rfl) rfl rfl rfl (by omega) hs3 (wp_aload_n (q := 77) dX11_init_76 rfl rfl rfl (wp_null (q := 78) dX11_init_77 rfl (wp_putN (q := 81) (ty := tyX11) dX11_init_78 rfl fl_RX11_58 rfl (Or.inl rfl) rfl rfl rfl (by omega) hs3 (wp_aload_n (q := 82) dX11_init_81 rfl rfl rfl (wp_null (q := 83) dX11_init_82 rfl (wp_putN (q := 86) (ty := tyX11) dX11_init_83 rfl fl_RX11_62 rfl (Or.inl rfl) rfl rfl rfl (by omega) hs3 (wp_iconst (q := 87) dX11_init_86 rfl ki_0 (wp_istore_n (L' := [some (.ref 0), some (.int (nI 0))]) (q := 88) dX11_init_87 rfl rfl (by decide) rfl (X11_loop 4 0 _ _ _ _ _ _ (by omega) ?_ (fun t ht => absurd ht (Nat.not_lt_zero t)) (by decide) (by decide))))))))))))))))))))))))))))))))
        refine ⟨hE1'.cg (fun a x y => ?_), hE2.cg (fun a x y => ?_), ⟨hs3, ?_, ?_, rfl, rfl, rfl, rfl, rfl, rfl, rfl, rfl⟩, ⟨?_, ?_, ?_, ?_, ?_⟩, ⟨rfl, rfl, rfl⟩, rfl⟩
        · obtain ⟨o1, o2, o3⟩ := old a (by omega)
          refine ⟨?_, ?_, ?_⟩
          · rw [up2_g (by omega), up1_ne (by omega), up1_ne (by omega), up1_ne (by omega)]; exact o1
          · rw [up2_g (by omega), up2_g (by omega), up2_g (by omega), up2_g (by omega), up2_g (by omega), up1_ne (by omega), up2_g (by omega), up1_ne (by omega), up2_g (by omega), up1_ne (by omega), up2_g (by omega)]; exact o2 (by omega)
          · rw [up1_ne (by omega), up1_ne (by omega), up1_ne (by omega)]; exact o3
        · obtain ⟨o1, o2, o3⟩ := old a (by omega)
          refine ⟨?_, ?_, ?_⟩
          · rw [up2_g (by omega), up1_ne (by omega), up1_ne (by omega), up1_ne (by omega)]; exact o1
          · rw [up2_g (by omega), up2_g (by omega), up2_g (by omega), up2_g (by omega), up2_g (by omega), up1_ne (by omega), up2_g (by omega), up1_ne (by omega), up2_g (by omega), up1_ne (by omega), up2_g (by omega)]; exact o2 (by omega)
          · rw [up1_ne (by omega), up1_ne (by omega), up1_ne (by omega)]; exact o3
        · show R3 0 0 = some 1
          rw [rr]; exact r00
        · show R3 0 1 = some 14
          rw [rr]; rfl
        · show (S3 30).1 = 5
          rw [(f1 30 (by decide)).2.2]; rfl
        · exact f3
        · exact f4
        · exact f5.1
        · exact f5.2
      · rintro E μ' ⟨hr3, _⟩; cases hr3
    · rintro E μ' ⟨hr2, _⟩; cases hr2
  · rintro E μ' ⟨hr1, _⟩; cases hr1
end A
