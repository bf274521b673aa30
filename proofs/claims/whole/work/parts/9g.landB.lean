/-! the class: land -/
section A
variable {l : Launch} {G : Gh} {k : Nat} {I : Nat → Nat → Int32} {J : Nat → Nat → Int64} {R : Nat → Nat → Option Nat} {S : Nat → Nat × Nat} {nx : Nat} {κ : Nat → Nat} {hb pb : Nat}
variable {R' : Nat → Nat → Option Nat} {I' : Nat → Nat → Int32} {ι : Nat → Option (Nat → Nat)} {τ tm : Nat → Nat} {tn : Nat → Nat → Int64} {tp : Nat} {fk fp : Int32} {t : Nat → Nat} {ow : Nat → Nat} {L dl pl ld lp : Nat}
theorem LdC.i1 (h : LdC I R S nx ow L κ dl pl ld lp) (g : ∀ b, b ≠ 1 → b ≠ 13 → I' b = I b) : LdC I' R S nx ow L κ dl pl ld lp := by
  obtain ⟨h1, h2, h3, h4, h5⟩ := h
  refine ⟨h1, ?_, h3, h4, h5⟩
  obtain ⟨n1, n2, n3⟩ := h1.ne
  have e : ∀ i, i < 8 → I' (L + i) = I (L + i) := fun i hi => g _ (by omega) (by omega)
  have ed : I' dl = I dl := g _ (by omega) (by omega)
  have ep : I' pl = I pl := g _ (by omega) (by omega)
  obtain ⟨q1, q2, q3, q4, q5, q6⟩ := h2
  refine ⟨?_, fun w hw => ?_, fun a ha => ?_, fun k hk => ?_, ⟨q5.1, fun i hi => ?_⟩, ⟨q6.1, fun i hi => ?_⟩⟩
  · have := e 0 (by decide); rw [Nat.add_zero] at this; rw [this]; exact q1
  · rw [e 1 (by decide), e 2 (by decide)]; exact q2 w hw
  · rw [e 3 (by decide), e 4 (by decide)]; exact q3 a ha
  · rw [e 7 (by decide)]; exact q4 k hk
  · rw [ed]; exact q5.2 i hi
  · rw [ep]; exact q6.2 i hi
theorem ImX.i1 {i X : Nat} {σ : Nat → Nat} (h : ImX I R S nx ow i X σ) (g : ∀ b, b ≠ 1 → b ≠ 13 → I' b = I b) : ImX I' R S nx ow i X σ := by
  obtain ⟨h1, h2, ⟨LX, dl, pl, ld, lp, h3, h4⟩, h5, s, q1, q2, q3, q4⟩ := h
  have h72 := h1.2.1
  have e1 : ∀ j, I' (X + j) = I (X + j) := fun j => g _ (by omega) (by omega)
  refine ⟨h1, h2, ⟨LX, dl, pl, ld, lp, h3, h4.i1 g⟩, fun j hj => ?_, s, q1, ?_, ?_, fun j hj i hi => ?_⟩
  · rw [e1 1]; exact h5 j hj
  · rw [e1 2]; exact q2
  · rw [e1 2]; exact q3
  · rw [e1 3]; exact q4 j hj i hi
theorem rd_cr {I1 : Nat → Nat → Int32} {J1 : Nat → Nat → Int64} {R1 : Nat → Nat → Option Nat} {S1 : Nat → Nat × Nat} {n1 X dX pX ldX lpX : Nat} (hR : CR I J R S nx ow ι τ tm tn t tp fk fp) (h : RdL (I, J, R, S, nx) (I1, J1, R1, S1, n1) X dX pX ldX lpX) :
    CR (up2 I1 1 1 (0 : Int32)) J1 R1 S1 n1 (fun b => if nx ≤ b then 0 else ow b) ι τ tm tn t 0 (I1 1 11) (I1 1 12) ∧ ∀ (L : Nat) (κ : Nat → Nat) (dl pl ld lp : Nat), LdC I R S nx ow L κ dl pl ld lp → LdC (up2 I1 1 1 (0 : Int32)) R1 S1 n1 (fun b => if nx ≤ b then 0 else ow b) L κ dl pl ld lp := by
  obtain ⟨hF, hCF, hR7, hLW, hLP, hX, hX72⟩ := h
  obtain ⟨f1, f2, f3, f4⟩ := hF
  have f1 : nx ≤ n1 := f1
  have f2 : ∀ b, b < nx → (b ≠ 1 → b ≠ 13 → I1 b = I b) ∧ J1 b = J b ∧ (b ≠ 1 → R1 b = R b) ∧ S1 b = S b := f2
  have h72 : 72 ≤ nx := hX72
  have hg : Gr S S1 nx n1 := ⟨f1, fun a ha => (f2 a ha).2.2.2⟩
  have hra : RA R (fun b => if b = 1 then R 1 else R1 b) nx := ⟨fun a ha _ => by
    show (if a = 1 then R 1 else R1 a) = R a
    by_cases c : a = 1
    · rw [if_pos c, c]
    · rw [if_neg c]; exact (f2 a ha).2.2.1 c, fun j _ => by
    show (if 0 = 1 then R 1 else R1 0) j = R 0 j
    rw [if_neg (by decide), (f2 0 (by omega)).2.2.1 (by decide)]⟩
  have e0 : ∀ b, b ≠ 1 → R1 b = (fun b => if b = 1 then R 1 else R1 b) b := fun b hb => (if_neg hb).symm
  have gI : ∀ a, a < nx → (fun b => if b = 1 ∨ b = 13 then I b else I1 b) a = I a := fun a ha => by
    show (if a = 1 ∨ a = 13 then I a else I1 a) = I a
    by_cases c : a = 1 ∨ a = 13
    · rw [if_pos c]
    · rw [if_neg c]; exact (f2 a ha).1 (fun g => c (Or.inl g)) (fun g => c (Or.inr g))
  have eI : ∀ b, b ≠ 1 → b ≠ 13 → up2 I1 1 1 (0 : Int32) b = (fun b => if b = 1 ∨ b = 13 then I b else I1 b) b := fun b h1 h2 => by
    show _ = (if b = 1 ∨ b = 13 then I b else I1 b)
    rw [up2_o h1, if_neg (by omega)]
  have gw : ∀ a, a < nx → (fun b => if nx ≤ b then 0 else ow b) a = ow a := fun a ha => if_neg (by omega)
  have gI2 : ∀ b, b < nx → b ≠ 1 → b ≠ 13 → up2 I1 1 1 (0 : Int32) b = I b := fun b hb h1 h2 => (eI b h1 h2).trans (gI b hb)
  have hLd : ∀ (L : Nat) (κ : Nat → Nat) (dl pl ld lp : Nat), LdC I R S nx ow L κ dl pl ld lp → LdC (up2 I1 1 1 (0 : Int32)) R1 S1 n1 (fun b => if nx ≤ b then 0 else ow b) L κ dl pl ld lp := fun L κ dl pl ld lp hL =>
    ((hL.ad hg hra gI gw).rr (e0 L (by have := hL.n14.1; omega))).i1 eI
  refine ⟨⟨hCF, fun q hq => ?_, ?_, ?_, ?_, fun i hi => ?_⟩, hLd⟩
  · rw [gI2 (35 + 2 * q) (by omega) (by omega) (by omega), (f2 (36 + 2 * q) (by omega)).2.1]; exact hR.2.1 q hq
  · exact ⟨by rw [up2_s, if_pos rfl]; rfl, Nat.zero_le _, fun j hj => absurd hj (Nat.not_lt_zero j), fun j hj => absurd hj (Nat.not_lt_zero j)⟩
  · exact ⟨by rw [up2_s, if_neg (by decide)], by rw [up2_s, if_neg (by decide)]⟩
  · refine (hR.2.2.2.2.1.ad hg hra ?_ gw).rr (e0 0 (by decide)) (fun b h _ _ => e0 b (by omega))
    show (if 0 = 1 then R 1 else R1 0) = R 0
    rw [if_neg (by decide)]; exact (f2 0 (by omega)).2.2.1 (by decide)
  · have := hR.2.2.2.2.2 i hi
    have e34 : R1 34 = R 34 := (f2 34 (by omega)).2.2.1 (by decide)
    cases hq : ι i with
    | none => rw [hq] at this; show R1 34 i = none; rw [e34]; exact this
    | some σ =>
      rw [hq] at this
      obtain ⟨Y, y1, y2⟩ := this
      have y72 := y2.1.2.1
      exact ⟨Y, by rw [e34]; exact y1, ((y2.ad hg hra gI gw).rr (e0 Y (by omega)) (e0 (Y + 2) (by omega)) (fun b h _ => e0 b (by omega))).i1 eI⟩
theorem land_p {x1 : Int32} (hG : GT G) (hl0 : l.stackTraces = false) (hC : CI (I, J, R, S, nx) (κ, ι, (τ, tm, tn), (t, tp), fk, fp)) (hs : sok hb pb κ) (hhb : hb < 2 ^ 28) : Cal l G (k + 103) 1000 14000 mX11_land [.ref 0, .int x1] (I, J, R, S, nx) (CQ (I, J, R, S, nx) (ansR [eIA] (aLand κ t tp fk fp x1).1) ((aLand κ t tp fk fp x1).2.1, ι, (τ, tm, tn), (t, (aLand κ t tp fk fp x1).2.2.1), (aLand κ t tp fk fp x1).2.2.2.1, (aLand κ t tp fk fp x1).2.2.2.2)) := by
  have hC0 := hC
  obtain ⟨ow, L, dl, pl, ld, lp, hR, wL, hL, hN, hV, hP⟩ := hC
  have hR : CR I J R S nx ow ι τ tm tn t tp fk fp := hR
  have wL : R 14 0 = some L := wL
  have hL : LdC I R S nx ow L κ dl pl ld lp := hL
  have hN : CN I κ := hN
  have hV : PV I κ := hV
  have hP : PS I 30 31 κ := hP
  have w : CF R S nx := hR.1
  have h72 := w.1
  have hT : TpC I t tp := hR.2.2.1
  have ht9 := hT.2.1
  have hs0 : (S 0).1 = 11 := cf_o w (q := (0, 11)) (by decide)
  have k0 : nd_needWithin x1 (0 : Int32) (I 1 1) = (if gR x1 0 tp then none else some eIA) := by rw [hT.1]; exact ndI (a := 0) (by decide) (by omega)
  refine Cal.of rfl (by decide +kernel) (by simp) (Nat.le_of_ble_eq_true rfl) rfl (wp_iload_n (q := 1) dX11_land_0 rfl rfl rfl (wp_iconst (q := 2) dX11_land_1 rfl ki_0 (wp_aload_n (q := 3) dX11_land_2 rfl rfl rfl (wp_getR (b := 1) (q := 6) dX11_land_3 rfl fl_RX11_12 rfl (by omega) hs0 (cf_r w (q := (0, 0, 1)) (by decide)) (wp_getI (q := 9) dX11_land_6 rfl fl_RX11_67 rfl (by omega) (cf_o w (q := (1, 6)) (by decide)) (wp_ndS (q := 12) (As := [.int x1, .int (0 : Int32), .int (I 1 1)]) (nd := nd_needWithin x1 (0 : Int32) (I 1 1)) dX11_land_9 rfl rfl ok_X11_needWithin ml_RX11_74 sm_X11_needWithin rfl rfl (Nat.le_of_ble_eq_true rfl) (bc := 1) (bs := 6) (by decide) (by decide) (n_needWithin hl0) (fun c0 => ?_) (fun E n' c0 hn => ?_)))))))
  · by_cases g : gR x1 0 tp
    · obtain ⟨n, rfl, _, hn, en⟩ := g.n (by omega)
      rw [show aLand κ t tp fk fp (nI n) = laR κ (yland t n 1000) by unfold aLand; rw [if_pos g, en]]
      refine wp_aload_n (q := 13) dX11_land_12 rfl rfl rfl (wp_getR (b := 1) (q := 16) dX11_land_13 rfl fl_RX11_12 rfl (by omega) hs0 (cf_r w (q := (0, 0, 1)) (by decide)) (wp_iload_n (q := 17) dX11_land_16 rfl rfl rfl (wp_invV (q := 20) (As := [.int (nI n)]) (t := 6) (mc' := 911) (ms' := 967) dX11_land_17 rfl rfl ok_X6_readLand ml_RX11_78 im_X6_readLand se_X6_readLand (by decide) ⟨_, rfl, rfl⟩ (by show 1 < nx; omega) (cf_o w (q := (1, 6)) (by decide)) rfl rfl (Nat.le_of_ble_eq_true rfl) (by decide) (by decide) (readLand_c (k := k) w hG hT hn) ?_ ?_)))
      · rintro r ⟨I1, J1, R1, S1, n1⟩ ⟨hr1, dX, pX, ldX, lpX, hRd, z, hCX, hzr, hLL⟩
        obtain rfl := Sum.inl.inj hr1
        obtain ⟨hCR, hLd⟩ := rd_cr hR hRd
        have hCX : CX I1 t n z := hCX
        have w1 : CF R1 S1 n1 := hRd.2.1
        have hn1 : nx ≤ n1 := hRd.1.1
        have f2 : ∀ b, b < nx → (b ≠ 1 → b ≠ 13 → I1 b = I b) ∧ J1 b = J b ∧ (b ≠ 1 → R1 b = R b) ∧ S1 b = S b := hRd.1.2.1
        have wX : LW R1 S1 n1 nx dX pX ldX lpX := hRd.2.2.2.1
        have hLP : LPl nx dX pX := hRd.2.2.2.2.1
        have h01 : (S1 0).1 = 11 := cf_o w1 (q := (0, 11)) (by decide)
        have h11 : (S1 1).1 = 6 := cf_o w1 (q := (1, 6)) (by decide)
        have wL1 : R1 14 0 = some L := by rw [(f2 14 (by omega)).2.2.1 (by decide)]; exact wL
        have hL1 := hLd L κ dl pl ld lp hL
        have eU : ∀ b, b < nx → b ≠ 1 → b ≠ 13 → up2 I1 1 1 (0 : Int32) b = I b := fun b hb h1 h2 => by rw [up2_o h1]; exact (f2 b hb).1 h1 h2
        refine wp_astore_n (q := 21) dX11_land_20 rfl rfl (by decide) rfl (wp_aload_n (q := 22) dX11_land_21 rfl rfl rfl (wp_getR (b := 1) (q := 25) dX11_land_22 rfl fl_RX11_12 rfl (by omega) h01 (cf_r w1 (q := (0, 0, 1)) (by decide)) (wp_iconst (q := 26) dX11_land_25 rfl ki_0 (wp_putI (q := 29) (ty := tyX6) dX11_land_26 rfl fl_RX11_67 rfl rfl rfl rfl rfl (by omega) h11 (wp_aload_n (q := 30) dX11_land_29 rfl rfl rfl (wp_getR (b := 1) (q := 33) dX11_land_30 rfl fl_RX11_12 rfl (by omega) h01 (cf_r w1 (q := (0, 0, 1)) (by decide)) (wp_getI (q := 36) dX11_land_33 rfl fl_RX11_82 rfl (by omega) h11 (wp_if_eq (q := 39) (tgt := 50) dX11_land_36 rfl rfl (fun c => ?_) (fun c => ?_)))))))))
        · -- a land
          have c : I1 1 11 = 0 := by rw [up2_s, if_neg (by decide)] at c; exact c
          have hzn : z.1 = none := by rw [hCX.bad] at c; exact c
          cases hY : yland t n 1000 with
          | inl e =>
            rw [hY] at hzr
            have := zr_l (e := e) hzr
            rw [hzn] at this; cases this
          | inr s =>
            rw [hY] at hLL
            have hLL : LL I1 s.2 nx dX pX ldX lpX := hLL s rfl
            obtain ⟨zs, zs5⟩ := yland_z hCX.tx hY
            have hZk : Zk s.2 := (ylp_z hCX.tx 1000 (ynx t n 0, fun _ => 0) s ⟨0, Nat.zero_le _, rfl⟩ Zk0 (Nat.zero_le _) hY).2.1
            have hLL2 : LL (up2 I1 1 1 (0 : Int32)) s.2 nx dX pX ldX lpX := hLL.f1 (rs := []) (fs := [1]) hLP (F1.rf.uf (by simp)) (by simp)
            refine wp_aload_n (q := 51) dX11_land_50 rfl rfl rfl (wp_getR (b := 14) (q := 54) dX11_land_51 rfl fl_RX11_19 rfl (by omega) h01 (cf_r w1 (q := (0, 1, 14)) (by decide)) (wp_aload_n (q := 55) dX11_land_54 rfl rfl rfl (wp_invV (q := 58) (As := [.ref nx]) (t := 7) (mc' := 0) (ms' := 0) dX11_land_55 rfl rfl ok_X7_beginWith ml_RX11_85 im_X7_beginWith se_X7_beginWith (by decide) ⟨_, rfl, rfl⟩ (by show 14 < n1; omega) (cf_o w1 (q := (14, 7)) (by decide)) rfl rfl (Nat.le_of_ble_eq_true rfl) (Nat.zero_le _) (Nat.zero_le _) (beginWith_c (k := k + 100) (f := s.2) w1 wL1 hL1.1 wX h72 hLL2 hZk.2.2.2) ?_ ?_)))
            · rintro r μ' ⟨hr2, I2, rfl, g1, g2, g3⟩
              obtain rfl := Sum.inl.inj hr2
              have e14 : ∀ b, b ≠ 14 → up2 R1 14 0 (some nx) b = R1 b := fun b hb => up2_g hb
              have hCR2 := hCR.rr e14 (fun j hj => by rw [up2_h, if_neg (by omega)])
              have w2 : CF (up2 R1 14 0 (some nx)) S1 n1 := hCR2.1
              have hF : Fr [25, 27, 28, 29, 30, 31] (up2 I1 1 1 (0 : Int32)) (up2 I2 30 2 (0 : Int32)) := (g1.wk (by decide)).up (by decide)
              refine wp_aload_n (q := 59) dX11_land_58 rfl rfl rfl (wp_getR (b := 30) (q := 62) dX11_land_59 rfl fl_RX11_26 rfl (by omega) h01 (cf_r w2 (q := (0, 2, 30)) (by decide)) (wp_iconst (q := 63) dX11_land_62 rfl ki_0 (wp_putI (q := 66) (ty := tyX5) dX11_land_63 rfl fl_RX11_89 rfl rfl rfl rfl rfl (by omega) (cf_o w1 (q := (30, 5)) (by decide)) (wp_aload_n (q := 67) dX11_land_66 rfl rfl rfl (wp_getI (q := 70) dX11_land_67 rfl fl_RX11_92 rfl (by have := wX.1; omega) (lw_s wX) (wp_ireturn dX11_land_70 rfl ?_))))))
              have hnx : up2 I2 30 2 (0 : Int32) nx = I1 nx := by rw [up2_o (by omega), g1 nx (by simp; omega), up2_o (by omega)]
              have hrow : ∀ b, nx ≤ b → up2 I2 30 2 (0 : Int32) b = I1 b := fun b hb => by rw [up2_o (by omega), g1 b (by simp; omega), up2_o (by omega)]
              have hKF : KF (I, J, R, S, nx) (up2 I2 30 2 (0 : Int32), J1, up2 R1 14 0 (some nx), S1, n1) := ⟨hn1, fun b h1 h2 => ⟨by show up2 I2 30 2 (0 : Int32) b = I b; rw [hF b (by simp; omega)]; exact eU b (by omega) (by omega) (by omega), (f2 b (by omega)).2.1, (e14 b (by omega)).trans ((f2 b (by omega)).2.2.1 (by omega)), (f2 b (by omega)).2.2.2⟩⟩
              have hLd2 : LdC (up2 I2 30 2 (0 : Int32)) (up2 R1 14 0 (some nx)) S1 n1 (fun b => if nx ≤ b then 0 else ow b) nx s.2 dX pX ldX lpX := by
                obtain ⟨p1, p2, p3⟩ := hLP
                refine ⟨wX.rr (e14 nx (by omega)), ?_, fun i _ => if_pos (by omega), if_pos (by omega), if_pos (by omega)⟩
                obtain ⟨⟨a0, a1, a2, a3, a4⟩, b1, b2, b3, b4, b5⟩ := hLL
                refine ⟨?_, fun u hu => ?_, fun a ha => ?_, fun kd hk => ?_, ⟨b4.1, fun i hi => ?_⟩, b5.1, fun i hi => ?_⟩
                · rw [hnx]; exact ⟨a0, a1, a2, a4⟩
                · rw [hrow (nx + 1) (by omega), hrow (nx + 2) (by omega)]; exact b1 u hu
                · rw [hrow (nx + 3) (by omega), hrow (nx + 4) (by omega)]; exact ⟨(b2 a ha).1, (b2 a ha).2.1⟩
                · rw [hrow (nx + 7) (by omega)]; exact b3 kd hk
                · rw [hrow dX (by omega)]; exact b4.2 i hi
                · rw [hrow pX (by omega)]; exact b5.2 i hi
              have hN2 : CN (up2 I2 30 2 (0 : Int32)) s.2 := fun i hi => by rw [up2_o (by decide)]; exact g2 i hi
              have hV2 : PV (up2 I2 30 2 (0 : Int32)) s.2 := by unfold PV; rw [up2_o (by decide)]; exact g3 s.2
              have hP2 : PS (up2 I2 30 2 (0 : Int32)) 30 31 s.2 := by
                obtain ⟨q, q1, q2, q3, q4⟩ := hP
                refine ⟨q, q1, ?_, ?_, fun j hj => by rw [zs5] at hj; exact absurd hj (Nat.not_lt_zero j)⟩
                · rw [up2_s, if_neg (by decide), g1 30 (by decide), eU 30 (by omega) (by decide) (by decide)]; exact q2
                · rw [up2_s, if_pos rfl, zs5]; rfl
              have hCR3 := hCR2.fr hF scrN
              have hw3 : up2 R1 14 0 (some nx) 14 0 = some nx := by rw [up2_h, if_pos rfl]
              have hz2 : I1 1 12 = -1 := by
                have := hCX.2.2
                rw [hzn] at this; exact this.2
              rw [c, hz2] at hCR3
              exact ⟨by rw [hnx, hLL.1.1]; rfl, hKF, _, nx, dX, pX, ldX, lpX, hCR3, hw3, hLd2, hN2, hV2, hP2⟩
            · rintro E μ' ⟨hr2, _⟩; cases hr2
        · -- a fault
          have c : ¬ I1 1 11 = 0 := by rw [up2_s, if_neg (by decide)] at c; exact c
          cases hY : yland t n 1000 with
          | inr s =>
            rw [hY] at hzr
            have := zr_i (s := s.1) hzr
            subst this
            exact absurd hCX.2.2.1 c
          | inl e =>
            rw [hY] at hzr
            have hz1 := zr_l (e := e) hzr
            have h2 := hCX.2.2
            rw [hz1] at h2
            have h2 : I1 1 11 = nI e.1 ∧ I1 1 12 = nI e.2 ∧ Eg n e := h2
            refine wp_bipush (q := 41) dX11_land_39 rfl kb_m10 (wp_aload_n (q := 42) dX11_land_41 rfl rfl rfl (wp_getR (b := 1) (q := 45) dX11_land_42 rfl fl_RX11_12 rfl (by omega) h01 (cf_r w1 (q := (0, 0, 1)) (by decide)) (wp_getI (q := 48) dX11_land_45 rfl fl_RX11_82 rfl (by omega) h11 (wp_isub (q := 49) dX11_land_48 rfl (wp_ireturn dX11_land_49 rfl ?_)))))
            have hKF : KF (I, J, R, S, nx) (up2 I1 1 1 (0 : Int32), J1, R1, S1, n1) := ⟨hn1, fun b h1 h2 => ⟨eU b (by omega) (by omega) (by omega), (f2 b (by omega)).2.1, (f2 b (by omega)).2.2.1 (by omega), (f2 b (by omega)).2.2.2⟩⟩
            have hN2 : CN (up2 I1 1 1 (0 : Int32)) κ := fun i hi => by rw [eU 25 (by omega) (by decide) (by decide)]; exact hN i hi
            have hV2 : PV (up2 I1 1 1 (0 : Int32)) κ := by unfold PV; rw [eU 29 (by omega) (by decide) (by decide)]; exact hV
            have hP2 : PS (up2 I1 1 1 (0 : Int32)) 30 31 κ := by
              obtain ⟨q, q1, q2, q3, q4⟩ := hP
              exact ⟨q, q1, by rw [eU 30 (by omega) (by decide) (by decide)]; exact q2, by rw [eU 30 (by omega) (by decide) (by decide)]; exact q3, fun j hj i hi => by rw [eU 31 (by omega) (by decide) (by decide)]; exact q4 j hj i hi⟩
            rw [h2.1, h2.2.1] at hCR
            exact ⟨by rw [up2_s, if_neg (by decide), h2.1]; rfl, hKF, _, L, dl, pl, ld, lp, hCR, wL1, hL1, hN2, hV2, hP2⟩
      · rintro E μ' ⟨hr1, _⟩; cases hr1
    · rw [k0, if_neg g] at c0; cases c0
  · by_cases g : gR x1 0 tp
    · rw [k0, if_pos g] at c0; cases c0
    · rw [k0, if_neg g] at c0
      rw [show aLand κ t tp fk fp x1 = ((1, 0), κ, tp, fk, fp) by unfold aLand; rw [if_neg g], ← Option.some.inj c0]
      exact ⟨rfl, CI.thr hC0 hn⟩
end A
