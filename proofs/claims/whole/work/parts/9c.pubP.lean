/-! the class: image, restore -/
section A
variable {l : Launch} {G : Gh} {k : Nat} {I : Nat → Nat → Int32} {J : Nat → Nat → Int64} {R : Nat → Nat → Option Nat} {S : Nat → Nat × Nat} {nx : Nat} {κ : Nat → Nat} {hb pb : Nat}
variable {R' : Nat → Nat → Option Nat} {S' : Nat → Nat × Nat} {nx' : Nat} {ow' : Nat → Nat} {I' : Nat → Nat → Int32} {ι : Nat → Option (Nat → Nat)} {τ tm : Nat → Nat} {tn : Nat → Nat → Int64} {tp : Nat} {fk fp : Int32} {t : Nat → Nat} {ow : Nat → Nat} {L dl pl ld lp : Nat}
theorem LzC.ad (h : LzC R S nx ow) (g : Gr S S' nx nx') (r : RA R R' nx) (e0 : R' 0 = R 0) (gw : ∀ a, a < nx → ow' a = ow a) : LzC R' S' nx' ow' := by
  unfold LzC
  rw [e0]
  refine ⟨fun o ho => ?_, fun o ho => ?_, fun o ho => ?_, fun o ho => ?_⟩
  · obtain ⟨z1, z2⟩ := h.1 o ho
    have := z2.1
    exact ⟨z1.ad (by omega) g r, z2.ad z1.1 gw⟩
  · obtain ⟨z1, z2⟩ := h.2.1 o ho
    have := z2.1
    exact ⟨z1.ad (by omega) g r, z2.ad z1.1 gw⟩
  · obtain ⟨z1, z2⟩ := h.2.2.1 o ho
    have := z2.1
    exact ⟨z1.ad (by omega) g r, z2.ad z1.1 gw⟩
  · obtain ⟨z1, z2⟩ := h.2.2.2 o ho
    have := z2.1
    exact ⟨z1.ad (by omega) g r, z2.ad z1.1 gw⟩
theorem image_p {x1 : Int32} (hl0 : l.stackTraces = false) (hC : CI (I, J, R, S, nx) (κ, ι, (τ, tm, tn), (t, tp), fk, fp)) (hs : sok hb pb κ) (hhb : hb < 2 ^ 28) : Cal l G (k + 2) 40 14000 mX11_image [.ref 0, .int x1] (I, J, R, S, nx) (CQ (I, J, R, S, nx) (ansV [eNS] (aImage κ ι x1).1) (κ, (aImage κ ι x1).2, (τ, tm, tn), (t, tp), fk, fp)) := by
  have hC0 := hC
  obtain ⟨ow, L, dl, pl, ld, lp, hR, wL, hL, hN, hV, hP⟩ := hC
  have hR : CR I J R S nx ow ι τ tm tn t tp fk fp := hR
  have wL : R 14 0 = some L := wL
  have hL : LdC I R S nx ow L κ dl pl ld lp := hL
  have hN : CN I κ := hN
  have hV : PV I κ := hV
  have hP : PS I 30 31 κ := hP
  have w : CF R S nx := hR.1
  have h72 := w.1
  have hn0 : 0 < nx := by omega
  have hs0 : (S 0).1 = 11 := cf_o w (q := (0, 11)) (by decide)
  refine Cal.of rfl (by decide +kernel) (by simp) (Nat.le_of_ble_eq_true rfl) rfl (wp_iload_n (q := 1) dX11_image_0 rfl rfl rfl (wp_ndS (q := 4) (As := [.int x1]) (nd := nd_needImage x1) dX11_image_1 rfl rfl ok_X11_needImage ml_RX11_372 sm_X11_needImage rfl rfl (Nat.le_of_ble_eq_true rfl) (bc := 1) (bs := 6) (by decide) (by decide) (n_needImage hl0) (fun c0 => ?_) (fun E n' c0 hn => ?_)))
  · by_cases g : gR x1 0 2
    · obtain ⟨a, rfl, _, ha, ea⟩ := g.n (by decide)
      rw [show aImage κ ι (nI a) = (0, fun i => if i = a then some κ else ι i) by unfold aImage; rw [if_pos g, ea]]
      show WP l G (k + 2) 40 14000 mX11_image (CQ (I, J, R, S, nx) (.inl none) _) 4 [some (.ref 0), some (.int (nI a)), none] [] (I, J, R, S, nx) _ _
      have ec : (nI a).toNatClampNeg = a := nI_clamp (by omega)
      have hIa := hR.2.2.2.2.2 a (by omega)
      cases hq : ι a with
      | some σ =>
        rw [hq] at hIa
        obtain ⟨X, y1, y2⟩ := hIa
        exact wp_aload_n (q := 5) dX11_image_4 rfl rfl rfl (wp_getR (q := 8) dX11_image_5 rfl fl_RX11_42 rfl hn0 hs0 (cf_r w (q := (0, 5, 34)) (by decide)) (wp_iload_n (q := 9) dX11_image_8 rfl rfl rfl (wp_aaloadR (q := 10) dX11_image_9 rfl (Or.inr rfl) (cf_n w (by decide)) (cf_a w (q := (34, 105, 3)) (by decide)) (vp_in_nI (by omega) (by decide)) (by rw [ec]; exact y1) (wp_ifnonnull (tgt := 33) dX11_image_10 rfl (image_t (by omega) w hR.2.1 hR.2.2.1 hR.2.2.2.1 hR.2.2.2.2.1 (fun i hi _ => hR.2.2.2.2.2 i hi) y1 ⟨y2.1, y2.2.1⟩ wL hL hN hV hP KF.rf)))))
      | none =>
        rw [hq] at hIa
        have hIa : R 34 a = none := hIa
        refine wp_aload_n (q := 5) dX11_image_4 rfl rfl rfl (wp_getR (q := 8) dX11_image_5 rfl fl_RX11_42 rfl hn0 hs0 (cf_r w (q := (0, 5, 34)) (by decide)) (wp_iload_n (q := 9) dX11_image_8 rfl rfl rfl (wp_aaloadN (q := 10) dX11_image_9 rfl (Or.inr rfl) (cf_n w (by decide)) (cf_a w (q := (34, 105, 3)) (by decide)) (vp_in_nI (by omega) (by decide)) (by rw [ec]; exact hIa) (wp_ifnonnullN (q := 13) dX11_image_10 rfl (WP.less (cb' := 3 + 1) (sb' := 542 + 3) (by decide) (by decide) (wp_aload_n (q := 14) dX11_image_13 rfl rfl rfl (wp_getR (b := 34) (q := 17) dX11_image_14 rfl fl_RX11_42 rfl hn0 hs0 (cf_r w (q := (0, 5, 34)) (by decide)) (wp_iload_n (q := 18) dX11_image_17 rfl rfl rfl (wp_new (q := 21) (t := 1) dX11_image_18 rfl rfl rfl (by decide) cl_RX11_40 ib_RX1 in_RX1 (wp_dup (q := 22) dX11_image_21 rfl rfl (wp_aload_n (q := 23) dX11_image_22 rfl rfl rfl (wp_getR (b := 14) (q := 26) dX11_image_23 rfl fl_RX11_19 rfl (by omega) (by rw [up1_ne (by omega)]; exact hs0) (by rw [up1_ne (by omega)]; exact cf_r w (q := (0, 1, 14)) (by decide)) (wp_getR (q := 29) dX11_image_26 rfl fl_RX11_106 rfl (by omega) (by rw [up1_ne (by omega)]; exact cf_o w (q := (14, 7)) (by decide)) (by rw [up1_ne (by omega)]; exact wL) (wp_invI (q := 32) (As := [.ref L]) dX11_image_29 rfl rfl ok_X1_init rfl rfl ml_RX11_375 im_X1_init rfl rfl (Nat.le_of_ble_eq_true rfl) (Nat.le_refl _) (Nat.le_refl _) (i_X1_init (x0 := nx) (x1 := L) (by omega) (by rw [up1_eq])) ?_ ?_))))))))))))))
        · rintro r μ' ⟨hr1, I1, J1, R1, S1, rfl, a1, ⟨a2, a3, a4⟩, ⟨a5, a6, a7⟩, a8⟩
          obtain rfl := Sum.inl.inj hr1
          have old : ∀ b, b < nx → I1 b = I b ∧ J1 b = J b ∧ R1 b = R b ∧ S1 b = S b := fun b hb => by
            obtain ⟨b1, b2, b3, b4⟩ := a1 b (by omega)
            have b4 := b4 (by omega)
            rw [up1_ne (by omega)] at b1 b2 b3 b4
            exact ⟨b1, b2, b4, b3⟩
          have hg : Gr S S1 nx (nx + 1 + 3) := ⟨by omega, fun a ha => (old a ha).2.2.2⟩
          have hra : RA R R1 nx := ⟨fun a ha _ => (old a ha).2.2.1, fun j _ => by rw [(old 0 hn0).2.2.1]⟩
          have hSn : S1 nx = (1, 0) := by rw [(a1 nx (by omega)).2.2.1, up1_eq]
          let ow' : Nat → Nat := fun b => if nx ≤ b then 5 + a else ow b
          have gw : ∀ b, b < nx → ow' b = ow b := fun b hb => if_neg (by omega)
          have hown : Own ow' nx 4 (5 + a) := ⟨h72, fun i _ => if_pos (by omega)⟩
          have gI : ∀ b, b < nx → I1 b = I b := fun b hb => (old b hb).1
          have gJ : ∀ b, b < nx → J1 b = J b := fun b hb => (old b hb).2.1
          have e2 : ∀ b, b ≠ 34 → up2 R1 34 (nI a).toNatClampNeg (some nx) b = R1 b := fun b hb => up2_g hb
          have w1 : CF R1 S1 (nx + 1 + 3) := w.ad hg hra
          have eP : ∀ b, b < 72 → I1 b = I b := fun b hb => gI b (by omega)
          refine wp_aastore (q := 33) (ci := 1) dX11_image_32 rfl (Or.inr ⟨rfl, rfl⟩) (by omega) (cf_a w1 (q := (34, 105, 3)) (by decide)) (by omega) (by rw [hSn]) (vp_in_nI (by omega) (by decide)) (image_t (ow := ow') (X := nx) (L := L) (dl := dl) (pl := pl) (ld := ld) (lp := lp) (by omega) (w1.rr (fun b _ h => e2 b h.2) (fun j _ => by rw [e2 14 (by decide)])) (hR.2.1.ad h72 gI gJ) ?_ ?_ ((hR.2.2.2.2.1.ad hg hra (old 0 hn0).2.2.1 gw).rr (e2 0 (by decide)) (fun b h _ _ => e2 b (by omega))) ?_ ?_ ?_ ?_ ?_ ?_ ?_ ?_ ?_)
          · unfold TpC; rw [eP 1 (by decide), eP 2 (by decide)]; exact hR.2.2.1
          · rw [eP 1 (by decide)]; exact hR.2.2.2.1
          · intro i hi hne
            have := hR.2.2.2.2.2 i hi
            cases hq2 : ι i with
            | none =>
              rw [hq2] at this
              show up2 R1 34 (nI a).toNatClampNeg (some nx) 34 i = none
              rw [up2_h, if_neg (by rw [ec]; exact hne), (old 34 (by omega)).2.2.1]; exact this
            | some σ =>
              rw [hq2] at this
              obtain ⟨Y, y1, y2⟩ := this
              have y72 := y2.1.2.1
              refine ⟨Y, ?_, (y2.ad hg hra gI gw).rr (e2 Y (by omega)) (e2 (Y + 2) (by omega)) (fun b h _ => e2 b (by omega))⟩
              show up2 R1 34 (nI a).toNatClampNeg (some nx) 34 i = some Y
              rw [up2_h, if_neg (by rw [ec]; exact hne), (old 34 (by omega)).2.2.1]; exact y1
          · rw [up2_h, if_pos ec.symm]
          · refine ⟨⟨by omega, hown⟩, by rw [hSn], ?_, ?_, a5, a6, ?_, a7⟩
            · rw [e2 nx (by omega)]; exact a3
            · rw [e2 nx (by omega)]; exact a4
            · rw [e2 (nx + 2) (by omega)]; exact a8
          · rw [e2 14 (by decide), (old 14 (by omega)).2.2.1]; exact wL
          · exact (hL.ad hg hra gI gw).rr (e2 L (by have := hL.n14.1; omega))
          · intro i hi; rw [eP 25 (by decide)]; exact hN i hi
          · unfold PV; rw [eP 29 (by decide)]; exact hV
          · exact hP.ad (by omega) (by omega) gI
          · exact ⟨by show nx ≤ nx + 1 + 3; omega, fun b h1 h2 => ⟨(old b (by omega)).1, (old b (by omega)).2.1, (e2 b (by omega)).trans (old b (by omega)).2.2.1, (old b (by omega)).2.2.2⟩⟩
        · rintro E μ' ⟨hr1, _⟩; cases hr1
    · rw [ndIm, if_neg g] at c0; cases c0
  · by_cases g : gR x1 0 2
    · rw [ndIm, if_pos g] at c0; cases c0
    · rw [ndIm, if_neg g] at c0
      rw [show aImage κ ι x1 = (1, ι) by unfold aImage; rw [if_neg g], ← Option.some.inj c0]
      exact ⟨rfl, CI.thr hC0 hn⟩
theorem CR.rr (h : CR I J R S nx ow ι τ tm tn t tp fk fp) (e : ∀ b, b ≠ 14 → R' b = R b) (e14 : ∀ j, 1 ≤ j → R' 14 j = R 14 j) : CR I J R' S nx ow ι τ tm tn t tp fk fp := by
  obtain ⟨h1, h2, h3, h4, h5, h6⟩ := h
  refine ⟨h1.rr (fun b _ h => e b h.1) e14, h2, h3, h4, h5.rr (e 0 (by decide)) (fun b h _ _ => e b (by omega)), fun i hi => ?_⟩
  have := h6 i hi
  cases hq : ι i with
  | none => rw [hq] at this; show R' 34 i = none; rw [e 34 (by decide)]; exact this
  | some σ =>
    rw [hq] at this
    obtain ⟨Y, y1, y2⟩ := this
    have y72 := y2.1.2.1
    exact ⟨Y, by rw [e 34 (by decide)]; exact y1, y2.rr (e Y (by omega)) (e (Y + 2) (by omega)) (fun b h _ => e b (by omega))⟩
theorem KF.fr' {rs : List Nat} (hF : Fr rs I I') (hr : ∀ b, 43 ≤ b → b < 72 → b ∉ rs ∧ R' b = R b) : KF (I, J, R, S, nx) (I', J, R', S, nx) := ⟨Nat.le_refl _, fun b h1 h2 => ⟨hF b (hr b h1 h2).1, rfl, (hr b h1 h2).2, rfl⟩⟩
theorem restore_p {x1 : Int32} (hl0 : l.stackTraces = false) (hC : CI (I, J, R, S, nx) (κ, ι, (τ, tm, tn), (t, tp), fk, fp)) (hs : sok hb pb κ) (hhb : hb < 2 ^ 28) : Cal l G (k + 2) 40 14000 mX11_restore [.ref 0, .int x1] (I, J, R, S, nx) (CQ (I, J, R, S, nx) (ansV [eNS, eIS] (aRest κ ι x1).1) ((aRest κ ι x1).2, ι, (τ, tm, tn), (t, tp), fk, fp)) := by
  have hC0 := hC
  obtain ⟨ow, L, dl, pl, ld, lp, hR, wL, hL, hN, hV, hP⟩ := hC
  have hR : CR I J R S nx ow ι τ tm tn t tp fk fp := hR
  have w : CF R S nx := hR.1
  have h72 := w.1
  have hn0 : 0 < nx := by omega
  have hs0 : (S 0).1 = 11 := cf_o w (q := (0, 11)) (by decide)
  refine Cal.of rfl (by decide +kernel) (by simp) (Nat.le_of_ble_eq_true rfl) rfl (wp_iload_n (q := 1) dX11_restore_0 rfl rfl rfl (wp_ndS (q := 4) (As := [.int x1]) (nd := nd_needImage x1) dX11_restore_1 rfl rfl ok_X11_needImage ml_RX11_372 sm_X11_needImage rfl rfl (Nat.le_of_ble_eq_true rfl) (bc := 1) (bs := 6) (by decide) (by decide) (n_needImage hl0) (fun c0 => ?_) (fun E n' c0 hn => ?_)))
  · by_cases g : gR x1 0 2
    · obtain ⟨a, rfl, _, ha, ea⟩ := g.n (by decide)
      have ec : (nI a).toNatClampNeg = a := nI_clamp (by omega)
      have hIa := hR.2.2.2.2.2 a (by omega)
      cases hq : ι a with
      | none =>
        rw [hq] at hIa
        have hIa : R 34 a = none := hIa
        rw [show aRest κ ι (nI a) = (2, κ) by unfold aRest; rw [if_pos g, ea, hq]]
        exact wp_aload_n (q := 5) dX11_restore_4 rfl rfl rfl (wp_getR (q := 8) dX11_restore_5 rfl fl_RX11_42 rfl hn0 hs0 (cf_r w (q := (0, 5, 34)) (by decide)) (wp_iload_n (q := 9) dX11_restore_8 rfl rfl rfl (wp_aaloadN (q := 10) dX11_restore_9 rfl (Or.inr rfl) (cf_n w (by decide)) (cf_a w (q := (34, 105, 3)) (by decide)) (vp_in_nI (by omega) (by decide)) (by rw [ec]; exact hIa) (wp_astore_nN (q := 11) dX11_restore_10 rfl rfl (by decide) rfl (wp_aload_nN (q := 12) dX11_restore_11 rfl rfl rfl (wp_ifnonnullN (q := 15) dX11_restore_12 rfl (wp_thr (si := 13) hl0 rfl rfl thr_C (by decide) ⟨rfl, rfl⟩ dX11_restore_15 dX11_restore_18 dX11_restore_19 dX11_restore_22 dX11_restore_25 (Nat.le_of_ble_eq_true rfl) (by decide) (by decide) (fun n' hn => ⟨rfl, CI.thr hC0 hn⟩))))))))
      | some σ =>
        rw [hq] at hIa
        obtain ⟨X, y1, ⟨z1, z2, z3⟩, ⟨s4, s5, s6, s7, s8, s9, s10⟩, ⟨LX, dX, pX, ldX, lpX, z4, z5⟩, z6, z7⟩ := hIa
        rw [show aRest κ ι (nI a) = (0, σ) by unfold aRest; rw [if_pos g, ea, hq]]
        show WP l G (k + 2) 40 14000 mX11_restore (CQ (I, J, R, S, nx) (.inl none) _) 4 [some (.ref 0), some (.int (nI a)), none] [] (I, J, R, S, nx) _ _
        have e : ∀ b, b ≠ 14 → up2 R 14 0 (some LX) b = R b := fun b hb => up2_g hb
        have e14 : ∀ j, 1 ≤ j → up2 R 14 0 (some LX) 14 j = R 14 j := fun j hj => by rw [up2_h, if_neg (by omega)]
        have hR' := hR.rr e e14
        have w' := hR'.1
        have eU : ∀ b, b ≠ 25 → upC I (X + 1) 25 0 0 49 b = I b := fun b hb => upC_ne hb
        have hP' : PS (upC I (X + 1) 25 0 0 49) (X + 2) (X + 3) σ := by
          obtain ⟨s, q1, q2, q3, q4⟩ := z7
          exact ⟨s, q1, by rw [eU _ (by omega)]; exact q2, by rw [eU _ (by omega)]; exact q3, fun j hj i hi => by rw [eU _ (by omega)]; exact q4 j hj i hi⟩
        refine wp_aload_n (q := 5) dX11_restore_4 rfl rfl rfl (wp_getR (q := 8) dX11_restore_5 rfl fl_RX11_42 rfl hn0 hs0 (cf_r w (q := (0, 5, 34)) (by decide)) (wp_iload_n (q := 9) dX11_restore_8 rfl rfl rfl (wp_aaloadR (q := 10) dX11_restore_9 rfl (Or.inr rfl) (cf_n w (by decide)) (cf_a w (q := (34, 105, 3)) (by decide)) (vp_in_nI (by omega) (by decide)) (by rw [ec]; exact y1) (wp_astore_n (q := 11) dX11_restore_10 rfl rfl (by decide) rfl (wp_aload_n (q := 12) dX11_restore_11 rfl rfl rfl (wp_ifnonnull (tgt := 26) dX11_restore_12 rfl (wp_aload_n (q := 27) dX11_restore_26 rfl rfl rfl (wp_getR (q := 30) dX11_restore_27 rfl fl_RX11_19 rfl hn0 hs0 (cf_r w (q := (0, 1, 14)) (by decide)) (wp_aload_n (q := 31) dX11_restore_30 rfl rfl rfl (wp_getR (q := 34) dX11_restore_31 rfl fl_RX11_377 rfl (by omega) s4 z4 (wp_putR (q := 37) (ty := tyX7) dX11_restore_34 rfl fl_RX11_106 rfl (Or.inl rfl) (fun _ => rfl) (fun _ => rfl) rfl (cf_n w (by decide)) (cf_o w (q := (14, 7)) (by decide)) (wp_aload_n (q := 38) dX11_restore_37 rfl rfl rfl (wp_getR (q := 41) dX11_restore_38 rfl fl_RX11_378 rfl (by omega) s4 (by rw [e X (by omega)]; exact s5) (wp_iconst (q := 42) dX11_restore_41 rfl ki_0 (wp_aload_n (q := 43) dX11_restore_42 rfl rfl rfl (wp_getR (q := 46) dX11_restore_43 rfl fl_RX11_19 rfl hn0 hs0 (cf_r w' (q := (0, 1, 14)) (by decide)) (wp_getR (q := 49) dX11_restore_46 rfl fl_RX11_103 rfl (cf_n w (by decide)) (cf_o w (q := (14, 7)) (by decide)) (cf_r w' (q := (14, 1, 25)) (by decide)) (wp_iconst (q := 50) dX11_restore_49 rfl ki_0 (wp_bipush (q := 52) dX11_restore_50 rfl kb_49 (wp_copyI (q := 55) dX11_restore_52 rfl ml_RX11_210 (sp1 := 0) (dp1 := 0) (n1p := 49) (by decide) (by decide) (by decide) (Nat.le_of_ble_eq_true rfl) (by omega) s7 (cf_n w (by decide)) (cf_a w (q := (25, 100, 49)) (by decide)) (by decide) (wp_aload_n (q := 56) dX11_restore_55 rfl rfl rfl (wp_getR (q := 59) dX11_restore_56 rfl fl_RX11_26 rfl hn0 hs0 (cf_r w' (q := (0, 2, 30)) (by decide)) (wp_aload_n (q := 60) dX11_restore_59 rfl rfl rfl (wp_getR (q := 63) dX11_restore_60 rfl fl_RX11_379 rfl (by omega) s4 (by rw [e X (by omega)]; exact s6) (wp_invV (q := 66) (As := [.ref (X + 2)]) (t := 5) dX11_restore_63 rfl rfl ok_X5_become ml_RX11_380 im_X5_become se_X5_become (by decide) ⟨_, rfl, rfl⟩ (cf_n w (by decide)) (cf_o w (q := (30, 5)) (by decide)) rfl rfl (Nat.le_of_ble_eq_true rfl) (Nat.zero_le _) (Nat.zero_le _) (become_c (p := 30) (rw := 31) (p' := X + 2) (rw' := X + 3) (κ := σ) w' ⟨cf_n w (by decide), cf_o w (q := (30, 5)) (by decide), cf_r w' (q := (30, 0, 31)) (by decide), cf_a w (q := (31, 100, 490)) (by decide), cf_n w (by decide)⟩ ⟨by omega, s8, by rw [e _ (by omega)]; exact s9, s10, by omega⟩ ⟨by omega, by omega, by omega, by omega, by omega⟩ hP') ?_ ?_)))))))))))))))))))))))))
        · rintro r μ' ⟨hr1, I2, rfl, f1, f2⟩
          obtain rfl := Sum.inl.inj hr1
          refine wp_aload_n (q := 67) dX11_restore_66 rfl rfl rfl (wp_getR (q := 70) dX11_restore_67 rfl fl_RX11_19 rfl hn0 hs0 (cf_r w' (q := (0, 1, 14)) (by decide)) (wp_invV (q := 73) (As := []) (t := 7) dX11_restore_70 rfl rfl ok_X7_forgetPrevailing ml_RX11_172 im_X7_forgetPrevailing se_X7_forgetPrevailing (by decide) ⟨_, rfl, rfl⟩ (cf_n w (by decide)) (cf_o w (q := (14, 7)) (by decide)) rfl rfl (Nat.le_of_ble_eq_true rfl) (Nat.zero_le _) (Nat.zero_le _) (forget_c w') ?_ ?_))
          · rintro r μ' ⟨hr2, I3, rfl, f3, f4⟩
            obtain rfl := Sum.inl.inj hr2
            have hF : Fr [25, 27, 28, 29, 30, 31] I I3 := fun b hb => by
              simp at hb
              rw [f3 b (by simp; omega), f1 b (by simp; omega), eU b (by omega)]
            have hL2 := (z5.rr (e LX (by have := z5.n14.1; omega))).fr hF scrN
            refine wp_return dX11_restore_73 rfl ⟨rfl, KF.fr' hF (fun b h1 h2 => ?_), ow, LX, dX, pX, ldX, lpX, hR'.fr hF scrN, ?_, hL2, ?_, f4 σ, ?_⟩
            · exact ⟨by simp; omega, e b (by omega)⟩
            · show up2 R 14 0 (some LX) 14 0 = some LX
              rw [up2_h, if_pos rfl]
            · show CN I3 σ
              intro i hi
              rw [f3 25 (by decide), f1 25 (by decide), upC_in (by omega), show 0 + (i - 0) = i by omega]
              exact z6 i hi
            · exact f2.fr f3 (by decide) (by decide)
          · rintro E μ' ⟨hr2, _⟩; cases hr2
        · rintro E μ' ⟨hr1, _⟩; cases hr1
    · rw [ndIm, if_neg g] at c0; cases c0
  · by_cases g : gR x1 0 2
    · rw [ndIm, if_pos g] at c0; cases c0
    · rw [ndIm, if_neg g] at c0
      rw [show aRest κ ι x1 = (1, κ) by unfold aRest; rw [if_neg g], ← Option.some.inj c0]
      exact ⟨rfl, CI.thr hC0 hn⟩
end A
