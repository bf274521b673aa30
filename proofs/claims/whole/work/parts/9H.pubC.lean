/-! the class: hours to come -/
section A
variable {l : Launch} {G : Gh} {k : Nat} {I : Nat → Nat → Int32} {J : Nat → Nat → Int64} {R : Nat → Nat → Option Nat} {S : Nat → Nat × Nat} {nx : Nat} {κ : Nat → Nat} {hb pb : Nat}
variable {ι : Nat → Option (Nat → Nat)} {τ tm : Nat → Nat} {tn : Nat → Nat → Int64} {tp : Nat} {fk fp : Int32} {t : Nat → Nat}
theorem KF.trans {μ1 μ2 μ3 : Mem} (h : KF μ1 μ2) (h2 : KF μ2 μ3) : KF μ1 μ3 := ⟨Nat.le_trans h.1 h2.1, fun a x y => by
  obtain ⟨a1, a2, a3, a4⟩ := h.2 a x y
  obtain ⟨b1, b2, b3, b4⟩ := h2.2 a x y
  exact ⟨b1.trans a1, b2.trans a2, b3.trans a3, b4.trans a4⟩⟩
def LzQ (f : Nat) (μ : Mem) (st : St) : Res → Mem → Prop := fun r μ' => ∃ (I' : Nat → Nat → Int32) (J' : Nat → Nat → Int64) (R' : Nat → Nat → Option Nat) (S' : Nat → Nat × Nat) (n' o : Nat), r = .inl (some (.ref o)) ∧ μ' = (I', J', R', S', n') ∧ KF μ (I', J', R', S', n') ∧ CI (I', J', R', S', n') st ∧ R' 0 f = some o
theorem ahead_c (hC : CI (I, J, R, S, nx) (κ, ι, (τ, tm, tn), (t, tp), fk, fp)) : Cal l G (k + 1) 5 3077 mX11_ahead [.ref 0] (I, J, R, S, nx) (LzQ 7 (I, J, R, S, nx) (κ, ι, (τ, tm, tn), (t, tp), fk, fp)) := by
  refine Cal.of rfl (by decide +kernel) (by simp) (Nat.le_of_ble_eq_true rfl) rfl (lz_outlook hC (Nat.le_refl 5) (Nat.le_refl 3077) (fun I' J' R' S' n' o h1 h2 h3 => ?_))
  have w : CF R' S' n' := by obtain ⟨ow, L, dl, pl, ld, lp, hR, _⟩ := h2; exact hR.1
  exact wp_aload_n (q := 23) dX11_ahead_22 rfl rfl rfl (wp_getR (q := 26) dX11_ahead_23 rfl fl_RX11_50 rfl (cf_n w (by decide)) (cf_o w (q := (0, 11)) (by decide)) h3 (wp_areturn dX11_ahead_26 rfl (Or.inl ⟨_, rfl⟩) ⟨I', J', R', S', n', o, rfl, rfl, h1, h2, h3⟩))
theorem glass_c (hC : CI (I, J, R, S, nx) (κ, ι, (τ, tm, tn), (t, tp), fk, fp)) : Cal l G (k + 1) 4 111 mX11_glass [.ref 0] (I, J, R, S, nx) (LzQ 10 (I, J, R, S, nx) (κ, ι, (τ, tm, tn), (t, tp), fk, fp)) := by
  refine Cal.of rfl (by decide +kernel) (by simp) (Nat.le_of_ble_eq_true rfl) rfl (lz_thermometer hC (Nat.le_refl 4) (Nat.le_refl 111) (fun I' J' R' S' n' o h1 h2 h3 => ?_))
  have w : CF R' S' n' := by obtain ⟨ow, L, dl, pl, ld, lp, hR, _⟩ := h2; exact hR.1
  exact wp_aload_n (q := 23) dX11_glass_22 rfl rfl rfl (wp_getR (q := 26) dX11_glass_23 rfl fl_RX11_62 rfl (cf_n w (by decide)) (cf_o w (q := (0, 11)) (by decide)) h3 (wp_areturn dX11_glass_26 rfl (Or.inl ⟨_, rfl⟩) ⟨I', J', R', S', n', o, rfl, rfl, h1, h2, h3⟩))
theorem scrO {ow : Nat → Nat} {o : Nat} (h : Own ow o 5 1) : ∀ a ∈ [27, 28, 29, o + 1, o + 2, o + 3, o + 4], Scr ow a := by
  intro a ha
  have h0 := h.1
  have e1 := h.2 1 (by decide)
  have e2 := h.2 2 (by decide)
  have e3 := h.2 3 (by decide)
  have e4 := h.2 4 (by decide)
  simp at ha
  rcases ha with rfl | rfl | rfl | rfl | rfl | rfl | rfl
  · exact Or.inl (by omega)
  · exact Or.inl (by omega)
  · exact Or.inl (by omega)
  · exact Or.inr (by omega)
  · exact Or.inr (by omega)
  · exact Or.inr (by omega)
  · exact Or.inr (by omega)
theorem lawful_p {x1 : Int32} {x2 : Int32} {x3 : Int32} {x4 : Int32} (hl0 : l.stackTraces = false) (hC : CI (I, J, R, S, nx) (κ, ι, (τ, tm, tn), (t, tp), fk, fp)) (hs : sok hb pb κ) (hhb : hb < 2 ^ 28) : Cal l G (k + 5) 40 14000 mX11_lawful [.ref 0, .int x1, .int x2, .int x3, .int x4] (I, J, R, S, nx) (CQ (I, J, R, S, nx) (ansR [eNS, eIA] (aLawful κ x1 x2 x3 x4)) (κ, ι, (τ, tm, tn), (t, tp), fk, fp)) := by
  have hC0 := hC
  obtain ⟨ow, L, dl, pl, ld, lp, hR, wL, hL, hN, hV, hP⟩ := hC
  have hR : CR I J R S nx ow ι τ tm tn t tp fk fp := hR
  have wL : R 14 0 = some L := wL
  have hL : LdC I R S nx ow L κ dl pl ld lp := hL
  have hN : CN I κ := hN
  have hV : PV I κ := hV
  have hP : PS I 30 31 κ := hP
  have w : CF R S nx := hR.1
  have wl : LW R S nx L dl pl ld lp := hL.1
  have h : CK I κ L dl pl ld lp := ⟨hN, hL.2.1, hV⟩
  have ho := hs.q
  have h1w : κ 1 ≤ 5 := ho.1
  have h2a : κ 2 ≤ 8 := ho.2.1
  have h54 : κ 54 ≤ hb := ho.2.2.2.2.2.2.2.2.2.2.1
  have e1 : I L 1 = nI (κ 1) := h.2.1.1.2.1
  have e2 : I L 2 = nI (κ 2) := h.2.1.1.2.2.1
  have k0 : nd_needDeed (I L 1) x1 x2 x4 = (if gL x2 (κ 1) then (if gR x1 0 9 ∧ gR x4 1 24 then none else some eIA) else some eNS) := (by rw [e1]; exact ndD (by omega))
  have k1 : nd_needWithin x3 (0 : Int32) (999 : Int32) = (if gR x3 0 999 then none else some eIA) := (ndI (a := 0) (b := 999) (by decide) (by decide))
  by_cases g0 : gL x2 (κ 1)
  · by_cases g1 : gR x1 0 9 ∧ gR x4 1 24
    · by_cases g2 : gR x3 0 999
      · have c0 : nd_needDeed (I L 1) x1 x2 x4 = none := by rw [k0, if_pos g0, if_pos g1]
        have c1 : nd_needWithin x3 (0 : Int32) (999 : Int32) = none := by rw [k1, if_pos g2]
        rw [show aLawful κ x1 x2 x3 x4 = (0, if qfree (qfr κ (cN x1) (cN x2)) (κ 54 + cN x3) (qms κ (cN x4)) then 1 else 0) by unfold aLawful; rw [gD_0 g0 ⟨g1.1, g2, g1.2⟩]; rfl]
        refine Cal.of rfl (by decide +kernel) (by simp) (Nat.le_of_ble_eq_true rfl) rfl (sX11_lawful_0 (Qn1 := LzQ 7 (I, J, R, S, nx) (κ, ι, (τ, tm, tn), (t, tp), fk, fp)) (mc1 := 5) (ms1 := 3077) hl0 w wL wl (by decide) (ndy c0) (by decide) (fun _ => ndy c1) ⟨by decide, by decide⟩ (fun _ _ => ?_) (fun _ _ => ?_) (fun _ _ => ?_))
        · exact ahead_c hC0
        · rintro r μ' ⟨I1, J1, R1, S1, n1, o, hr1, rfl, hk, hc, ho7⟩
          obtain rfl := Sum.inl.inj hr1
          obtain ⟨ow1, L1, dl1, pl1, ld1, lp1, hR1, wL1, hL1, hN1, hV1, hP1⟩ := hc
          have hO := hR1.2.2.2.2.1.1 o ho7
          have ap := Own.ap hO.2 (by decide) (by decide) hL1
          have h72 := hO.2.1
          have hO1 : o + 5 ≤ n1 := hO.1.1
          obtain ⟨a, rfl, _, ha, ea⟩ := g1.1.n (by omega)
          obtain ⟨b, rfl, hb2, eb⟩ := g0.n (by omega)
          obtain ⟨c, rfl, _, hc2, ec⟩ := g2.n (by omega)
          obtain ⟨d, rfl, hd1, hd, ed⟩ := g1.2.n (by omega)
          rw [ea, eb, ec, ed]
          refine sX11_lawful_20 (u1 := if qfree (qfr κ a b) (κ 54 + c) (qms κ d) then 1 else 0) (P1 := fun I I' => Fr [27, 28, 29, o + 1, o + 2] I I' ∧ CK I' κ L1 dl1 pl1 ld1 lp1) (by omega) hO.1.2.1 (isLawfulIn_c hR1.1 wL1 hL1.1 ⟨hN1, hL1.2.1, hV1⟩ ho (by omega) hO.1 ap (by omega) (by omega) (by omega) ⟨hd1, hd⟩) (fun I2 h2 => ?_) (fun I2 h2 => by split <;> rfl)
          have st := CI.step hR1 wL1 hL1 (h2.1.wk (r2 := [27, 28, 29, o + 1, o + 2, o + 3, o + 4]) (by simp)) (scrO hO.2) h2.2 (hP1.fr h2.1 (by simp; omega) (by simp; omega))
          exact ⟨ok0 rfl, hk.trans st.1, st.2⟩
        · rintro E μ' ⟨I1, J1, R1, S1, n1, o, hr1, _⟩; cases hr1
      · have c0 : nd_needDeed (I L 1) x1 x2 x4 = none := by rw [k0, if_pos g0, if_pos g1]
        have c1 : nd_needWithin x3 (0 : Int32) (999 : Int32) = some eIA := by rw [k1, if_neg g2]
        rw [show aLawful κ x1 x2 x3 x4 = (2, 0) by unfold aLawful; rw [gD_2 g0 (fun g => g2 g.2.1)]; rfl]
        exact Cal.of rfl (by decide +kernel) (by simp) (Nat.le_of_ble_eq_true rfl) rfl (sX11_lawful_0 (Qn1 := fun _ _ => True) (mc1 := 5) (ms1 := 3077) hl0 w wL wl (by decide) (ndy c0) (by decide) (fun _ => ndn c1 (fun n' hn => ⟨rfl, CI.thr hC0 hn⟩)) ⟨by decide, by decide⟩ (fun _ g => ndx c1 g) (fun _ g => ndx c1 g) (fun _ g => ndx c1 g))
    · have c0 : nd_needDeed (I L 1) x1 x2 x4 = some eIA := by rw [k0, if_pos g0, if_neg g1]
      rw [show aLawful κ x1 x2 x3 x4 = (2, 0) by unfold aLawful; rw [gD_2 g0 (fun g => g1 ⟨g.1, g.2.2⟩)]; rfl]
      exact Cal.of rfl (by decide +kernel) (by simp) (Nat.le_of_ble_eq_true rfl) rfl (sX11_lawful_0 (Qn1 := fun _ _ => True) (mc1 := 5) (ms1 := 3077) hl0 w wL wl (by decide) (ndn c0 (fun n' hn => ⟨rfl, CI.thr hC0 hn⟩)) (by decide) (fun g => ndx c0 g) ⟨by decide, by decide⟩ (fun g => ndx c0 g) (fun g => ndx c0 g) (fun g => ndx c0 g))
  · have c0 : nd_needDeed (I L 1) x1 x2 x4 = some eNS := by rw [k0, if_neg g0]
    rw [show aLawful κ x1 x2 x3 x4 = (1, 0) by unfold aLawful; rw [gD_1 g0]; rfl]
    exact Cal.of rfl (by decide +kernel) (by simp) (Nat.le_of_ble_eq_true rfl) rfl (sX11_lawful_0 (Qn1 := fun _ _ => True) (mc1 := 5) (ms1 := 3077) hl0 w wL wl (by decide) (ndn c0 (fun n' hn => ⟨rfl, CI.thr hC0 hn⟩)) (by decide) (fun g => ndx c0 g) ⟨by decide, by decide⟩ (fun g => ndx c0 g) (fun g => ndx c0 g) (fun g => ndx c0 g))
theorem heat_p {x1 : Int32} {x2 : Int32} {x3 : Int32} {x4 : Int32} (hl0 : l.stackTraces = false) (hC : CI (I, J, R, S, nx) (κ, ι, (τ, tm, tn), (t, tp), fk, fp)) (hs : sok hb pb κ) (hhb : hb < 2 ^ 28) : Cal l G (k + 5) 40 14000 mX11_heat [.ref 0, .int x1, .int x2, .int x3, .int x4] (I, J, R, S, nx) (CQ (I, J, R, S, nx) (ansR [eNS, eIA] (aHeat κ x1 x2 x3 x4)) (κ, ι, (τ, tm, tn), (t, tp), fk, fp)) := by
  have hC0 := hC
  obtain ⟨ow, L, dl, pl, ld, lp, hR, wL, hL, hN, hV, hP⟩ := hC
  have hR : CR I J R S nx ow ι τ tm tn t tp fk fp := hR
  have wL : R 14 0 = some L := wL
  have hL : LdC I R S nx ow L κ dl pl ld lp := hL
  have hN : CN I κ := hN
  have hV : PV I κ := hV
  have hP : PS I 30 31 κ := hP
  have w : CF R S nx := hR.1
  have wl : LW R S nx L dl pl ld lp := hL.1
  have h : CK I κ L dl pl ld lp := ⟨hN, hL.2.1, hV⟩
  have ho := hs.q
  have h1w : κ 1 ≤ 5 := ho.1
  have h2a : κ 2 ≤ 8 := ho.2.1
  have h54 : κ 54 ≤ hb := ho.2.2.2.2.2.2.2.2.2.2.1
  have e1 : I L 1 = nI (κ 1) := h.2.1.1.2.1
  have e2 : I L 2 = nI (κ 2) := h.2.1.1.2.2.1
  have k0 : nd_needDeed (I L 1) x1 x2 x4 = (if gL x2 (κ 1) then (if gR x1 0 9 ∧ gR x4 1 24 then none else some eIA) else some eNS) := (by rw [e1]; exact ndD (by omega))
  have k1 : nd_needWithin x3 (0 : Int32) (999 : Int32) = (if gR x3 0 999 then none else some eIA) := (ndI (a := 0) (b := 999) (by decide) (by decide))
  by_cases g0 : gL x2 (κ 1)
  · by_cases g1 : gR x1 0 9 ∧ gR x4 1 24
    · by_cases g2 : gR x3 0 999
      · have c0 : nd_needDeed (I L 1) x1 x2 x4 = none := by rw [k0, if_pos g0, if_pos g1]
        have c1 : nd_needWithin x3 (0 : Int32) (999 : Int32) = none := by rw [k1, if_pos g2]
        rw [show aHeat κ x1 x2 x3 x4 = (0, zI (qheat κ (cN x1) (cN x2) (cN x3) (qms κ (cN x4)))) by unfold aHeat; rw [gD_0 g0 ⟨g1.1, g2, g1.2⟩]; rfl]
        refine Cal.of rfl (by decide +kernel) (by simp) (Nat.le_of_ble_eq_true rfl) rfl (sX11_heat_0 (Qn1 := LzQ 7 (I, J, R, S, nx) (κ, ι, (τ, tm, tn), (t, tp), fk, fp)) (mc1 := 5) (ms1 := 3077) hl0 w wL wl (by decide) (ndy c0) (by decide) (fun _ => ndy c1) ⟨by decide, by decide⟩ (fun _ _ => ?_) (fun _ _ => ?_) (fun _ _ => ?_))
        · exact ahead_c hC0
        · rintro r μ' ⟨I1, J1, R1, S1, n1, o, hr1, rfl, hk, hc, ho7⟩
          obtain rfl := Sum.inl.inj hr1
          obtain ⟨ow1, L1, dl1, pl1, ld1, lp1, hR1, wL1, hL1, hN1, hV1, hP1⟩ := hc
          have hO := hR1.2.2.2.2.1.1 o ho7
          have ap := Own.ap hO.2 (by decide) (by decide) hL1
          have h72 := hO.2.1
          have hO1 : o + 5 ≤ n1 := hO.1.1
          obtain ⟨a, rfl, _, ha, ea⟩ := g1.1.n (by omega)
          obtain ⟨b, rfl, hb2, eb⟩ := g0.n (by omega)
          obtain ⟨c, rfl, _, hc2, ec⟩ := g2.n (by omega)
          obtain ⟨d, rfl, hd1, hd, ed⟩ := g1.2.n (by omega)
          rw [ea, eb, ec, ed]
          refine sX11_heat_20 (u1 := zI (qheat κ a b c (qms κ d))) (P1 := fun I I' => Fr [27, 28, 29, o + 1, o + 2] I I' ∧ CK I' κ L1 dl1 pl1 ld1 lp1) (by omega) hO.1.2.1 (heatIn_c hR1.1 wL1 hL1.1 ⟨hN1, hL1.2.1, hV1⟩ ho (by omega) hO.1 ap (by omega) (by omega) (by omega) ⟨hd1, hd⟩) (fun I2 h2 => ?_)
          have st := CI.step hR1 wL1 hL1 (h2.1.wk (r2 := [27, 28, 29, o + 1, o + 2, o + 3, o + 4]) (by simp)) (scrO hO.2) h2.2 (hP1.fr h2.1 (by simp; omega) (by simp; omega))
          exact ⟨ok0 rfl, hk.trans st.1, st.2⟩
        · rintro E μ' ⟨I1, J1, R1, S1, n1, o, hr1, _⟩; cases hr1
      · have c0 : nd_needDeed (I L 1) x1 x2 x4 = none := by rw [k0, if_pos g0, if_pos g1]
        have c1 : nd_needWithin x3 (0 : Int32) (999 : Int32) = some eIA := by rw [k1, if_neg g2]
        rw [show aHeat κ x1 x2 x3 x4 = (2, 0) by unfold aHeat; rw [gD_2 g0 (fun g => g2 g.2.1)]; rfl]
        exact Cal.of rfl (by decide +kernel) (by simp) (Nat.le_of_ble_eq_true rfl) rfl (sX11_heat_0 (Qn1 := fun _ _ => True) (mc1 := 5) (ms1 := 3077) hl0 w wL wl (by decide) (ndy c0) (by decide) (fun _ => ndn c1 (fun n' hn => ⟨rfl, CI.thr hC0 hn⟩)) ⟨by decide, by decide⟩ (fun _ g => ndx c1 g) (fun _ g => ndx c1 g) (fun _ g => ndx c1 g))
    · have c0 : nd_needDeed (I L 1) x1 x2 x4 = some eIA := by rw [k0, if_pos g0, if_neg g1]
      rw [show aHeat κ x1 x2 x3 x4 = (2, 0) by unfold aHeat; rw [gD_2 g0 (fun g => g1 ⟨g.1, g.2.2⟩)]; rfl]
      exact Cal.of rfl (by decide +kernel) (by simp) (Nat.le_of_ble_eq_true rfl) rfl (sX11_heat_0 (Qn1 := fun _ _ => True) (mc1 := 5) (ms1 := 3077) hl0 w wL wl (by decide) (ndn c0 (fun n' hn => ⟨rfl, CI.thr hC0 hn⟩)) (by decide) (fun g => ndx c0 g) ⟨by decide, by decide⟩ (fun g => ndx c0 g) (fun g => ndx c0 g) (fun g => ndx c0 g))
  · have c0 : nd_needDeed (I L 1) x1 x2 x4 = some eNS := by rw [k0, if_neg g0]
    rw [show aHeat κ x1 x2 x3 x4 = (1, 0) by unfold aHeat; rw [gD_1 g0]; rfl]
    exact Cal.of rfl (by decide +kernel) (by simp) (Nat.le_of_ble_eq_true rfl) rfl (sX11_heat_0 (Qn1 := fun _ _ => True) (mc1 := 5) (ms1 := 3077) hl0 w wL wl (by decide) (ndn c0 (fun n' hn => ⟨rfl, CI.thr hC0 hn⟩)) (by decide) (fun g => ndx c0 g) ⟨by decide, by decide⟩ (fun g => ndx c0 g) (fun g => ndx c0 g) (fun g => ndx c0 g))
theorem soonest_p {x1 : Int32} {x2 : Int32} {x3 : Int32} (hl0 : l.stackTraces = false) (hC : CI (I, J, R, S, nx) (κ, ι, (τ, tm, tn), (t, tp), fk, fp)) (hs : sok hb pb κ) (hhb : hb < 2 ^ 28) : Cal l G (k + 6) 40 14000 mX11_soonest [.ref 0, .int x1, .int x2, .int x3] (I, J, R, S, nx) (CQ (I, J, R, S, nx) (ansR [eNS, eIA] (aSoonest κ x1 x2 x3)) (κ, ι, (τ, tm, tn), (t, tp), fk, fp)) := by
  have hC0 := hC
  obtain ⟨ow, L, dl, pl, ld, lp, hR, wL, hL, hN, hV, hP⟩ := hC
  have hR : CR I J R S nx ow ι τ tm tn t tp fk fp := hR
  have wL : R 14 0 = some L := wL
  have hL : LdC I R S nx ow L κ dl pl ld lp := hL
  have hN : CN I κ := hN
  have hV : PV I κ := hV
  have hP : PS I 30 31 κ := hP
  have w : CF R S nx := hR.1
  have wl : LW R S nx L dl pl ld lp := hL.1
  have h : CK I κ L dl pl ld lp := ⟨hN, hL.2.1, hV⟩
  have ho := hs.q
  have h1w : κ 1 ≤ 5 := ho.1
  have h2a : κ 2 ≤ 8 := ho.2.1
  have h54 : κ 54 ≤ hb := ho.2.2.2.2.2.2.2.2.2.2.1
  have e1 : I L 1 = nI (κ 1) := h.2.1.1.2.1
  have e2 : I L 2 = nI (κ 2) := h.2.1.1.2.2.1
  have k0 : nd_needDeed (I L 1) x1 x2 x3 = (if gL x2 (κ 1) then (if gR x1 0 9 ∧ gR x3 1 24 then none else some eIA) else some eNS) := (by rw [e1]; exact ndD (by omega))
  by_cases g0 : gL x2 (κ 1)
  · by_cases g1 : gR x1 0 9 ∧ gR x3 1 24
    · have c0 : nd_needDeed (I L 1) x1 x2 x3 = none := by rw [k0, if_pos g0, if_pos g1]
      rw [show aSoonest κ x1 x2 x3 = (0, jP (qsoon κ (cN x1) (cN x2) (cN x3))) by unfold aSoonest; rw [gD_0 g0 ⟨g1.1, by decide, g1.2⟩]; rfl]
      refine Cal.of rfl (by decide +kernel) (by simp) (Nat.le_of_ble_eq_true rfl) rfl (sX11_soonest_0 (Qn1 := LzQ 7 (I, J, R, S, nx) (κ, ι, (τ, tm, tn), (t, tp), fk, fp)) (mc1 := 5) (ms1 := 3077) hl0 w wL wl (by decide) (ndy c0) ⟨by decide, by decide⟩ (fun _ => ?_) (fun _ => ?_) (fun _ => ?_))
      · exact ahead_c hC0
      · rintro r μ' ⟨I1, J1, R1, S1, n1, o, hr1, rfl, hk, hc, ho7⟩
        obtain rfl := Sum.inl.inj hr1
        obtain ⟨ow1, L1, dl1, pl1, ld1, lp1, hR1, wL1, hL1, hN1, hV1, hP1⟩ := hc
        have hO := hR1.2.2.2.2.1.1 o ho7
        have ap := Own.ap hO.2 (by decide) (by decide) hL1
        have h72 := hO.2.1
        have hO1 : o + 5 ≤ n1 := hO.1.1
        obtain ⟨a, rfl, _, ha, ea⟩ := g1.1.n (by omega)
        obtain ⟨b, rfl, hb2, eb⟩ := g0.n (by omega)
        obtain ⟨d, rfl, hd1, hd, ed⟩ := g1.2.n (by omega)
        rw [ea, eb, ed]
        refine sX11_soonest_11 (u1 := jP (qsoon κ a b d)) (P1 := fun I I' => Fr [27, 28, 29, o + 1, o + 2] I I' ∧ CK I' κ L1 dl1 pl1 ld1 lp1) (by omega) hO.1.2.1 (soonestIn_c hR1.1 wL1 hL1.1 ⟨hN1, hL1.2.1, hV1⟩ ho (by omega) hO.1 ap (by omega) (by omega) ⟨hd1, hd⟩) (fun I2 h2 => ?_)
        have st := CI.step hR1 wL1 hL1 (h2.1.wk (r2 := [27, 28, 29, o + 1, o + 2, o + 3, o + 4]) (by simp)) (scrO hO.2) h2.2 (hP1.fr h2.1 (by simp; omega) (by simp; omega))
        exact ⟨ok0 rfl, hk.trans st.1, st.2⟩
      · rintro E μ' ⟨I1, J1, R1, S1, n1, o, hr1, _⟩; cases hr1
    · have c0 : nd_needDeed (I L 1) x1 x2 x3 = some eIA := by rw [k0, if_pos g0, if_neg g1]
      rw [show aSoonest κ x1 x2 x3 = (2, 0) by unfold aSoonest; rw [gD_2 g0 (fun g => g1 ⟨g.1, g.2.2⟩)]; rfl]
      exact Cal.of rfl (by decide +kernel) (by simp) (Nat.le_of_ble_eq_true rfl) rfl (sX11_soonest_0 (Qn1 := fun _ _ => True) (mc1 := 5) (ms1 := 3077) hl0 w wL wl (by decide) (ndn c0 (fun n' hn => ⟨rfl, CI.thr hC0 hn⟩)) ⟨by decide, by decide⟩ (fun g => ndx c0 g) (fun g => ndx c0 g) (fun g => ndx c0 g))
  · have c0 : nd_needDeed (I L 1) x1 x2 x3 = some eNS := by rw [k0, if_neg g0]
    rw [show aSoonest κ x1 x2 x3 = (1, 0) by unfold aSoonest; rw [gD_1 g0]; rfl]
    exact Cal.of rfl (by decide +kernel) (by simp) (Nat.le_of_ble_eq_true rfl) rfl (sX11_soonest_0 (Qn1 := fun _ _ => True) (mc1 := 5) (ms1 := 3077) hl0 w wL wl (by decide) (ndn c0 (fun n' hn => ⟨rfl, CI.thr hC0 hn⟩)) ⟨by decide, by decide⟩ (fun g => ndx c0 g) (fun g => ndx c0 g) (fun g => ndx c0 g))
theorem cheapest_p {x1 : Int32} {x2 : Int32} {x3 : Int32} (hl0 : l.stackTraces = false) (hC : CI (I, J, R, S, nx) (κ, ι, (τ, tm, tn), (t, tp), fk, fp)) (hs : sok hb pb κ) (hhb : hb < 2 ^ 28) : Cal l G (k + 6) 40 14000 mX11_cheapest [.ref 0, .int x1, .int x2, .int x3] (I, J, R, S, nx) (CQ (I, J, R, S, nx) (ansR [eNS, eIA] (aCheap κ x1 x2 x3)) (κ, ι, (τ, tm, tn), (t, tp), fk, fp)) := by
  have hC0 := hC
  obtain ⟨ow, L, dl, pl, ld, lp, hR, wL, hL, hN, hV, hP⟩ := hC
  have hR : CR I J R S nx ow ι τ tm tn t tp fk fp := hR
  have wL : R 14 0 = some L := wL
  have hL : LdC I R S nx ow L κ dl pl ld lp := hL
  have hN : CN I κ := hN
  have hV : PV I κ := hV
  have hP : PS I 30 31 κ := hP
  have w : CF R S nx := hR.1
  have wl : LW R S nx L dl pl ld lp := hL.1
  have h : CK I κ L dl pl ld lp := ⟨hN, hL.2.1, hV⟩
  have ho := hs.q
  have h1w : κ 1 ≤ 5 := ho.1
  have h2a : κ 2 ≤ 8 := ho.2.1
  have h54 : κ 54 ≤ hb := ho.2.2.2.2.2.2.2.2.2.2.1
  have e1 : I L 1 = nI (κ 1) := h.2.1.1.2.1
  have e2 : I L 2 = nI (κ 2) := h.2.1.1.2.2.1
  have k0 : nd_needDeed (I L 1) x1 x2 x3 = (if gL x2 (κ 1) then (if gR x1 0 9 ∧ gR x3 1 24 then none else some eIA) else some eNS) := (by rw [e1]; exact ndD (by omega))
  by_cases g0 : gL x2 (κ 1)
  · by_cases g1 : gR x1 0 9 ∧ gR x3 1 24
    · have c0 : nd_needDeed (I L 1) x1 x2 x3 = none := by rw [k0, if_pos g0, if_pos g1]
      rw [show aCheap κ x1 x2 x3 = (0, nI (qch (qcs κ (cN x1) (cN x2) (cN x3)) 200)) by unfold aCheap; rw [gD_0 g0 ⟨g1.1, by decide, g1.2⟩]; rfl]
      refine Cal.of rfl (by decide +kernel) (by simp) (Nat.le_of_ble_eq_true rfl) rfl (sX11_cheapest_0 (Qn1 := LzQ 7 (I, J, R, S, nx) (κ, ι, (τ, tm, tn), (t, tp), fk, fp)) (mc1 := 5) (ms1 := 3077) hl0 w wL wl (by decide) (ndy c0) ⟨by decide, by decide⟩ (fun _ => ?_) (fun _ => ?_) (fun _ => ?_))
      · exact ahead_c hC0
      · rintro r μ' ⟨I1, J1, R1, S1, n1, o, hr1, rfl, hk, hc, ho7⟩
        obtain rfl := Sum.inl.inj hr1
        obtain ⟨ow1, L1, dl1, pl1, ld1, lp1, hR1, wL1, hL1, hN1, hV1, hP1⟩ := hc
        have hO := hR1.2.2.2.2.1.1 o ho7
        have ap := Own.ap hO.2 (by decide) (by decide) hL1
        have h72 := hO.2.1
        have hO1 : o + 5 ≤ n1 := hO.1.1
        obtain ⟨a, rfl, _, ha, ea⟩ := g1.1.n (by omega)
        obtain ⟨b, rfl, hb2, eb⟩ := g0.n (by omega)
        obtain ⟨d, rfl, hd1, hd, ed⟩ := g1.2.n (by omega)
        rw [ea, eb, ed]
        refine sX11_cheapest_11 (u1 := nI (qch (qcs κ a b d) 200)) (P1 := fun I I' => Fr [27, 28, 29, o + 1, o + 2, o + 3] I I' ∧ CK I' κ L1 dl1 pl1 ld1 lp1) (by omega) hO.1.2.1 (cheapestIn_c hR1.1 wL1 hL1.1 ⟨hN1, hL1.2.1, hV1⟩ ho (by omega) hO.1 ap (by omega) (by omega) ⟨hd1, hd⟩) (fun I2 h2 => ?_)
        have st := CI.step hR1 wL1 hL1 (h2.1.wk (r2 := [27, 28, 29, o + 1, o + 2, o + 3, o + 4]) (by simp)) (scrO hO.2) h2.2 (hP1.fr h2.1 (by simp; omega) (by simp; omega))
        exact ⟨ok0 rfl, hk.trans st.1, st.2⟩
      · rintro E μ' ⟨I1, J1, R1, S1, n1, o, hr1, _⟩; cases hr1
    · have c0 : nd_needDeed (I L 1) x1 x2 x3 = some eIA := by rw [k0, if_pos g0, if_neg g1]
      rw [show aCheap κ x1 x2 x3 = (2, 0) by unfold aCheap; rw [gD_2 g0 (fun g => g1 ⟨g.1, g.2.2⟩)]; rfl]
      exact Cal.of rfl (by decide +kernel) (by simp) (Nat.le_of_ble_eq_true rfl) rfl (sX11_cheapest_0 (Qn1 := fun _ _ => True) (mc1 := 5) (ms1 := 3077) hl0 w wL wl (by decide) (ndn c0 (fun n' hn => ⟨rfl, CI.thr hC0 hn⟩)) ⟨by decide, by decide⟩ (fun g => ndx c0 g) (fun g => ndx c0 g) (fun g => ndx c0 g))
  · have c0 : nd_needDeed (I L 1) x1 x2 x3 = some eNS := by rw [k0, if_neg g0]
    rw [show aCheap κ x1 x2 x3 = (1, 0) by unfold aCheap; rw [gD_1 g0]; rfl]
    exact Cal.of rfl (by decide +kernel) (by simp) (Nat.le_of_ble_eq_true rfl) rfl (sX11_cheapest_0 (Qn1 := fun _ _ => True) (mc1 := 5) (ms1 := 3077) hl0 w wL wl (by decide) (ndn c0 (fun n' hn => ⟨rfl, CI.thr hC0 hn⟩)) ⟨by decide, by decide⟩ (fun g => ndx c0 g) (fun g => ndx c0 g) (fun g => ndx c0 g))
theorem leastHeat_p {x1 : Int32} {x2 : Int32} {x3 : Int32} (hl0 : l.stackTraces = false) (hC : CI (I, J, R, S, nx) (κ, ι, (τ, tm, tn), (t, tp), fk, fp)) (hs : sok hb pb κ) (hhb : hb < 2 ^ 28) : Cal l G (k + 5) 40 14000 mX11_leastHeat [.ref 0, .int x1, .int x2, .int x3] (I, J, R, S, nx) (CQ (I, J, R, S, nx) (ansR [eNS, eIA] (aLeast κ x1 x2 x3)) (κ, ι, (τ, tm, tn), (t, tp), fk, fp)) := by
  have hC0 := hC
  obtain ⟨ow, L, dl, pl, ld, lp, hR, wL, hL, hN, hV, hP⟩ := hC
  have hR : CR I J R S nx ow ι τ tm tn t tp fk fp := hR
  have wL : R 14 0 = some L := wL
  have hL : LdC I R S nx ow L κ dl pl ld lp := hL
  have hN : CN I κ := hN
  have hV : PV I κ := hV
  have hP : PS I 30 31 κ := hP
  have w : CF R S nx := hR.1
  have wl : LW R S nx L dl pl ld lp := hL.1
  have h : CK I κ L dl pl ld lp := ⟨hN, hL.2.1, hV⟩
  have ho := hs.q
  have h1w : κ 1 ≤ 5 := ho.1
  have h2a : κ 2 ≤ 8 := ho.2.1
  have h54 : κ 54 ≤ hb := ho.2.2.2.2.2.2.2.2.2.2.1
  have e1 : I L 1 = nI (κ 1) := h.2.1.1.2.1
  have e2 : I L 2 = nI (κ 2) := h.2.1.1.2.2.1
  have k0 : nd_needDeed (I L 1) x1 x2 x3 = (if gL x2 (κ 1) then (if gR x1 0 9 ∧ gR x3 1 24 then none else some eIA) else some eNS) := (by rw [e1]; exact ndD (by omega))
  by_cases g0 : gL x2 (κ 1)
  · by_cases g1 : gR x1 0 9 ∧ gR x3 1 24
    · have c0 : nd_needDeed (I L 1) x1 x2 x3 = none := by rw [k0, if_pos g0, if_pos g1]
      rw [show aLeast κ x1 x2 x3 = (0, jP (qlh (fun n => qheat κ (cN x1) (cN x2) n (qms κ (cN x3))) 201).1) by unfold aLeast; rw [gD_0 g0 ⟨g1.1, by decide, g1.2⟩]; rfl]
      refine Cal.of rfl (by decide +kernel) (by simp) (Nat.le_of_ble_eq_true rfl) rfl (sX11_leastHeat_0 (Qn1 := LzQ 7 (I, J, R, S, nx) (κ, ι, (τ, tm, tn), (t, tp), fk, fp)) (mc1 := 5) (ms1 := 3077) hl0 w wL wl (by decide) (ndy c0) ⟨by decide, by decide⟩ (fun _ => ?_) (fun _ => ?_) (fun _ => ?_))
      · exact ahead_c hC0
      · rintro r μ' ⟨I1, J1, R1, S1, n1, o, hr1, rfl, hk, hc, ho7⟩
        obtain rfl := Sum.inl.inj hr1
        obtain ⟨ow1, L1, dl1, pl1, ld1, lp1, hR1, wL1, hL1, hN1, hV1, hP1⟩ := hc
        have hO := hR1.2.2.2.2.1.1 o ho7
        have ap := Own.ap hO.2 (by decide) (by decide) hL1
        have h72 := hO.2.1
        have hO1 : o + 5 ≤ n1 := hO.1.1
        obtain ⟨a, rfl, _, ha, ea⟩ := g1.1.n (by omega)
        obtain ⟨b, rfl, hb2, eb⟩ := g0.n (by omega)
        obtain ⟨d, rfl, hd1, hd, ed⟩ := g1.2.n (by omega)
        rw [ea, eb, ed]
        refine sX11_leastHeat_11 (u1 := jP (qlh (fun n => qheat κ a b n (qms κ d)) 201).1) (P1 := fun I I' => Fr [27, 28, 29, o + 1, o + 2, o + 4] I I' ∧ CK I' κ L1 dl1 pl1 ld1 lp1) (by omega) hO.1.2.1 (leastHeated_c hR1.1 wL1 hL1.1 ⟨hN1, hL1.2.1, hV1⟩ ho (by omega) hO.1 ap (by omega) (by omega) ⟨hd1, hd⟩) (fun I2 h2 => ?_)
        have st := CI.step hR1 wL1 hL1 (h2.1.wk (r2 := [27, 28, 29, o + 1, o + 2, o + 3, o + 4]) (by simp)) (scrO hO.2) h2.2 (hP1.fr h2.1 (by simp; omega) (by simp; omega))
        exact ⟨ok0 rfl, hk.trans st.1, st.2⟩
      · rintro E μ' ⟨I1, J1, R1, S1, n1, o, hr1, _⟩; cases hr1
    · have c0 : nd_needDeed (I L 1) x1 x2 x3 = some eIA := by rw [k0, if_pos g0, if_neg g1]
      rw [show aLeast κ x1 x2 x3 = (2, 0) by unfold aLeast; rw [gD_2 g0 (fun g => g1 ⟨g.1, g.2.2⟩)]; rfl]
      exact Cal.of rfl (by decide +kernel) (by simp) (Nat.le_of_ble_eq_true rfl) rfl (sX11_leastHeat_0 (Qn1 := fun _ _ => True) (mc1 := 5) (ms1 := 3077) hl0 w wL wl (by decide) (ndn c0 (fun n' hn => ⟨rfl, CI.thr hC0 hn⟩)) ⟨by decide, by decide⟩ (fun g => ndx c0 g) (fun g => ndx c0 g) (fun g => ndx c0 g))
  · have c0 : nd_needDeed (I L 1) x1 x2 x3 = some eNS := by rw [k0, if_neg g0]
    rw [show aLeast κ x1 x2 x3 = (1, 0) by unfold aLeast; rw [gD_1 g0]; rfl]
    exact Cal.of rfl (by decide +kernel) (by simp) (Nat.le_of_ble_eq_true rfl) rfl (sX11_leastHeat_0 (Qn1 := fun _ _ => True) (mc1 := 5) (ms1 := 3077) hl0 w wL wl (by decide) (ndn c0 (fun n' hn => ⟨rfl, CI.thr hC0 hn⟩)) ⟨by decide, by decide⟩ (fun g => ndx c0 g) (fun g => ndx c0 g) (fun g => ndx c0 g))
theorem freeHours_p {x1 : Int32} {x2 : Int32} {x3 : Int32} (hl0 : l.stackTraces = false) (hC : CI (I, J, R, S, nx) (κ, ι, (τ, tm, tn), (t, tp), fk, fp)) (hs : sok hb pb κ) (hhb : hb < 2 ^ 28) : Cal l G (k + 6) 40 14000 mX11_freeHours [.ref 0, .int x1, .int x2, .int x3] (I, J, R, S, nx) (CQ (I, J, R, S, nx) (ansR [eNS, eIA] (aFreeH κ x1 x2 x3)) (κ, ι, (τ, tm, tn), (t, tp), fk, fp)) := by
  have hC0 := hC
  obtain ⟨ow, L, dl, pl, ld, lp, hR, wL, hL, hN, hV, hP⟩ := hC
  have hR : CR I J R S nx ow ι τ tm tn t tp fk fp := hR
  have wL : R 14 0 = some L := wL
  have hL : LdC I R S nx ow L κ dl pl ld lp := hL
  have hN : CN I κ := hN
  have hV : PV I κ := hV
  have hP : PS I 30 31 κ := hP
  have w : CF R S nx := hR.1
  have wl : LW R S nx L dl pl ld lp := hL.1
  have h : CK I κ L dl pl ld lp := ⟨hN, hL.2.1, hV⟩
  have ho := hs.q
  have h1w : κ 1 ≤ 5 := ho.1
  have h2a : κ 2 ≤ 8 := ho.2.1
  have h54 : κ 54 ≤ hb := ho.2.2.2.2.2.2.2.2.2.2.1
  have e1 : I L 1 = nI (κ 1) := h.2.1.1.2.1
  have e2 : I L 2 = nI (κ 2) := h.2.1.1.2.2.1
  have k0 : nd_needWard (I L 1) x2 = (if gL x2 (κ 1) then none else some eNS) := (by rw [e1]; exact ndW (by omega))
  have k1 : nd_needKind x1 = (if gR x1 0 9 then none else some eIA) := (ndI (a := 0) (b := 9) (by decide) (by decide))
  have k2 : nd_needWithin x3 (1 : Int32) (200 : Int32) = (if gR x3 1 200 then none else some eIA) := (ndI (a := 1) (b := 200) (by decide) (by decide))
  by_cases g0 : gL x2 (κ 1)
  · by_cases g1 : gR x1 0 9
    · by_cases g2 : gR x3 1 200
      · have c0 : nd_needWard (I L 1) x2 = none := by rw [k0, if_pos g0]
        have c1 : nd_needKind x1 = none := by rw [k1, if_pos g1]
        have c2 : nd_needWithin x3 (1 : Int32) (200 : Int32) = none := by rw [k2, if_pos g2]
        rw [show aFreeH κ x1 x2 x3 = (0, nI (fa_cnt (qfa κ (cN x1) (cN x2)) (cN x3))) by unfold aFreeH; rw [if_pos g0, if_pos ⟨g1, g2⟩]]
        refine Cal.of rfl (by decide +kernel) (by simp) (Nat.le_of_ble_eq_true rfl) rfl (sX11_freeHours_0 (Qn1 := LzQ 7 (I, J, R, S, nx) (κ, ι, (τ, tm, tn), (t, tp), fk, fp)) (mc1 := 5) (ms1 := 3077) hl0 w wL wl (by decide) (ndy c0) (by decide) (fun _ => ndy c1) (by decide) (fun _ _ => ndy c2) ⟨by decide, by decide⟩ (fun _ _ _ => ?_) (fun _ _ _ => ?_) (fun _ _ _ => ?_))
        · exact ahead_c hC0
        · rintro r μ' ⟨I1, J1, R1, S1, n1, o, hr1, rfl, hk, hc, ho7⟩
          obtain rfl := Sum.inl.inj hr1
          obtain ⟨ow1, L1, dl1, pl1, ld1, lp1, hR1, wL1, hL1, hN1, hV1, hP1⟩ := hc
          have hO := hR1.2.2.2.2.1.1 o ho7
          have ap := Own.ap hO.2 (by decide) (by decide) hL1
          have h72 := hO.2.1
          have hO1 : o + 5 ≤ n1 := hO.1.1
          obtain ⟨a, rfl, _, ha, ea⟩ := g1.n (by omega)
          obtain ⟨b, rfl, hb2, eb⟩ := g0.n (by omega)
          obtain ⟨c, rfl, _, hc2, ec⟩ := g2.n (by omega)
          rw [ea, eb, ec]
          refine sX11_freeHours_21 (u1 := nI (fa_cnt (qfa κ a b) c)) (P1 := fun I I' => Fr [27, 28, 29, o + 1, o + 2] I I' ∧ CK I' κ L1 dl1 pl1 ld1 lp1) (by omega) hO.1.2.1 (manyFree_c hR1.1 wL1 hL1.1 ⟨hN1, hL1.2.1, hV1⟩ ho (by omega) hO.1 ap (by omega) (by omega) (by omega)) (fun I2 h2 => ?_)
          have st := CI.step hR1 wL1 hL1 (h2.1.wk (r2 := [27, 28, 29, o + 1, o + 2, o + 3, o + 4]) (by simp)) (scrO hO.2) h2.2 (hP1.fr h2.1 (by simp; omega) (by simp; omega))
          exact ⟨ok0 rfl, hk.trans st.1, st.2⟩
        · rintro E μ' ⟨I1, J1, R1, S1, n1, o, hr1, _⟩; cases hr1
      · have c0 : nd_needWard (I L 1) x2 = none := by rw [k0, if_pos g0]
        have c1 : nd_needKind x1 = none := by rw [k1, if_pos g1]
        have c2 : nd_needWithin x3 (1 : Int32) (200 : Int32) = some eIA := by rw [k2, if_neg g2]
        rw [show aFreeH κ x1 x2 x3 = (2, 0) by unfold aFreeH; rw [if_pos g0, if_neg (fun g => g2 g.2)]]
        exact Cal.of rfl (by decide +kernel) (by simp) (Nat.le_of_ble_eq_true rfl) rfl (sX11_freeHours_0 (Qn1 := fun _ _ => True) (mc1 := 5) (ms1 := 3077) hl0 w wL wl (by decide) (ndy c0) (by decide) (fun _ => ndy c1) (by decide) (fun _ _ => ndn c2 (fun n' hn => ⟨rfl, CI.thr hC0 hn⟩)) ⟨by decide, by decide⟩ (fun _ _ g => ndx c2 g) (fun _ _ g => ndx c2 g) (fun _ _ g => ndx c2 g))
    · have c0 : nd_needWard (I L 1) x2 = none := by rw [k0, if_pos g0]
      have c1 : nd_needKind x1 = some eIA := by rw [k1, if_neg g1]
      rw [show aFreeH κ x1 x2 x3 = (2, 0) by unfold aFreeH; rw [if_pos g0, if_neg (fun g => g1 g.1)]]
      exact Cal.of rfl (by decide +kernel) (by simp) (Nat.le_of_ble_eq_true rfl) rfl (sX11_freeHours_0 (Qn1 := fun _ _ => True) (mc1 := 5) (ms1 := 3077) hl0 w wL wl (by decide) (ndy c0) (by decide) (fun _ => ndn c1 (fun n' hn => ⟨rfl, CI.thr hC0 hn⟩)) (by decide) (fun _ g => ndx c1 g) ⟨by decide, by decide⟩ (fun _ g => ndx c1 g) (fun _ g => ndx c1 g) (fun _ g => ndx c1 g))
  · have c0 : nd_needWard (I L 1) x2 = some eNS := by rw [k0, if_neg g0]
    rw [show aFreeH κ x1 x2 x3 = (1, 0) by unfold aFreeH; rw [if_neg g0]]
    exact Cal.of rfl (by decide +kernel) (by simp) (Nat.le_of_ble_eq_true rfl) rfl (sX11_freeHours_0 (Qn1 := fun _ _ => True) (mc1 := 5) (ms1 := 3077) hl0 w wL wl (by decide) (ndn c0 (fun n' hn => ⟨rfl, CI.thr hC0 hn⟩)) (by decide) (fun g => ndx c0 g) (by decide) (fun g => ndx c0 g) ⟨by decide, by decide⟩ (fun g => ndx c0 g) (fun g => ndx c0 g) (fun g => ndx c0 g))
theorem heaviest_p {x1 : Int32} (hl0 : l.stackTraces = false) (hC : CI (I, J, R, S, nx) (κ, ι, (τ, tm, tn), (t, tp), fk, fp)) (hs : sok hb pb κ) (hhb : hb < 2 ^ 28) : Cal l G (k + 5) 40 14000 mX11_heaviest [.ref 0, .int x1] (I, J, R, S, nx) (CQ (I, J, R, S, nx) (ansR [eNS] (aHeavy κ x1)) (κ, ι, (τ, tm, tn), (t, tp), fk, fp)) := by
  have hC0 := hC
  obtain ⟨ow, L, dl, pl, ld, lp, hR, wL, hL, hN, hV, hP⟩ := hC
  have hR : CR I J R S nx ow ι τ tm tn t tp fk fp := hR
  have wL : R 14 0 = some L := wL
  have hL : LdC I R S nx ow L κ dl pl ld lp := hL
  have hN : CN I κ := hN
  have hV : PV I κ := hV
  have hP : PS I 30 31 κ := hP
  have w : CF R S nx := hR.1
  have wl : LW R S nx L dl pl ld lp := hL.1
  have h : CK I κ L dl pl ld lp := ⟨hN, hL.2.1, hV⟩
  have ho := hs.q
  have h1w : κ 1 ≤ 5 := ho.1
  have h2a : κ 2 ≤ 8 := ho.2.1
  have h54 : κ 54 ≤ hb := ho.2.2.2.2.2.2.2.2.2.2.1
  have e1 : I L 1 = nI (κ 1) := h.2.1.1.2.1
  have e2 : I L 2 = nI (κ 2) := h.2.1.1.2.2.1
  have k0 : nd_needWard (I L 1) x1 = (if gL x1 (κ 1) then none else some eNS) := (by rw [e1]; exact ndW (by omega))
  by_cases g0 : gL x1 (κ 1)
  · have c0 : nd_needWard (I L 1) x1 = none := by rw [k0, if_pos g0]
    rw [show aHeavy κ x1 = (0, jP (qhv (qall κ) (qfew κ (cN x1)) (κ 2)).1) by unfold aHeavy; rw [if_pos g0]]
    refine Cal.of rfl (by decide +kernel) (by simp) (Nat.le_of_ble_eq_true rfl) rfl (sX11_heaviest_0 (Qn1 := LzQ 7 (I, J, R, S, nx) (κ, ι, (τ, tm, tn), (t, tp), fk, fp)) (mc1 := 5) (ms1 := 3077) hl0 w wL wl (by decide) (ndy c0) ⟨by decide, by decide⟩ (fun _ => ?_) (fun _ => ?_) (fun _ => ?_))
    · exact ahead_c hC0
    · rintro r μ' ⟨I1, J1, R1, S1, n1, o, hr1, rfl, hk, hc, ho7⟩
      obtain rfl := Sum.inl.inj hr1
      obtain ⟨ow1, L1, dl1, pl1, ld1, lp1, hR1, wL1, hL1, hN1, hV1, hP1⟩ := hc
      have hO := hR1.2.2.2.2.1.1 o ho7
      have ap := Own.ap hO.2 (by decide) (by decide) hL1
      have h72 := hO.2.1
      have hO1 : o + 5 ≤ n1 := hO.1.1
      obtain ⟨b, rfl, hb2, eb⟩ := g0.n (by omega)
      rw [eb]
      refine sX11_heaviest_9 (u1 := jP (qhv (qall κ) (qfew κ b) (κ 2)).1) (P1 := fun I I' => Fr [27, 28, 29, o + 1] I I' ∧ CK I' κ L1 dl1 pl1 ld1 lp1) (by omega) hO.1.2.1 (heaviestIn_c hR1.1 wL1 hL1.1 ⟨hN1, hL1.2.1, hV1⟩ ho (by omega) hO.1 ap (by omega)) (fun I2 h2 => ?_)
      have st := CI.step hR1 wL1 hL1 (h2.1.wk (r2 := [27, 28, 29, o + 1, o + 2, o + 3, o + 4]) (by simp)) (scrO hO.2) h2.2 (hP1.fr h2.1 (by simp; omega) (by simp; omega))
      exact ⟨ok0 rfl, hk.trans st.1, st.2⟩
    · rintro E μ' ⟨I1, J1, R1, S1, n1, o, hr1, _⟩; cases hr1
  · have c0 : nd_needWard (I L 1) x1 = some eNS := by rw [k0, if_neg g0]
    rw [show aHeavy κ x1 = (1, 0) by unfold aHeavy; rw [if_neg g0]]
    exact Cal.of rfl (by decide +kernel) (by simp) (Nat.le_of_ble_eq_true rfl) rfl (sX11_heaviest_0 (Qn1 := fun _ _ => True) (mc1 := 5) (ms1 := 3077) hl0 w wL wl (by decide) (ndn c0 (fun n' hn => ⟨rfl, CI.thr hC0 hn⟩)) ⟨by decide, by decide⟩ (fun g => ndx c0 g) (fun g => ndx c0 g) (fun g => ndx c0 g))
end A
