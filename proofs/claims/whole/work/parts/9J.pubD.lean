/-! the class: ways -/
section A
variable {l : Launch} {G : Gh} {k : Nat} {I : Nat → Nat → Int32} {J : Nat → Nat → Int64} {R : Nat → Nat → Option Nat} {S : Nat → Nat × Nat} {nx : Nat} {κ : Nat → Nat} {hb pb : Nat}
variable {ι : Nat → Option (Nat → Nat)} {τ tm : Nat → Nat} {tn : Nat → Nat → Int64} {tp : Nat} {fk fp : Int32} {t : Nat → Nat} {ow : Nat → Nat} {L dl pl ld lp : Nat}
theorem CI.scr {rs : List Nat} {I' : Nat → Nat → Int32} {J' : Nat → Nat → Int64} (hR : CR I J R S nx ow ι τ tm tn t tp fk fp) (wL : R 14 0 = some L) (hL : LdC I R S nx ow L κ dl pl ld lp) (hN : CN I κ) (hV : PV I κ) (hP : PS I 30 31 κ) (hF : Fr rs I I') (hr : ∀ a ∈ rs, Scr ow a) (h25 : 25 ∉ rs) (h29 : 29 ∉ rs) (h30 : 30 ∉ rs) (h31 : 31 ∉ rs) (hJ : ∀ a, a < 72 → J' a = J a) : KF (I, J, R, S, nx) (I', J', R, S, nx) ∧ CI (I', J', R, S, nx) (κ, ι, (τ, tm, tn), (t, tp), fk, fp) := by
  have hR' := hR.fr hF hr
  refine ⟨⟨Nat.le_refl _, fun a h1 h2 => ⟨hF a (fun g => by rcases hr _ g with q | q <;> omega), hJ a h2, rfl, rfl⟩⟩, ow, L, dl, pl, ld, lp, ⟨hR'.1, fun q hq => ?_, hR'.2.2⟩, wL, hL.fr hF hr, hN.fr hF h25, hV.fr hF h29, hP.fr hF h30 h31⟩
  have e : J' (36 + 2 * q) = J (36 + 2 * q) := hJ _ (by omega)
  show _ ∧ _ ∧ _ ∧ ∀ i, i < 30 → J' (36 + 2 * q) i = tn q i
  rw [e]; exact hR'.2.1 q hq
theorem scrB {n id : Nat} {o : Nat} (h : Own ow o n id) (hi : 1 ≤ id ∧ id ≤ 4) {rs : List Nat} (hr : ∀ a ∈ rs, (a = 27 ∨ a = 28 ∨ a = 29) ∨ (o ≤ a ∧ a < o + n)) : ∀ a ∈ rs, Scr ow a := by
  intro a ha
  rcases hr a ha with q | q
  · exact Or.inl (by omega)
  · have := h.2 (a - o) (by omega)
    rw [show o + (a - o) = a by omega] at this
    exact Or.inr ⟨by have := h.1; omega, by omega, by omega⟩
theorem gY_0 {x1 x2 x3 : Int32} (h1 : gL x2 (κ 1) ∧ gL x3 (κ 1)) (h2 : gR x1 0 9) : gY κ x1 x2 x3 = 0 := by unfold gY; rw [if_pos h1, if_pos h2]
theorem gY_1 {x1 x2 x3 : Int32} (h1 : ¬ (gL x2 (κ 1) ∧ gL x3 (κ 1))) : gY κ x1 x2 x3 = 1 := by unfold gY; rw [if_neg h1]
theorem gY_2 {x1 x2 x3 : Int32} (h1 : gL x2 (κ 1) ∧ gL x3 (κ 1)) (h2 : ¬ gR x1 0 9) : gY κ x1 x2 x3 = 2 := by unfold gY; rw [if_pos h1, if_neg h2]
def WaQ (kd n : Nat) (μ : Mem) (st : St) : Res → Mem → Prop := fun r μ' => ∃ (I' : Nat → Nat → Int32) (J' : Nat → Nat → Int64) (R' : Nat → Nat → Option Nat) (S' : Nat → Nat × Nat) (n' o : Nat), r = .inl (some (.ref o)) ∧ μ' = (I', J', R', S', n') ∧ KF μ (I', J', R', S', n') ∧ CI (I', J', R', S', n') st ∧ R' 0 8 = some o ∧ WD I' st.1 o kd n
theorem waysOf_c {kd n : Nat} (hl0 : l.stackTraces = false) (hC : CI (I, J, R, S, nx) (κ, ι, (τ, tm, tn), (t, tp), fk, fp)) (hs : sok hb pb κ) (hhb : hb < 2 ^ 28) (hk : kd < 10) (hn : n ≤ 60) : Cal l G (k + 4) 8 455 mX11_waysOf [.ref 0, .int (nI kd), .int (nI n)] (I, J, R, S, nx) (WaQ kd n (I, J, R, S, nx) (κ, ι, (τ, tm, tn), (t, tp), fk, fp)) := by
  refine Cal.of rfl (by decide +kernel) (by simp) (Nat.le_of_ble_eq_true rfl) rfl (lz_ways (k := k + 3) hC (Nat.le_refl 8) (Nat.le_refl 455) (fun I' J' R' S' n' o h1 h2 h3 => ?_))
  obtain ⟨ow, L, dl, pl, ld, lp, hR, wL, hL, hN, hV, hP⟩ := h2
  have w : CF R' S' n' := hR.1
  have hO := hR.2.2.2.2.1.2.1 o h3
  have hO1 : o + 8 ≤ n' := hO.1.1
  have h72 := hO.2.1
  have ap := Own.ap hO.2 (by decide) (by decide) hL
  refine wp_aload_n (q := 23) dX11_waysOf_22 rfl rfl rfl (wp_getR (q := 26) dX11_waysOf_23 rfl fl_RX11_54 rfl (cf_n w (by decide)) (cf_o w (q := (0, 11)) (by decide)) h3 (wp_iload_n (q := 27) dX11_waysOf_26 rfl rfl rfl (wp_iload_n (q := 28) dX11_waysOf_27 rfl rfl rfl (wp_bV (q := 31) (As := [.int (nI kd), .int (nI n)]) (v := .null) (P := fun I2 => Fr [27, 28, 29, o + 1, o + 2] I' I2 ∧ CK I2 κ L dl pl ld lp ∧ WD I2 κ o kd n) dX11_waysOf_28 rfl rfl ok_X10_layOut ml_RX11_303 im_X10_layOut se_X10_layOut (t := 10) (by decide) ⟨_, rfl, rfl⟩ (by omega) hO.1.2.1 rfl rfl (Nat.le_of_ble_eq_true rfl) (layOut_w w wL hL.1 ⟨hN, hL.2.1, hV⟩ hs.q (by omega) hO.1 ap hk hn) (fun I2 h2 => ?_)))))
  have st := CI.step hR wL hL h2.1 (scrB hO.2 (by decide) (by simp <;> omega)) h2.2.1 (hP.fr h2.1 (by simp <;> omega) (by simp <;> omega))
  exact wp_aload_n (q := 32) dX11_waysOf_31 rfl rfl rfl (wp_getR (q := 35) dX11_waysOf_32 rfl fl_RX11_54 rfl (cf_n w (by decide)) (cf_o w (q := (0, 11)) (by decide)) h3 (wp_areturn dX11_waysOf_35 rfl (Or.inl ⟨_, rfl⟩) ⟨I2, J', R', S', n', o, rfl, rfl, h1.trans st.1, st.2, h3, h2.2.2⟩))
theorem freeWay_p {x1 : Int32} {x2 : Int32} {x3 : Int32} (hl0 : l.stackTraces = false) (hC : CI (I, J, R, S, nx) (κ, ι, (τ, tm, tn), (t, tp), fk, fp)) (hs : sok hb pb κ) (hhb : hb < 2 ^ 28) : Cal l G (k + 5) 40 14000 mX11_freeWay [.ref 0, .int x1, .int x2, .int x3] (I, J, R, S, nx) (CQ (I, J, R, S, nx) (ansR [eNS, eIA] (aFreeWay κ x1 x2 x3)) (κ, ι, (τ, tm, tn), (t, tp), fk, fp)) := by
  have hC0 := hC
  obtain ⟨ow, L, dl, pl, ld, lp, hR, wL, hL, hN, hV, hP⟩ := hC
  have hR : CR I J R S nx ow ι τ tm tn t tp fk fp := hR
  have wL : R 14 0 = some L := wL
  have hL : LdC I R S nx ow L κ dl pl ld lp := hL
  have hN : CN I κ := hN
  have hV : PV I κ := hV
  have hP : PS I 30 31 κ := hP
  have w : CF R S nx := hR.1
  have wl : LW R S nx L dl pl ld lp := hL.1
  have h : CK I κ L dl pl ld lp := ⟨hN, hL.2.1, hV⟩
  have ho := hs.q
  have h1w : κ 1 ≤ 5 := ho.1
  have h2a : κ 2 ≤ 8 := ho.2.1
  have h54 : κ 54 ≤ hb := ho.2.2.2.2.2.2.2.2.2.2.1
  have e1 : I L 1 = nI (κ 1) := h.2.1.1.2.1
  have e2 : I L 2 = nI (κ 2) := h.2.1.1.2.2.1
  have k0 : nd_needWay (I L 1) x1 x2 x3 = (if gL x2 (κ 1) ∧ gL x3 (κ 1) then (if gR x1 0 9 then none else some eIA) else some eNS) := (by rw [e1]; exact ndY (by omega))
  by_cases g0 : gL x2 (κ 1) ∧ gL x3 (κ 1)
  · by_cases g1 : gR x1 0 9
    · have c0 : nd_needWay (I L 1) x1 x2 x3 = none := by rw [k0, if_pos g0, if_pos g1]
      rw [show aFreeWay κ x1 x2 x3 = (0, jP (qway κ (cN x1) (cN x2) (cN x3) none)) by unfold aFreeWay; rw [gY_0 g0 g1]; rfl]
      refine Cal.of rfl (by decide +kernel) (by simp) (Nat.le_of_ble_eq_true rfl) rfl (sX11_freeWay_0 (Qn1 := WaQ (cN x1) 60 (I, J, R, S, nx) (κ, ι, (τ, tm, tn), (t, tp), fk, fp)) (mc1 := 8) (ms1 := 455) hl0 w wL wl (by decide) (ndy c0) ⟨by decide, by decide⟩ (fun _ => ?_) (fun _ => ?_) (fun _ => ?_))
      · obtain ⟨a, rfl, _, ha, ea⟩ := g1.n (by omega)
        obtain ⟨b, rfl, hb2, eb⟩ := g0.1.n (by omega)
        obtain ⟨c, rfl, hc2, ec⟩ := g0.2.n (by omega)
        rw [ea]
        exact waysOf_c hl0 hC0 hs hhb (by omega) (by decide)
      · rintro r μ' ⟨I1, J1, R1, S1, n1, o, hr1, rfl, hk, hc, ho8, hWD⟩
        obtain rfl := Sum.inl.inj hr1
        have hc1 := hc
        obtain ⟨ow1, L1, dl1, pl1, ld1, lp1, hR1, wL1, hL1, hN1, hV1, hP1⟩ := hc
        have hO := hR1.2.2.2.2.1.2.1 o ho8
        have ap := Own.ap hO.2 (by decide) (by decide) hL1
        have h72 := hO.2.1
        have hO1 : o + 8 ≤ n1 := hO.1.1
        obtain ⟨a, rfl, _, ha, ea⟩ := g1.n (by omega)
        obtain ⟨b, rfl, hb2, eb⟩ := g0.1.n (by omega)
        obtain ⟨c, rfl, hc2, ec⟩ := g0.2.n (by omega)
        rw [ea] at hWD
        rw [ea, eb, ec]
        refine sX11_freeWay_14 (u1 := jP (qway κ a b c none)) (P1 := fun I I' => I' = I) (by omega) hO.1.2.1 (soonestFree_w (sh := none) hR1.1 wL1 hL1.1 ⟨hN1, hL1.2.1, hV1⟩ ho (by omega) hO.1 ap (by omega) (by omega) (by simp) hWD) (fun I2 h2 => ?_)
        subst h2
        exact ⟨ok0 rfl, hk, hc1⟩
      · rintro E μ' ⟨I1, J1, R1, S1, n1, o, hr1, _⟩; cases hr1
    · have c0 : nd_needWay (I L 1) x1 x2 x3 = some eIA := by rw [k0, if_pos g0, if_neg g1]
      rw [show aFreeWay κ x1 x2 x3 = (2, 0) by unfold aFreeWay; rw [gY_2 g0 g1]; rfl]
      exact Cal.of rfl (by decide +kernel) (by simp) (Nat.le_of_ble_eq_true rfl) rfl (sX11_freeWay_0 (Qn1 := fun _ _ => True) (mc1 := 8) (ms1 := 455) hl0 w wL wl (by decide) (ndn c0 (fun n' hn => ⟨rfl, CI.thr hC0 hn⟩)) ⟨by decide, by decide⟩ (fun g => ndx c0 g) (fun g => ndx c0 g) (fun g => ndx c0 g))
  · have c0 : nd_needWay (I L 1) x1 x2 x3 = some eNS := by rw [k0, if_neg g0]
    rw [show aFreeWay κ x1 x2 x3 = (1, 0) by unfold aFreeWay; rw [gY_1 g0]; rfl]
    exact Cal.of rfl (by decide +kernel) (by simp) (Nat.le_of_ble_eq_true rfl) rfl (sX11_freeWay_0 (Qn1 := fun _ _ => True) (mc1 := 8) (ms1 := 455) hl0 w wL wl (by decide) (ndn c0 (fun n' hn => ⟨rfl, CI.thr hC0 hn⟩)) ⟨by decide, by decide⟩ (fun g => ndx c0 g) (fun g => ndx c0 g) (fun g => ndx c0 g))
theorem freeAt_p {x1 : Int32} {x2 : Int32} {x3 : Int32} {x4 : Int32} (hl0 : l.stackTraces = false) (hC : CI (I, J, R, S, nx) (κ, ι, (τ, tm, tn), (t, tp), fk, fp)) (hs : sok hb pb κ) (hhb : hb < 2 ^ 28) : Cal l G (k + 5) 40 14000 mX11_freeAt [.ref 0, .int x1, .int x2, .int x3, .int x4] (I, J, R, S, nx) (CQ (I, J, R, S, nx) (ansR [eNS, eIA] (aFreeAt κ x1 x2 x3 x4)) (κ, ι, (τ, tm, tn), (t, tp), fk, fp)) := by
  have hC0 := hC
  obtain ⟨ow, L, dl, pl, ld, lp, hR, wL, hL, hN, hV, hP⟩ := hC
  have hR : CR I J R S nx ow ι τ tm tn t tp fk fp := hR
  have wL : R 14 0 = some L := wL
  have hL : LdC I R S nx ow L κ dl pl ld lp := hL
  have hN : CN I κ := hN
  have hV : PV I κ := hV
  have hP : PS I 30 31 κ := hP
  have w : CF R S nx := hR.1
  have wl : LW R S nx L dl pl ld lp := hL.1
  have h : CK I κ L dl pl ld lp := ⟨hN, hL.2.1, hV⟩
  have ho := hs.q
  have h1w : κ 1 ≤ 5 := ho.1
  have h2a : κ 2 ≤ 8 := ho.2.1
  have h54 : κ 54 ≤ hb := ho.2.2.2.2.2.2.2.2.2.2.1
  have e1 : I L 1 = nI (κ 1) := h.2.1.1.2.1
  have e2 : I L 2 = nI (κ 2) := h.2.1.1.2.2.1
  have k0 : nd_needWay (I L 1) x1 x2 x3 = (if gL x2 (κ 1) ∧ gL x3 (κ 1) then (if gR x1 0 9 then none else some eIA) else some eNS) := (by rw [e1]; exact ndY (by omega))
  have k1 : nd_needNotBelowZero x4 = (if 0 ≤ Int32.toInt x4 then none else some eIA) := rfl
  by_cases g0 : gL x2 (κ 1) ∧ gL x3 (κ 1)
  · by_cases g1 : gR x1 0 9
    · by_cases g2 : 0 ≤ Int32.toInt x4
      · have c0 : nd_needWay (I L 1) x1 x2 x3 = none := by rw [k0, if_pos g0, if_pos g1]
        have c1 : nd_needNotBelowZero x4 = none := by rw [k1, if_pos g2]
        rw [show aFreeAt κ x1 x2 x3 x4 = (0, jP (qat κ (cN x1) (cN x2) (cN x3) (cN x4))) by unfold aFreeAt; rw [gY_0 g0 g1]; exact (if_pos rfl).trans (if_pos (by rw [toI_le]; exact g2))]
        refine Cal.of rfl (by decide +kernel) (by simp) (Nat.le_of_ble_eq_true rfl) rfl (sX11_freeAt_0 (Qn1 := WaQ (cN x1) 60 (I, J, R, S, nx) (κ, ι, (τ, tm, tn), (t, tp), fk, fp)) (mc1 := 8) (ms1 := 455) hl0 w wL wl (by decide) (ndy c0) (by decide) (fun _ => ndy c1) ⟨by decide, by decide⟩ (fun _ _ => ?_) (fun _ _ => ?_) (fun _ _ => ?_))
        · obtain ⟨a, rfl, _, ha, ea⟩ := g1.n (by omega)
          obtain ⟨b, rfl, hb2, eb⟩ := g0.1.n (by omega)
          obtain ⟨c, rfl, hc2, ec⟩ := g0.2.n (by omega)
          obtain ⟨d, rfl, hd⟩ : ∃ d, x4 = nI d ∧ d < 2 ^ 31 := by
            obtain ⟨j, q1, q2⟩ := nI_of (x := x4) (fun hc => by have := (fa_lt _ _).mp hc; rw [show (0 : Int32).toInt = 0 by decide] at this; omega)
            exact ⟨j, q2, q1⟩
          have ed : cN (nI d) = d := nI_clamp hd
          rw [ea]
          exact waysOf_c hl0 hC0 hs hhb (by omega) (by decide)
        · rintro r μ' ⟨I1, J1, R1, S1, n1, o, hr1, rfl, hk, hc, ho8, hWD⟩
          obtain rfl := Sum.inl.inj hr1
          have hc1 := hc
          obtain ⟨ow1, L1, dl1, pl1, ld1, lp1, hR1, wL1, hL1, hN1, hV1, hP1⟩ := hc
          have hO := hR1.2.2.2.2.1.2.1 o ho8
          have ap := Own.ap hO.2 (by decide) (by decide) hL1
          have h72 := hO.2.1
          have hO1 : o + 8 ≤ n1 := hO.1.1
          obtain ⟨a, rfl, _, ha, ea⟩ := g1.n (by omega)
          obtain ⟨b, rfl, hb2, eb⟩ := g0.1.n (by omega)
          obtain ⟨c, rfl, hc2, ec⟩ := g0.2.n (by omega)
          obtain ⟨d, rfl, hd⟩ : ∃ d, x4 = nI d ∧ d < 2 ^ 31 := by
            obtain ⟨j, q1, q2⟩ := nI_of (x := x4) (fun hc => by have := (fa_lt _ _).mp hc; rw [show (0 : Int32).toInt = 0 by decide] at this; omega)
            exact ⟨j, q2, q1⟩
          have ed : cN (nI d) = d := nI_clamp hd
          rw [ea] at hWD
          rw [ea, eb, ec, ed]
          refine sX11_freeAt_19 (u1 := jP (qat κ a b c d)) (P1 := fun I I' => Fr [o + 3] I I') (by omega) hO.1.2.1 (wardOnFirst_w hR1.1 wL1 hL1.1 ⟨hN1, hL1.2.1, hV1⟩ ho (by omega) hO.1 ap hs.1 (by omega) (by omega) hd hWD) (fun I2 h2 => ?_)
          have st := CI.scr hR1 wL1 hL1 hN1 hV1 hP1 h2 (scrB hO.2 (by decide) (by simp <;> omega)) (by simp <;> omega) (by simp <;> omega) (by simp <;> omega) (by simp <;> omega) (fun _ _ => rfl)
          exact ⟨ok0 rfl, hk.trans st.1, st.2⟩
        · rintro E μ' ⟨I1, J1, R1, S1, n1, o, hr1, _⟩; cases hr1
      · have c0 : nd_needWay (I L 1) x1 x2 x3 = none := by rw [k0, if_pos g0, if_pos g1]
        have c1 : nd_needNotBelowZero x4 = some eIA := by rw [k1, if_neg g2]
        rw [show aFreeAt κ x1 x2 x3 x4 = (2, 0) by unfold aFreeAt; rw [gY_0 g0 g1]; exact (if_pos rfl).trans (if_neg (by rw [toI_le]; exact g2))]
        exact Cal.of rfl (by decide +kernel) (by simp) (Nat.le_of_ble_eq_true rfl) rfl (sX11_freeAt_0 (Qn1 := fun _ _ => True) (mc1 := 8) (ms1 := 455) hl0 w wL wl (by decide) (ndy c0) (by decide) (fun _ => ndn c1 (fun n' hn => ⟨rfl, CI.thr hC0 hn⟩)) ⟨by decide, by decide⟩ (fun _ g => ndx c1 g) (fun _ g => ndx c1 g) (fun _ g => ndx c1 g))
    · have c0 : nd_needWay (I L 1) x1 x2 x3 = some eIA := by rw [k0, if_pos g0, if_neg g1]
      rw [show aFreeAt κ x1 x2 x3 x4 = (2, 0) by unfold aFreeAt; rw [gY_2 g0 g1]; rfl]
      exact Cal.of rfl (by decide +kernel) (by simp) (Nat.le_of_ble_eq_true rfl) rfl (sX11_freeAt_0 (Qn1 := fun _ _ => True) (mc1 := 8) (ms1 := 455) hl0 w wL wl (by decide) (ndn c0 (fun n' hn => ⟨rfl, CI.thr hC0 hn⟩)) (by decide) (fun g => ndx c0 g) ⟨by decide, by decide⟩ (fun g => ndx c0 g) (fun g => ndx c0 g) (fun g => ndx c0 g))
  · have c0 : nd_needWay (I L 1) x1 x2 x3 = some eNS := by rw [k0, if_neg g0]
    rw [show aFreeAt κ x1 x2 x3 x4 = (1, 0) by unfold aFreeAt; rw [gY_1 g0]; rfl]
    exact Cal.of rfl (by decide +kernel) (by simp) (Nat.le_of_ble_eq_true rfl) rfl (sX11_freeAt_0 (Qn1 := fun _ _ => True) (mc1 := 8) (ms1 := 455) hl0 w wL wl (by decide) (ndn c0 (fun n' hn => ⟨rfl, CI.thr hC0 hn⟩)) (by decide) (fun g => ndx c0 g) ⟨by decide, by decide⟩ (fun g => ndx c0 g) (fun g => ndx c0 g) (fun g => ndx c0 g))
theorem wayFine_p {x1 : Int32} {x2 : Int32} {x3 : Int32} {x4 : Int32} (hl0 : l.stackTraces = false) (hC : CI (I, J, R, S, nx) (κ, ι, (τ, tm, tn), (t, tp), fk, fp)) (hs : sok hb pb κ) (hhb : hb < 2 ^ 28) : Cal l G (k + 5) 40 14000 mX11_wayFine [.ref 0, .int x1, .int x2, .int x3, .int x4] (I, J, R, S, nx) (CQ (I, J, R, S, nx) (ansR [eNS, eIA] (aWayFine κ x1 x2 x3 x4)) (κ, ι, (τ, tm, tn), (t, tp), fk, fp)) := by
  have hC0 := hC
  obtain ⟨ow, L, dl, pl, ld, lp, hR, wL, hL, hN, hV, hP⟩ := hC
  have hR : CR I J R S nx ow ι τ tm tn t tp fk fp := hR
  have wL : R 14 0 = some L := wL
  have hL : LdC I R S nx ow L κ dl pl ld lp := hL
  have hN : CN I κ := hN
  have hV : PV I κ := hV
  have hP : PS I 30 31 κ := hP
  have w : CF R S nx := hR.1
  have wl : LW R S nx L dl pl ld lp := hL.1
  have h : CK I κ L dl pl ld lp := ⟨hN, hL.2.1, hV⟩
  have ho := hs.q
  have h1w : κ 1 ≤ 5 := ho.1
  have h2a : κ 2 ≤ 8 := ho.2.1
  have h54 : κ 54 ≤ hb := ho.2.2.2.2.2.2.2.2.2.2.1
  have e1 : I L 1 = nI (κ 1) := h.2.1.1.2.1
  have e2 : I L 2 = nI (κ 2) := h.2.1.1.2.2.1
  have k0 : nd_needWay (I L 1) x1 x2 x3 = (if gL x2 (κ 1) ∧ gL x3 (κ 1) then (if gR x1 0 9 then none else some eIA) else some eNS) := (by rw [e1]; exact ndY (by omega))
  have k1 : nd_needWithin x4 (0 : Int32) (60 : Int32) = (if gR x4 0 60 then none else some eIA) := (ndI (a := 0) (b := 60) (by decide) (by decide))
  by_cases g0 : gL x2 (κ 1) ∧ gL x3 (κ 1)
  · by_cases g1 : gR x1 0 9
    · by_cases g2 : gR x4 0 60
      · have c0 : nd_needWay (I L 1) x1 x2 x3 = none := by rw [k0, if_pos g0, if_pos g1]
        have c1 : nd_needWithin x4 (0 : Int32) (60 : Int32) = none := by rw [k1, if_pos g2]
        rw [show aWayFine κ x1 x2 x3 x4 = (0, wAns (qle κ (cN x1) (cN x2) (cN x4) (cN x3))) by unfold aWayFine; rw [gY_0 g0 g1]; exact (if_pos rfl).trans (if_pos g2)]
        refine Cal.of rfl (by decide +kernel) (by simp) (Nat.le_of_ble_eq_true rfl) rfl (sX11_wayFine_0 (Qn1 := WaQ (cN x1) (cN x4) (I, J, R, S, nx) (κ, ι, (τ, tm, tn), (t, tp), fk, fp)) (mc1 := 8) (ms1 := 455) hl0 w wL wl (by decide) (ndy c0) (by decide) (fun _ => ndy c1) ⟨by decide, by decide⟩ (fun _ _ => ?_) (fun _ _ => ?_) (fun _ _ => ?_))
        · obtain ⟨a, rfl, _, ha, ea⟩ := g1.n (by omega)
          obtain ⟨b, rfl, hb2, eb⟩ := g0.1.n (by omega)
          obtain ⟨c, rfl, hc2, ec⟩ := g0.2.n (by omega)
          obtain ⟨d, rfl, _, hd, ed⟩ := g2.n (by omega)
          rw [ea, ed]
          exact waysOf_c hl0 hC0 hs hhb (by omega) hd
        · rintro r μ' ⟨I1, J1, R1, S1, n1, o, hr1, rfl, hk, hc, ho8, hWD⟩
          obtain rfl := Sum.inl.inj hr1
          have hc1 := hc
          obtain ⟨ow1, L1, dl1, pl1, ld1, lp1, hR1, wL1, hL1, hN1, hV1, hP1⟩ := hc
          have hO := hR1.2.2.2.2.1.2.1 o ho8
          have ap := Own.ap hO.2 (by decide) (by decide) hL1
          have h72 := hO.2.1
          have hO1 : o + 8 ≤ n1 := hO.1.1
          obtain ⟨a, rfl, _, ha, ea⟩ := g1.n (by omega)
          obtain ⟨b, rfl, hb2, eb⟩ := g0.1.n (by omega)
          obtain ⟨c, rfl, hc2, ec⟩ := g0.2.n (by omega)
          obtain ⟨d, rfl, _, hd, ed⟩ := g2.n (by omega)
          rw [ea, ed] at hWD
          rw [ea, eb, ec, ed]
          refine sX11_wayFine_22 (u1 := wAns (qle κ a b d c)) (P1 := fun I I' => Fr [o + 4, o + 5] I I') (by omega) hO.1.2.1 (leastFined_w hR1.1 wL1 hL1.1 ⟨hN1, hL1.2.1, hV1⟩ ho (by omega) hO.1 ap (by omega) (by omega) hd hWD) (fun I2 h2 => ?_)
          have st := CI.scr hR1 wL1 hL1 hN1 hV1 hP1 h2 (scrB hO.2 (by decide) (by simp <;> omega)) (by simp <;> omega) (by simp <;> omega) (by simp <;> omega) (by simp <;> omega) (fun _ _ => rfl)
          exact ⟨ok0 rfl, hk.trans st.1, st.2⟩
        · rintro E μ' ⟨I1, J1, R1, S1, n1, o, hr1, _⟩; cases hr1
      · have c0 : nd_needWay (I L 1) x1 x2 x3 = none := by rw [k0, if_pos g0, if_pos g1]
        have c1 : nd_needWithin x4 (0 : Int32) (60 : Int32) = some eIA := by rw [k1, if_neg g2]
        rw [show aWayFine κ x1 x2 x3 x4 = (2, 0) by unfold aWayFine; rw [gY_0 g0 g1]; exact (if_pos rfl).trans (if_neg g2)]
        exact Cal.of rfl (by decide +kernel) (by simp) (Nat.le_of_ble_eq_true rfl) rfl (sX11_wayFine_0 (Qn1 := fun _ _ => True) (mc1 := 8) (ms1 := 455) hl0 w wL wl (by decide) (ndy c0) (by decide) (fun _ => ndn c1 (fun n' hn => ⟨rfl, CI.thr hC0 hn⟩)) ⟨by decide, by decide⟩ (fun _ g => ndx c1 g) (fun _ g => ndx c1 g) (fun _ g => ndx c1 g))
    · have c0 : nd_needWay (I L 1) x1 x2 x3 = some eIA := by rw [k0, if_pos g0, if_neg g1]
      rw [show aWayFine κ x1 x2 x3 x4 = (2, 0) by unfold aWayFine; rw [gY_2 g0 g1]; rfl]
      exact Cal.of rfl (by decide +kernel) (by simp) (Nat.le_of_ble_eq_true rfl) rfl (sX11_wayFine_0 (Qn1 := fun _ _ => True) (mc1 := 8) (ms1 := 455) hl0 w wL wl (by decide) (ndn c0 (fun n' hn => ⟨rfl, CI.thr hC0 hn⟩)) (by decide) (fun g => ndx c0 g) ⟨by decide, by decide⟩ (fun g => ndx c0 g) (fun g => ndx c0 g) (fun g => ndx c0 g))
  · have c0 : nd_needWay (I L 1) x1 x2 x3 = some eNS := by rw [k0, if_neg g0]
    rw [show aWayFine κ x1 x2 x3 x4 = (1, 0) by unfold aWayFine; rw [gY_1 g0]; rfl]
    exact Cal.of rfl (by decide +kernel) (by simp) (Nat.le_of_ble_eq_true rfl) rfl (sX11_wayFine_0 (Qn1 := fun _ _ => True) (mc1 := 8) (ms1 := 455) hl0 w wL wl (by decide) (ndn c0 (fun n' hn => ⟨rfl, CI.thr hC0 hn⟩)) (by decide) (fun g => ndx c0 g) ⟨by decide, by decide⟩ (fun g => ndx c0 g) (fun g => ndx c0 g) (fun g => ndx c0 g))
theorem guard_p {x1 : Int32} {x2 : Int32} {x3 : Int32} (hl0 : l.stackTraces = false) (hC : CI (I, J, R, S, nx) (κ, ι, (τ, tm, tn), (t, tp), fk, fp)) (hs : sok hb pb κ) (hhb : hb < 2 ^ 28) : Cal l G (k + 5) 40 14000 mX11_guard [.ref 0, .int x1, .int x2, .int x3] (I, J, R, S, nx) (CQ (I, J, R, S, nx) (ansR [eNS, eIA] (aGuard κ x1 x2 x3)) (κ, ι, (τ, tm, tn), (t, tp), fk, fp)) := by
  have hC0 := hC
  obtain ⟨ow, L, dl, pl, ld, lp, hR, wL, hL, hN, hV, hP⟩ := hC
  have hR : CR I J R S nx ow ι τ tm tn t tp fk fp := hR
  have wL : R 14 0 = some L := wL
  have hL : LdC I R S nx ow L κ dl pl ld lp := hL
  have hN : CN I κ := hN
  have hV : PV I κ := hV
  have hP : PS I 30 31 κ := hP
  have w : CF R S nx := hR.1
  have wl : LW R S nx L dl pl ld lp := hL.1
  have h : CK I κ L dl pl ld lp := ⟨hN, hL.2.1, hV⟩
  have ho := hs.q
  have h1w : κ 1 ≤ 5 := ho.1
  have h2a : κ 2 ≤ 8 := ho.2.1
  have h54 : κ 54 ≤ hb := ho.2.2.2.2.2.2.2.2.2.2.1
  have e1 : I L 1 = nI (κ 1) := h.2.1.1.2.1
  have e2 : I L 2 = nI (κ 2) := h.2.1.1.2.2.1
  have k0 : nd_needWay (I L 1) x1 x2 x3 = (if gL x2 (κ 1) ∧ gL x3 (κ 1) then (if gR x1 0 9 then none else some eIA) else some eNS) := (by rw [e1]; exact ndY (by omega))
  by_cases g0 : gL x2 (κ 1) ∧ gL x3 (κ 1)
  · by_cases g1 : gR x1 0 9
    · have c0 : nd_needWay (I L 1) x1 x2 x3 = none := by rw [k0, if_pos g0, if_pos g1]
      rw [show aGuard κ x1 x2 x3 = (if x2 = x3 then (2, 0) else (0, jP (qguard κ (cN x1) (cN x2) (cN x3)))) by unfold aGuard; rw [gY_0 g0 g1]; rfl]
      refine Cal.of rfl (by decide +kernel) (by simp) (Nat.le_of_ble_eq_true rfl) rfl (sX11_guard_0 (Qn1 := WaQ (cN x1) 60 (I, J, R, S, nx) (κ, ι, (τ, tm, tn), (t, tp), fk, fp)) (mc1 := 8) (ms1 := 455) hl0 w wL wl (by decide) (ndy c0) ⟨by decide, by decide⟩ (fun _ => ?_) (fun _ => ?_) (fun _ => ?_) (fun _ => ?_) ⟨by decide, by decide⟩)
      · intro hne
        obtain ⟨a, rfl, _, ha, ea⟩ := g1.n (by omega)
        obtain ⟨b, rfl, hb2, eb⟩ := g0.1.n (by omega)
        obtain ⟨c, rfl, hc2, ec⟩ := g0.2.n (by omega)
        rw [ea]
        exact waysOf_c hl0 hC0 hs hhb (by omega) (by decide)
      · intro hne
        rintro r μ' ⟨I1, J1, R1, S1, n1, o, hr1, rfl, hk, hc, ho8, hWD⟩
        obtain rfl := Sum.inl.inj hr1
        have hc1 := hc
        obtain ⟨ow1, L1, dl1, pl1, ld1, lp1, hR1, wL1, hL1, hN1, hV1, hP1⟩ := hc
        have hO := hR1.2.2.2.2.1.2.1 o ho8
        have ap := Own.ap hO.2 (by decide) (by decide) hL1
        have h72 := hO.2.1
        have hO1 : o + 8 ≤ n1 := hO.1.1
        obtain ⟨a, rfl, _, ha, ea⟩ := g1.n (by omega)
        obtain ⟨b, rfl, hb2, eb⟩ := g0.1.n (by omega)
        obtain ⟨c, rfl, hc2, ec⟩ := g0.2.n (by omega)
        rw [ea] at hWD
        rw [ea, eb, ec, if_neg hne]
        refine sX11_guard_30 (u1 := jP (qguard κ a b c)) (P1 := fun I I' => I' = I) (by omega) hO.1.2.1 (bestGuard_w hR1.1 wL1 hL1.1 ⟨hN1, hL1.2.1, hV1⟩ ho (by omega) hO.1 ap (by omega) (by omega) hWD) (fun I2 h2 => ?_)
        subst h2
        exact ⟨ok0 rfl, hk, hc1⟩
      · intro hne
        rintro E μ' ⟨I1, J1, R1, S1, n1, o, hr1, _⟩; cases hr1
      · intro hne n' hn
        rw [if_pos hne]
        exact ⟨rfl, CI.thr hC0 hn⟩
    · have c0 : nd_needWay (I L 1) x1 x2 x3 = some eIA := by rw [k0, if_pos g0, if_neg g1]
      rw [show aGuard κ x1 x2 x3 = (2, 0) by unfold aGuard; rw [gY_2 g0 g1]; rfl]
      exact Cal.of rfl (by decide +kernel) (by simp) (Nat.le_of_ble_eq_true rfl) rfl (sX11_guard_0 (Qn1 := fun _ _ => True) (mc1 := 8) (ms1 := 455) hl0 w wL wl (by decide) (ndn c0 (fun n' hn => ⟨rfl, CI.thr hC0 hn⟩)) ⟨by decide, by decide⟩ (fun g => ndx c0 g) (fun g => ndx c0 g) (fun g => ndx c0 g) (fun g => ndx c0 g) ⟨by decide, by decide⟩)
  · have c0 : nd_needWay (I L 1) x1 x2 x3 = some eNS := by rw [k0, if_neg g0]
    rw [show aGuard κ x1 x2 x3 = (1, 0) by unfold aGuard; rw [gY_1 g0]; rfl]
    exact Cal.of rfl (by decide +kernel) (by simp) (Nat.le_of_ble_eq_true rfl) rfl (sX11_guard_0 (Qn1 := fun _ _ => True) (mc1 := 8) (ms1 := 455) hl0 w wL wl (by decide) (ndn c0 (fun n' hn => ⟨rfl, CI.thr hC0 hn⟩)) ⟨by decide, by decide⟩ (fun g => ndx c0 g) (fun g => ndx c0 g) (fun g => ndx c0 g) (fun g => ndx c0 g) ⟨by decide, by decide⟩)
theorem freeWays_p {x1 : Int32} {x2 : Int32} {x3 : Int32} {x4 : Int32} (hl0 : l.stackTraces = false) (hC : CI (I, J, R, S, nx) (κ, ι, (τ, tm, tn), (t, tp), fk, fp)) (hs : sok hb pb κ) (hhb : hb < 2 ^ 28) : Cal l G (k + 5) 40 14000 mX11_freeWays [.ref 0, .int x1, .int x2, .int x3, .int x4] (I, J, R, S, nx) (CQ (I, J, R, S, nx) (ansJ [eNS, eIA] (aFreeWays κ x1 x2 x3 x4)) (κ, ι, (τ, tm, tn), (t, tp), fk, fp)) := by
  have hC0 := hC
  obtain ⟨ow, L, dl, pl, ld, lp, hR, wL, hL, hN, hV, hP⟩ := hC
  have hR : CR I J R S nx ow ι τ tm tn t tp fk fp := hR
  have wL : R 14 0 = some L := wL
  have hL : LdC I R S nx ow L κ dl pl ld lp := hL
  have hN : CN I κ := hN
  have hV : PV I κ := hV
  have hP : PS I 30 31 κ := hP
  have w : CF R S nx := hR.1
  have wl : LW R S nx L dl pl ld lp := hL.1
  have h : CK I κ L dl pl ld lp := ⟨hN, hL.2.1, hV⟩
  have ho := hs.q
  have h1w : κ 1 ≤ 5 := ho.1
  have h2a : κ 2 ≤ 8 := ho.2.1
  have h54 : κ 54 ≤ hb := ho.2.2.2.2.2.2.2.2.2.2.1
  have e1 : I L 1 = nI (κ 1) := h.2.1.1.2.1
  have e2 : I L 2 = nI (κ 2) := h.2.1.1.2.2.1
  have k0 : nd_needWay (I L 1) x1 x2 x3 = (if gL x2 (κ 1) ∧ gL x3 (κ 1) then (if gR x1 0 9 then none else some eIA) else some eNS) := (by rw [e1]; exact ndY (by omega))
  have k1 : nd_needWithin x4 (0 : Int32) (20 : Int32) = (if gR x4 0 20 then none else some eIA) := (ndI (a := 0) (b := 20) (by decide) (by decide))
  by_cases g0 : gL x2 (κ 1) ∧ gL x3 (κ 1)
  · by_cases g1 : gR x1 0 9
    · by_cases g2 : gR x4 0 20
      · have c0 : nd_needWay (I L 1) x1 x2 x3 = none := by rw [k0, if_pos g0, if_pos g1]
        have c1 : nd_needWithin x4 (0 : Int32) (20 : Int32) = none := by rw [k1, if_pos g2]
        rw [show aFreeWays κ x1 x2 x3 x4 = (0, lN (qmn κ (cN x1) (cN x2) (cN x4) (cN x3))) by unfold aFreeWays; rw [gY_0 g0 g1]; exact (if_pos rfl).trans (if_pos g2)]
        refine Cal.of rfl (by decide +kernel) (by simp) (Nat.le_of_ble_eq_true rfl) rfl (sX11_freeWays_0 (Qn1 := WaQ (cN x1) (cN x4) (I, J, R, S, nx) (κ, ι, (τ, tm, tn), (t, tp), fk, fp)) (mc1 := 8) (ms1 := 455) hl0 w wL wl (by decide) (ndy c0) (by decide) (fun _ => ndy c1) ⟨by decide, by decide⟩ (fun _ _ => ?_) (fun _ _ => ?_) (fun _ _ => ?_))
        · obtain ⟨a, rfl, _, ha, ea⟩ := g1.n (by omega)
          obtain ⟨b, rfl, hb2, eb⟩ := g0.1.n (by omega)
          obtain ⟨c, rfl, hc2, ec⟩ := g0.2.n (by omega)
          obtain ⟨d, rfl, _, hd, ed⟩ := g2.n (by omega)
          rw [ea, ed]
          exact waysOf_c hl0 hC0 hs hhb (by omega) (by omega)
        · rintro r μ' ⟨I1, J1, R1, S1, n1, o, hr1, rfl, hk, hc, ho8, hWD⟩
          obtain rfl := Sum.inl.inj hr1
          have hc1 := hc
          obtain ⟨ow1, L1, dl1, pl1, ld1, lp1, hR1, wL1, hL1, hN1, hV1, hP1⟩ := hc
          have hO := hR1.2.2.2.2.1.2.1 o ho8
          have ap := Own.ap hO.2 (by decide) (by decide) hL1
          have h72 := hO.2.1
          have hO1 : o + 8 ≤ n1 := hO.1.1
          obtain ⟨a, rfl, _, ha, ea⟩ := g1.n (by omega)
          obtain ⟨b, rfl, hb2, eb⟩ := g0.1.n (by omega)
          obtain ⟨c, rfl, hc2, ec⟩ := g0.2.n (by omega)
          obtain ⟨d, rfl, _, hd, ed⟩ := g2.n (by omega)
          rw [ea, ed] at hWD
          rw [ea, eb, ec, ed]
          refine sX11_freeWays_22 (mc1 := 0) (ms1 := 0) (by omega) hO.1.2.1 ⟨Nat.zero_le _, Nat.zero_le _⟩ (manyFree_w hR1.1 wL1 hL1.1 ⟨hN1, hL1.2.1, hV1⟩ ho (by omega) hO.1 ap hs.1 (by omega) (by omega) hd hWD) ?_ ?_
          · rintro r μ' ⟨hr2, J2, rfl, hJ2⟩
            obtain rfl := Sum.inl.inj hr2
            have st := CI.scr (rs := []) (J' := J2) hR1 wL1 hL1 hN1 hV1 hP1 (fun _ _ => rfl) (by simp) (by simp) (by simp) (by simp) (by simp) (fun a ha => hJ2 a (by omega) (by omega))
            exact sX11_freeWays_29 ⟨rfl, hk.trans st.1, st.2⟩
          · rintro E μ' ⟨hr2, _⟩; cases hr2
        · rintro E μ' ⟨I1, J1, R1, S1, n1, o, hr1, _⟩; cases hr1
      · have c0 : nd_needWay (I L 1) x1 x2 x3 = none := by rw [k0, if_pos g0, if_pos g1]
        have c1 : nd_needWithin x4 (0 : Int32) (20 : Int32) = some eIA := by rw [k1, if_neg g2]
        rw [show aFreeWays κ x1 x2 x3 x4 = (2, 0) by unfold aFreeWays; rw [gY_0 g0 g1]; exact (if_pos rfl).trans (if_neg g2)]
        exact Cal.of rfl (by decide +kernel) (by simp) (Nat.le_of_ble_eq_true rfl) rfl (sX11_freeWays_0 (Qn1 := fun _ _ => True) (mc1 := 8) (ms1 := 455) hl0 w wL wl (by decide) (ndy c0) (by decide) (fun _ => ndn c1 (fun n' hn => ⟨rfl, CI.thr hC0 hn⟩)) ⟨by decide, by decide⟩ (fun _ g => ndx c1 g) (fun _ g => ndx c1 g) (fun _ g => ndx c1 g))
    · have c0 : nd_needWay (I L 1) x1 x2 x3 = some eIA := by rw [k0, if_pos g0, if_neg g1]
      rw [show aFreeWays κ x1 x2 x3 x4 = (2, 0) by unfold aFreeWays; rw [gY_2 g0 g1]; rfl]
      exact Cal.of rfl (by decide +kernel) (by simp) (Nat.le_of_ble_eq_true rfl) rfl (sX11_freeWays_0 (Qn1 := fun _ _ => True) (mc1 := 8) (ms1 := 455) hl0 w wL wl (by decide) (ndn c0 (fun n' hn => ⟨rfl, CI.thr hC0 hn⟩)) (by decide) (fun g => ndx c0 g) ⟨by decide, by decide⟩ (fun g => ndx c0 g) (fun g => ndx c0 g) (fun g => ndx c0 g))
  · have c0 : nd_needWay (I L 1) x1 x2 x3 = some eNS := by rw [k0, if_neg g0]
    rw [show aFreeWays κ x1 x2 x3 x4 = (1, 0) by unfold aFreeWays; rw [gY_1 g0]; rfl]
    exact Cal.of rfl (by decide +kernel) (by simp) (Nat.le_of_ble_eq_true rfl) rfl (sX11_freeWays_0 (Qn1 := fun _ _ => True) (mc1 := 8) (ms1 := 455) hl0 w wL wl (by decide) (ndn c0 (fun n' hn => ⟨rfl, CI.thr hC0 hn⟩)) (by decide) (fun g => ndx c0 g) ⟨by decide, by decide⟩ (fun g => ndx c0 g) (fun g => ndx c0 g) (fun g => ndx c0 g))
end A
