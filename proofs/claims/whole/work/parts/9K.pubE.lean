/-! the class: more answers -/
section A
variable {l : Launch} {G : Gh} {k : Nat} {I : Nat → Nat → Int32} {J : Nat → Nat → Int64} {R : Nat → Nat → Option Nat} {S : Nat → Nat × Nat} {nx : Nat} {κ : Nat → Nat} {hb pb : Nat}
variable {ι : Nat → Option (Nat → Nat)} {τ tm : Nat → Nat} {tn : Nat → Nat → Int64} {tp : Nat} {fk fp : Int32} {t : Nat → Nat} {ow : Nat → Nat} {L dl pl ld lp : Nat}
/-- hours are looked at: nothing but scratch is written -/
theorem CI.look {I' : Nat → Nat → Int32} (hR : CR I J R S nx ow ι τ tm tn t tp fk fp) (wL : R 14 0 = some L) (hL : LdC I R S nx ow L κ dl pl ld lp) (hP : PS I 30 31 κ) (hF : Fr [27, 28, 29] I I') (h : CK I' κ L dl pl ld lp) : KF (I, J, R, S, nx) (I', J, R, S, nx) ∧ CI (I', J, R, S, nx) (κ, ι, (τ, tm, tn), (t, tp), fk, fp) :=
  CI.step hR wL hL (hF.wk (r2 := [25, 27, 28, 29, 30, 31]) (by decide)) scrN h (hP.fr hF (by decide) (by decide))
theorem qcv_pos {wn sm : Nat} : ∀ {i b : Nat}, qcv κ wn sm i = some b → b ≠ 0
  | 0, b, h => by cases h
  | i + 1, b, h => by
    rw [qcv_s] at h
    split at h
    · have := Option.some.inj h; omega
    · exact qcv_pos h
theorem aheadx_c {b : Bool} (hC : CI (I, J, R, S, nx) (κ, ι, (τ, tm, tn), (t, tp), fk, fp)) (hb : b = true → ∃ o, R 0 7 = some o) : Cal l G (k + 1) (if b then 0 else 5) (if b then 0 else 3077) mX11_ahead [.ref 0] (I, J, R, S, nx) (LzQ 7 (I, J, R, S, nx) (κ, ι, (τ, tm, tn), (t, tp), fk, fp)) := by
  cases b with
  | false => exact ahead_c hC
  | true =>
    obtain ⟨o, hr⟩ := hb rfl
    have w : CF R S nx := by obtain ⟨ow, L, dl, pl, ld, lp, hR, _⟩ := hC; exact hR.1
    have hn0 : 0 < nx := cf_n w (by decide)
    have hs0 : (S 0).1 = 11 := cf_o w (q := (0, 11)) (by decide)
    exact Cal.of rfl (by decide +kernel) (by simp) (Nat.le_of_ble_eq_true rfl) rfl (wp_aload_n (q := 1) dX11_ahead_0 rfl rfl rfl (wp_getR (q := 4) dX11_ahead_1 rfl fl_RX11_50 rfl hn0 hs0 hr (wp_ifnonnull (tgt := 22) dX11_ahead_4 rfl (wp_aload_n (q := 23) dX11_ahead_22 rfl rfl rfl (wp_getR (q := 26) dX11_ahead_23 rfl fl_RX11_50 rfl hn0 hs0 hr (wp_areturn dX11_ahead_26 rfl (Or.inl ⟨_, rfl⟩) ⟨I, J, R, S, nx, o, rfl, rfl, KF.rf, hC, hr⟩))))))
theorem spell_p {x1 : Int32} {x2 : Int32} {x3 : Int32} {x4 : Int32} (hl0 : l.stackTraces = false) (hC : CI (I, J, R, S, nx) (κ, ι, (τ, tm, tn), (t, tp), fk, fp)) (hs : sok hb pb κ) (hhb : hb < 2 ^ 28) : Cal l G (k + 6) 40 14000 mX11_spell [.ref 0, .int x1, .int x2, .int x3, .int x4] (I, J, R, S, nx) (CQ (I, J, R, S, nx) (ansR [eNS, eIA] (aSpell κ x1 x2 x3 x4)) (κ, ι, (τ, tm, tn), (t, tp), fk, fp)) := by
  have hC0 := hC
  obtain ⟨ow, L, dl, pl, ld, lp, hR, wL, hL, hN, hV, hP⟩ := hC
  have hR : CR I J R S nx ow ι τ tm tn t tp fk fp := hR
  have wL : R 14 0 = some L := wL
  have hL : LdC I R S nx ow L κ dl pl ld lp := hL
  have hN : CN I κ := hN
  have hV : PV I κ := hV
  have hP : PS I 30 31 κ := hP
  have w : CF R S nx := hR.1
  have wl : LW R S nx L dl pl ld lp := hL.1
  have h : CK I κ L dl pl ld lp := ⟨hN, hL.2.1, hV⟩
  have ho := hs.q
  have h1w : κ 1 ≤ 5 := ho.1
  have h2a : κ 2 ≤ 8 := ho.2.1
  have h54 : κ 54 ≤ hb := ho.2.2.2.2.2.2.2.2.2.2.1
  have e1 : I L 1 = nI (κ 1) := h.2.1.1.2.1
  have e2 : I L 2 = nI (κ 2) := h.2.1.1.2.2.1
  have k0 : nd_needWard (I L 1) x2 = (if gL x2 (κ 1) then none else some eNS) := (by rw [e1]; exact ndW (by omega))
  have k1 : nd_needKind x1 = (if gR x1 0 9 then none else some eIA) := (ndI (a := 0) (b := 9) (by decide) (by decide))
  have k2 : nd_needWithin x3 (1 : Int32) (200 : Int32) = (if gR x3 1 200 then none else some eIA) := (ndI (a := 1) (b := 200) (by decide) (by decide))
  have k3 : nd_needWithin x4 (0 : Int32) (1 : Int32) = (if gR x4 0 1 then none else some eIA) := (ndI (a := 0) (b := 1) (by decide) (by decide))
  by_cases g0 : gL x2 (κ 1)
  · by_cases g1 : gR x1 0 9
    · by_cases g2 : gR x3 1 200
      · by_cases g3 : gR x4 0 1
        · have c0 : nd_needWard (I L 1) x2 = none := by rw [k0, if_pos g0]
          have c1 : nd_needKind x1 = none := by rw [k1, if_pos g1]
          have c2 : nd_needWithin x3 (1 : Int32) (200 : Int32) = none := by rw [k2, if_pos g2]
          have c3 : nd_needWithin x4 (0 : Int32) (1 : Int32) = none := by rw [k3, if_pos g3]
          rw [show aSpell κ x1 x2 x3 x4 = (0, if cN x4 = 0 then nI (qsp (qfa κ (cN x1) (cN x2)) (cN x3)).1 else jP (qsp (qfa κ (cN x1) (cN x2)) (cN x3)).2.1) by unfold aSpell; rw [if_pos g0, if_pos ⟨g1, g2, g3⟩]]
          refine Cal.of rfl (by decide +kernel) (by simp) (Nat.le_of_ble_eq_true rfl) rfl (sX11_spell_0 (Qn1 := LzQ 7 (I, J, R, S, nx) (κ, ι, (τ, tm, tn), (t, tp), fk, fp)) (mc1 := 5) (ms1 := 3077) hl0 w wL wl (by decide) (ndy c0) (by decide) (fun _ => ndy c1) (by decide) (fun _ _ => ndy c2) (by decide) (fun _ _ _ => ndy c3) ⟨by decide, by decide⟩ (fun _ _ _ _ => ?_) (fun _ _ _ _ => ?_) (fun _ _ _ _ => ?_))
          · exact ahead_c hC0
          · rintro r μ' ⟨I1, J1, R1, S1, n1, o, hr1, rfl, hk, hc, ho7⟩
            obtain rfl := Sum.inl.inj hr1
            obtain ⟨ow1, L1, dl1, pl1, ld1, lp1, hR1, wL1, hL1, hN1, hV1, hP1⟩ := hc
            have hO := hR1.2.2.2.2.1.1 o ho7
            have ap := Own.ap hO.2 (by decide) (by decide) hL1
            have h72 := hO.2.1
            have hO1 : o + 5 ≤ n1 := hO.1.1
            obtain ⟨a, rfl, _, ha, ea⟩ := g1.n (by omega)
            obtain ⟨b, rfl, hb2, eb⟩ := g0.n (by omega)
            obtain ⟨c, rfl, _, hc2, ec⟩ := g2.n (by omega)
            obtain ⟨d, rfl, _, hd, ed⟩ := g3.n (by omega)
            rw [ea, eb, ec, ed]
            have fin : ∀ I2, Fr [27, 28, 29, o + 1, o + 2] I1 I2 ∧ CK I2 κ L1 dl1 pl1 ld1 lp1 → KF (I, J, R, S, nx) (I2, J1, R1, S1, n1) ∧ CI (I2, J1, R1, S1, n1) (κ, ι, (τ, tm, tn), (t, tp), fk, fp) := fun I2 h2 => by
              have st := CI.step hR1 wL1 hL1 (h2.1.wk (r2 := [27, 28, 29, o + 1, o + 2, o + 3, o + 4]) (by simp)) (scrO hO.2) h2.2 (hP1.fr h2.1 (by simp; omega) (by simp; omega))
              exact ⟨hk.trans st.1, st.2⟩
            have cq : ∀ q, q ≤ 1 → _ := fun q hq => longestFree_c (l := l) (G := G) (k := k) (J := J1) (q := q) hR1.1 wL1 hL1.1 ⟨hN1, hL1.2.1, hV1⟩ ho (by omega) hO.1 ap (kd := a) (wn := b) (n := c) (by omega) (by omega) hc2 hq
            refine sX11_spell_28 (u1 := jP (qsp (qfa κ a b) c).2.1) (u2 := nI (qsp (qfa κ a b) c).1) (P1 := fun I I' => Fr [27, 28, 29, o + 1, o + 2] I I' ∧ CK I' κ L1 dl1 pl1 ld1 lp1) (P2 := fun I I' => Fr [27, 28, 29, o + 1, o + 2] I I' ∧ CK I' κ L1 dl1 pl1 ld1 lp1) (by omega) hO.1.2.1 (fun _ => cq 0 (by decide)) (fun hne I2 h2 => ?_) (fun _ => cq 1 (by decide)) (fun he I2 h2 => ?_)
            · have hd0 : ¬ d = 0 := fun hz => hne (by rw [hz]; rfl)
              exact ⟨ok0 (if_neg hd0).symm, fin I2 h2⟩
            · have hd0 : d = 0 := (nI_eq (b := 0) (by omega) (by decide)).mp he
              exact ⟨ok0 (if_pos hd0).symm, fin I2 h2⟩
          · rintro E μ' ⟨I1, J1, R1, S1, n1, o, hr1, _⟩; cases hr1
        · have c0 : nd_needWard (I L 1) x2 = none := by rw [k0, if_pos g0]
          have c1 : nd_needKind x1 = none := by rw [k1, if_pos g1]
          have c2 : nd_needWithin x3 (1 : Int32) (200 : Int32) = none := by rw [k2, if_pos g2]
          have c3 : nd_needWithin x4 (0 : Int32) (1 : Int32) = some eIA := by rw [k3, if_neg g3]
          rw [show aSpell κ x1 x2 x3 x4 = (2, 0) by unfold aSpell; rw [if_pos g0, if_neg (fun g => g3 g.2.2)]]
          exact Cal.of rfl (by decide +kernel) (by simp) (Nat.le_of_ble_eq_true rfl) rfl (sX11_spell_0 (Qn1 := fun _ _ => True) (mc1 := 5) (ms1 := 3077) hl0 w wL wl (by decide) (ndy c0) (by decide) (fun _ => ndy c1) (by decide) (fun _ _ => ndy c2) (by decide) (fun _ _ _ => ndn c3 (fun n' hn => ⟨rfl, CI.thr hC0 hn⟩)) ⟨by decide, by decide⟩ (fun _ _ _ g => ndx c3 g) (fun _ _ _ g => ndx c3 g) (fun _ _ _ g => ndx c3 g))
      · have c0 : nd_needWard (I L 1) x2 = none := by rw [k0, if_pos g0]
        have c1 : nd_needKind x1 = none := by rw [k1, if_pos g1]
        have c2 : nd_needWithin x3 (1 : Int32) (200 : Int32) = some eIA := by rw [k2, if_neg g2]
        rw [show aSpell κ x1 x2 x3 x4 = (2, 0) by unfold aSpell; rw [if_pos g0, if_neg (fun g => g2 g.2.1)]]
        exact Cal.of rfl (by decide +kernel) (by simp) (Nat.le_of_ble_eq_true rfl) rfl (sX11_spell_0 (Qn1 := fun _ _ => True) (mc1 := 5) (ms1 := 3077) hl0 w wL wl (by decide) (ndy c0) (by decide) (fun _ => ndy c1) (by decide) (fun _ _ => ndn c2 (fun n' hn => ⟨rfl, CI.thr hC0 hn⟩)) (by decide) (fun _ _ g => ndx c2 g) ⟨by decide, by decide⟩ (fun _ _ g => ndx c2 g) (fun _ _ g => ndx c2 g) (fun _ _ g => ndx c2 g))
    · have c0 : nd_needWard (I L 1) x2 = none := by rw [k0, if_pos g0]
      have c1 : nd_needKind x1 = some eIA := by rw [k1, if_neg g1]
      rw [show aSpell κ x1 x2 x3 x4 = (2, 0) by unfold aSpell; rw [if_pos g0, if_neg (fun g => g1 g.1)]]
      exact Cal.of rfl (by decide +kernel) (by simp) (Nat.le_of_ble_eq_true rfl) rfl (sX11_spell_0 (Qn1 := fun _ _ => True) (mc1 := 5) (ms1 := 3077) hl0 w wL wl (by decide) (ndy c0) (by decide) (fun _ => ndn c1 (fun n' hn => ⟨rfl, CI.thr hC0 hn⟩)) (by decide) (fun _ g => ndx c1 g) (by decide) (fun _ g => ndx c1 g) ⟨by decide, by decide⟩ (fun _ g => ndx c1 g) (fun _ g => ndx c1 g) (fun _ g => ndx c1 g))
  · have c0 : nd_needWard (I L 1) x2 = some eNS := by rw [k0, if_neg g0]
    rw [show aSpell κ x1 x2 x3 x4 = (1, 0) by unfold aSpell; rw [if_neg g0]]
    exact Cal.of rfl (by decide +kernel) (by simp) (Nat.le_of_ble_eq_true rfl) rfl (sX11_spell_0 (Qn1 := fun _ _ => True) (mc1 := 5) (ms1 := 3077) hl0 w wL wl (by decide) (ndn c0 (fun n' hn => ⟨rfl, CI.thr hC0 hn⟩)) (by decide) (fun g => ndx c0 g) (by decide) (fun g => ndx c0 g) (by decide) (fun g => ndx c0 g) ⟨by decide, by decide⟩ (fun g => ndx c0 g) (fun g => ndx c0 g) (fun g => ndx c0 g))
theorem cover_p {x1 : Int32} {x2 : Int32} {x3 : Int32} (hl0 : l.stackTraces = false) (hC : CI (I, J, R, S, nx) (κ, ι, (τ, tm, tn), (t, tp), fk, fp)) (hs : sok hb pb κ) (hhb : hb < 2 ^ 28) : Cal l G (k + 5) 40 14000 mX11_cover [.ref 0, .int x1, .int x2, .int x3] (I, J, R, S, nx) (CQ (I, J, R, S, nx) (ansR [eNS, eIA] (aCover κ x1 x2 x3)) (κ, ι, (τ, tm, tn), (t, tp), fk, fp)) := by
  have hC0 := hC
  obtain ⟨ow, L, dl, pl, ld, lp, hR, wL, hL, hN, hV, hP⟩ := hC
  have hR : CR I J R S nx ow ι τ tm tn t tp fk fp := hR
  have wL : R 14 0 = some L := wL
  have hL : LdC I R S nx ow L κ dl pl ld lp := hL
  have hN : CN I κ := hN
  have hV : PV I κ := hV
  have hP : PS I 30 31 κ := hP
  have w : CF R S nx := hR.1
  have wl : LW R S nx L dl pl ld lp := hL.1
  have h : CK I κ L dl pl ld lp := ⟨hN, hL.2.1, hV⟩
  have ho := hs.q
  have h1w : κ 1 ≤ 5 := ho.1
  have h2a : κ 2 ≤ 8 := ho.2.1
  have h54 : κ 54 ≤ hb := ho.2.2.2.2.2.2.2.2.2.2.1
  have e1 : I L 1 = nI (κ 1) := h.2.1.1.2.1
  have e2 : I L 2 = nI (κ 2) := h.2.1.1.2.2.1
  have k0 : nd_needWard (I L 1) x2 = (if gL x2 (κ 1) then none else some eNS) := (by rw [e1]; exact ndW (by omega))
  have k1 : nd_needKind x1 = (if gR x1 0 9 then none else some eIA) := (ndI (a := 0) (b := 9) (by decide) (by decide))
  have k2 : nd_needWithin x3 (0 : Int32) (1 : Int32) = (if gR x3 0 1 then none else some eIA) := (ndI (a := 0) (b := 1) (by decide) (by decide))
  by_cases g0 : gL x2 (κ 1)
  · by_cases g1 : gR x1 0 9
    · by_cases g2 : gR x3 0 1
      · have c0 : nd_needWard (I L 1) x2 = none := by rw [k0, if_pos g0]
        have c1 : nd_needKind x1 = none := by rw [k1, if_pos g1]
        have c2 : nd_needWithin x3 (0 : Int32) (1 : Int32) = none := by rw [k2, if_pos g2]
        rw [show aCover κ x1 x2 x3 = (0, cAns (qcv κ (cN x2) (qsm κ (cN x1)) (qsm κ (cN x1))) (cN x3)) by unfold aCover; rw [if_pos g0, if_pos ⟨g1, g2⟩]]
        refine Cal.of rfl (by decide +kernel) (by simp) (Nat.le_of_ble_eq_true rfl) rfl (sX11_cover_0 (Qn1 := LzQ 7 (I, J, R, S, nx) (κ, ι, (τ, tm, tn), (t, tp), fk, fp)) (mc1 := 5) (ms1 := 3077) hl0 w wL wl (by decide) (ndy c0) (by decide) (fun _ => ndy c1) (by decide) (fun _ _ => ndy c2) ⟨by decide, by decide⟩ (fun _ _ _ => ?_) (fun _ _ _ => ?_) (fun _ _ _ => ?_))
        · exact ahead_c hC0
        · rintro r μ' ⟨I1, J1, R1, S1, n1, o, hr1, rfl, hk, hc, ho7⟩
          obtain rfl := Sum.inl.inj hr1
          obtain ⟨ow1, L1, dl1, pl1, ld1, lp1, hR1, wL1, hL1, hN1, hV1, hP1⟩ := hc
          have hO := hR1.2.2.2.2.1.1 o ho7
          have ap := Own.ap hO.2 (by decide) (by decide) hL1
          have h72 := hO.2.1
          have hO1 : o + 5 ≤ n1 := hO.1.1
          obtain ⟨a, rfl, _, ha, ea⟩ := g1.n (by omega)
          obtain ⟨b, rfl, hb2, eb⟩ := g0.n (by omega)
          obtain ⟨d, rfl, _, hd, ed⟩ := g2.n (by omega)
          rw [ea, eb, ed]
          have fin : ∀ I2, Fr [27, 28, 29, o + 1] I1 I2 ∧ CK I2 κ L1 dl1 pl1 ld1 lp1 → KF (I, J, R, S, nx) (I2, J1, R1, S1, n1) ∧ CI (I2, J1, R1, S1, n1) (κ, ι, (τ, tm, tn), (t, tp), fk, fp) := fun I2 h2 => by
            have st := CI.step hR1 wL1 hL1 (h2.1.wk (r2 := [27, 28, 29, o + 1, o + 2, o + 3, o + 4]) (by simp)) (scrO hO.2) h2.2 (hP1.fr h2.1 (by simp; omega) (by simp; omega))
            exact ⟨hk.trans st.1, st.2⟩
          have em : qsm κ a = qac κ a := Nat.and_comm _ _
          have hac := qac_lt ho a
          have cc := coverIn_c (l := l) (G := G) (k := k) (J := J1) hR1.1 wL1 hL1.1 ⟨hN1, hL1.2.1, hV1⟩ ho (by omega) hO.1 ap (kd := a) (wn := b) (by omega) (by omega)
          obtain ⟨q, hq⟩ : ∃ q, qcv κ b (qsm κ a) (qsm κ a) = q := ⟨_, rfl⟩
          have hqv : ∀ v, q = some v → v < 256 ∧ v ≠ 0 := fun v hv => by
            rw [hv] at hq
            exact ⟨by have := qcv_le κ b (qsm κ a) _ _ hq; omega, qcv_pos hq⟩
          rw [hq] at cc ⊢
          refine sX11_cover_19 (u1 := nI (cvB q)) (P1 := fun I I' => Fr [27, 28, 29, o + 1] I I' ∧ CK I' κ L1 dl1 pl1 ld1 lp1) (by omega) hO.1.2.1 cc (fun I2 h2 hu hz => ?_) (fun I2 h2 hu hz => ?_) (fun I2 h2 hu => ?_)
          · cases q with
            | none => exact absurd rfl hu
            | some v =>
              have hd1 : d = 1 := by
                have : ¬ d = 0 := fun hz2 => hz (by rw [hz2]; rfl)
                omega
              exact ⟨ok0 (by show nI v = if d = 1 then nI v else nI (qpop v); rw [if_pos hd1]), fin I2 h2⟩
          · cases q with
            | none => exact absurd rfl hu
            | some v =>
              have hd0 : d = 0 := (nI_eq (b := 0) (by omega) (by decide)).mp hz
              exact ⟨ok0 (by show v_J6_bitCount_0f7a4 (nI v) = _; rw [cnt_c v (hqv v rfl).1]; show nI (qpop v) = if d = 1 then nI v else nI (qpop v); rw [if_neg (by omega)]), fin I2 h2⟩
          · cases q with
            | none => exact ⟨ok0 rfl, fin I2 h2⟩
            | some v =>
              have := hqv v rfl
              exact absurd ((nI_eq (a := v) (b := 0) (by omega) (by decide)).mp hu) this.2
        · rintro E μ' ⟨I1, J1, R1, S1, n1, o, hr1, _⟩; cases hr1
      · have c0 : nd_needWard (I L 1) x2 = none := by rw [k0, if_pos g0]
        have c1 : nd_needKind x1 = none := by rw [k1, if_pos g1]
        have c2 : nd_needWithin x3 (0 : Int32) (1 : Int32) = some eIA := by rw [k2, if_neg g2]
        rw [show aCover κ x1 x2 x3 = (2, 0) by unfold aCover; rw [if_pos g0, if_neg (fun g => g2 g.2)]]
        exact Cal.of rfl (by decide +kernel) (by simp) (Nat.le_of_ble_eq_true rfl) rfl (sX11_cover_0 (Qn1 := fun _ _ => True) (mc1 := 5) (ms1 := 3077) hl0 w wL wl (by decide) (ndy c0) (by decide) (fun _ => ndy c1) (by decide) (fun _ _ => ndn c2 (fun n' hn => ⟨rfl, CI.thr hC0 hn⟩)) ⟨by decide, by decide⟩ (fun _ _ g => ndx c2 g) (fun _ _ g => ndx c2 g) (fun _ _ g => ndx c2 g))
    · have c0 : nd_needWard (I L 1) x2 = none := by rw [k0, if_pos g0]
      have c1 : nd_needKind x1 = some eIA := by rw [k1, if_neg g1]
      rw [show aCover κ x1 x2 x3 = (2, 0) by unfold aCover; rw [if_pos g0, if_neg (fun g => g1 g.1)]]
      exact Cal.of rfl (by decide +kernel) (by simp) (Nat.le_of_ble_eq_true rfl) rfl (sX11_cover_0 (Qn1 := fun _ _ => True) (mc1 := 5) (ms1 := 3077) hl0 w wL wl (by decide) (ndy c0) (by decide) (fun _ => ndn c1 (fun n' hn => ⟨rfl, CI.thr hC0 hn⟩)) (by decide) (fun _ g => ndx c1 g) ⟨by decide, by decide⟩ (fun _ g => ndx c1 g) (fun _ g => ndx c1 g) (fun _ g => ndx c1 g))
  · have c0 : nd_needWard (I L 1) x2 = some eNS := by rw [k0, if_neg g0]
    rw [show aCover κ x1 x2 x3 = (1, 0) by unfold aCover; rw [if_neg g0]]
    exact Cal.of rfl (by decide +kernel) (by simp) (Nat.le_of_ble_eq_true rfl) rfl (sX11_cover_0 (Qn1 := fun _ _ => True) (mc1 := 5) (ms1 := 3077) hl0 w wL wl (by decide) (ndn c0 (fun n' hn => ⟨rfl, CI.thr hC0 hn⟩)) (by decide) (fun g => ndx c0 g) (by decide) (fun g => ndx c0 g) ⟨by decide, by decide⟩ (fun g => ndx c0 g) (fun g => ndx c0 g) (fun g => ndx c0 g))
theorem count_p {x1 : Int32} (hl0 : l.stackTraces = false) (hC : CI (I, J, R, S, nx) (κ, ι, (τ, tm, tn), (t, tp), fk, fp)) (hs : sok hb pb κ) (hhb : hb < 2 ^ 28) : Cal l G (k + 1) 40 14000 mX11_count [.ref 0, .int x1] (I, J, R, S, nx) (CQ (I, J, R, S, nx) (ansR [] (0, aCount κ (nI tp) x1)) (κ, ι, (τ, tm, tn), (t, tp), fk, fp)) := by
  have hC0 := hC
  obtain ⟨ow, L, dl, pl, ld, lp, hR, wL, hL, hN, hV, hP⟩ := hC
  have hR : CR I J R S nx ow ι τ tm tn t tp fk fp := hR
  have wL : R 14 0 = some L := wL
  have hL : LdC I R S nx ow L κ dl pl ld lp := hL
  have hN : CN I κ := hN
  have hV : PV I κ := hV
  have hP : PS I 30 31 κ := hP
  have w : CF R S nx := hR.1
  have wl : LW R S nx L dl pl ld lp := hL.1
  have h : CK I κ L dl pl ld lp := ⟨hN, hL.2.1, hV⟩
  have ho := hs.q
  have h1w : κ 1 ≤ 5 := ho.1
  have h2a : κ 2 ≤ 8 := ho.2.1
  have h54 : κ 54 ≤ hb := ho.2.2.2.2.2.2.2.2.2.2.1
  have e1 : I L 1 = nI (κ 1) := h.2.1.1.2.1
  have e2 : I L 2 = nI (κ 2) := h.2.1.1.2.2.1
  have e0 : I L 0 = nI (κ 0) := h.2.1.1.1
  have e6 : I L 4 = nI (κ 6) := h.2.1.1.2.2.2
  have h6 : κ 6 ≤ 1 := hs.1.2.2.2.2.1
  have ea := live_c (l := l) (G := G) (k := k) (J := J) w wL wl h ho (by omega)
  have c7 : I 30 2 = nI (κ 5) := by obtain ⟨s, q1, q2, q3, q4⟩ := hP; exact q3
  have c8 : I 1 1 = nI tp := hR.2.2.1.1
  have out : ∀ v : Int32, v = aCount κ (nI tp) x1 → CQ (I, J, R, S, nx) (ansR [] (0, aCount κ (nI tp) x1)) (κ, ι, (τ, tm, tn), (t, tp), fk, fp) (.inl (some (.int v))) (I, J, R, S, nx) := fun v hv => ⟨ok0 hv, CI.same hC0⟩
  refine Cal.of rfl (by decide +kernel) (by simp) (Nat.le_of_ble_eq_true rfl) rfl (sX11_count_0 (u1 := nI (qall κ)) (P1 := fun I I' => I' = I) w wL wl ?_ ?_ ?_ ?_ ?_ ?_ ?_ ?_ ?_ ?_ ?_ ?_)
  · intro g
    refine out _ ?_
    have ne : ∀ v : Int32, 0 ≤ v.toInt → v.toInt ≤ 8 → x1 ≠ v := fun v h1 h2 e => by rw [e] at g; omega
    unfold aCount
    rw [if_neg (ne 0 (by decide) (by decide)), if_neg (ne 1 (by decide) (by decide)), if_neg (ne 2 (by decide) (by decide)), if_neg (ne 3 (by decide) (by decide)), if_neg (ne 4 (by decide) (by decide)), if_neg (ne 5 (by decide) (by decide)), if_neg (ne 6 (by decide) (by decide)), if_neg (ne 7 (by decide) (by decide)), if_neg (ne 8 (by decide) (by decide))]
  · intro g; subst g; exact out _ e0
  · intro g; subst g; exact out _ e1
  · intro g; subst g; exact out _ e2
  · intro g; exact ea
  · intro g I1 h1; subst g; subst h1; exact out _ (by rw [cnt_c _ (qall_lt ho)]; rfl)
  · intro g; subst g; exact out _ h.1.h.1
  · intro g; subst g; exact out _ h.1.h.2.1
  · intro g q; subst g; exact out _ (by rw [e6] at q; show _ = nI (κ 6); rw [q])
  · intro g q; subst g; exact out _ (by rw [e6] at q; show _ = nI (κ 6); have : ¬ κ 6 = 0 := fun hz => q (by rw [hz]; rfl); rw [show κ 6 = 1 by omega]; rfl)
  · intro g; subst g; exact out _ c7
  · intro g; subst g; exact out _ c8
theorem lawless_p {x1 : Int32} (hl0 : l.stackTraces = false) (hC : CI (I, J, R, S, nx) (κ, ι, (τ, tm, tn), (t, tp), fk, fp)) (hs : sok hb pb κ) (hhb : hb < 2 ^ 28) : Cal l G (k + 4) 40 14000 mX11_lawless [.ref 0, .int x1] (I, J, R, S, nx) (CQ (I, J, R, S, nx) (ansR [eNS] (aLawless κ x1)) (κ, ι, (τ, tm, tn), (t, tp), fk, fp)) := by
  have hC0 := hC
  obtain ⟨ow, L, dl, pl, ld, lp, hR, wL, hL, hN, hV, hP⟩ := hC
  have hR : CR I J R S nx ow ι τ tm tn t tp fk fp := hR
  have wL : R 14 0 = some L := wL
  have hL : LdC I R S nx ow L κ dl pl ld lp := hL
  have hN : CN I κ := hN
  have hV : PV I κ := hV
  have hP : PS I 30 31 κ := hP
  have w : CF R S nx := hR.1
  have wl : LW R S nx L dl pl ld lp := hL.1
  have h : CK I κ L dl pl ld lp := ⟨hN, hL.2.1, hV⟩
  have ho := hs.q
  have h1w : κ 1 ≤ 5 := ho.1
  have h2a : κ 2 ≤ 8 := ho.2.1
  have h54 : κ 54 ≤ hb := ho.2.2.2.2.2.2.2.2.2.2.1
  have e1 : I L 1 = nI (κ 1) := h.2.1.1.2.1
  have e2 : I L 2 = nI (κ 2) := h.2.1.1.2.2.1
  have k0 : nd_needWard (I L 1) x1 = (if gL x1 (κ 1) then none else some eNS) := (by rw [e1]; exact ndW (by omega))
  by_cases g0 : gL x1 (κ 1)
  · have c0 : nd_needWard (I L 1) x1 = none := by rw [k0, if_pos g0]
    rw [show aLawless κ x1 = (0, jP (qfi (fun d => decide (qcin κ (cN x1) (κ 54 + d) = 0)) 201)) by unfold aLawless; rw [if_pos g0]]
    refine Cal.of rfl (by decide +kernel) (by simp) (Nat.le_of_ble_eq_true rfl) rfl (sX11_lawless_0 hl0 w wL wl (by decide) (ndy c0) (fun _ => ?_))
    · obtain ⟨b, rfl, hb2, eb⟩ := g0.n (by omega)
      rw [eb]
      refine upto (W := fun i (s : Nat → Nat → Int32) => hX11_lawless_7 l G k _ _ _ (nI b) (nI i) (s, J, R, S, nx) _ _) (P := fun i s => (∀ j, j < i → (fun d => decide (qcin κ b (κ 54 + d) = 0)) j = false) ∧ Fr [27, 28, 29] I s ∧ CK s κ L dl pl ld lp) 201 ?_ ?_ (i := 0) (s := I) (Nat.zero_le _) ⟨fun j hj => absurd hj (Nat.not_lt_zero j), Fr.rf, h⟩
      · intro I1 ⟨hq, hF, h1⟩
        have c2 : (200 : Int32) < nI 201 := by decide
        refine sX11_lawless_7 (u1 := 0) (P1 := fun _ _ => True) w ?_ ?_ ?_ ?_ <;> intros <;> (first | exact absurd (by with_reducible assumption) c2 | exact absurd c2 (by with_reducible assumption) | skip)
        rw [qfi_none hq]
        exact ⟨ok0 rfl, CI.look hR wL hL hP hF h1⟩
      · intro i I1 hi ⟨hq, hF, h1⟩ ih
        have c2 : ¬ (200 : Int32) < nI i := nI_nlt (b := i) (a := 200) (by omega) (by decide)
        have hlt := qcode_lt κ b (qdeg κ b (κ 54 + i)) (κ 54 + i) (qall κ) ho.2.1
        refine sX11_lawless_7 (u1 := nI (qcin κ b (κ 54 + i))) (P1 := fun I I' => Fr [27, 28, 29] I I' ∧ CK I' κ L dl pl ld lp) w ?_ ?_ ?_ ?_ <;> intros <;> (first | exact absurd (by with_reducible assumption) c2 | exact absurd c2 (by with_reducible assumption) | skip)
        · rw [h1.1.h.1, nI_add]; exact codeIn_c w wL wl h1 ho (by omega) (by omega) (by omega)
        · rename_i I2 h2 h0
          rw [nI_1]
          refine ih I2 ⟨fun j hj => ?_, hF.tr h2.1 (by decide), h2.2⟩
          by_cases c : j = i
          · rw [c]
            have hz : qcin κ b (κ 54 + i) ≠ 0 := fun hz => h0 (by rw [hz]; rfl)
            simp [hz]
          · exact hq j (by omega)
        · rename_i I2 h2 h0
          have hz : qcin κ b (κ 54 + i) = 0 := (nI_eq (b := 0) (by unfold qcin; omega) (by decide)).mp h0
          rw [qfi_some hq hi (by simp [hz])]
          exact ⟨ok0 rfl, CI.look hR wL hL hP (hF.tr h2.1 (by decide)) h2.2⟩
  · have c0 : nd_needWard (I L 1) x1 = some eNS := by rw [k0, if_neg g0]
    rw [show aLawless κ x1 = (1, 0) by unfold aLawless; rw [if_neg g0]]
    exact Cal.of rfl (by decide +kernel) (by simp) (Nat.le_of_ble_eq_true rfl) rfl (sX11_lawless_0 hl0 w wL wl (by decide) (ndn c0 (fun n' hn => ⟨rfl, CI.thr hC0 hn⟩)) (fun g => ndx c0 g))
theorem wid1 {A c q : Nat} (hA : A < 2 ^ 30) (hc : c < 2 ^ 30) (hq : q < 2 ^ 30) : (if nI (A - q) < nI A - nI c then nI A - nI c else nI (A - q)) = nI (A - (if c < q then c else q)) := by
  have e : (nI (A - q) < nI A - nI c) = ((A - q : Nat) < (A : Int) - c) := by
    rw [fa_lt, nI_toInt (by omega), nI_z, nI_z, zI_sub, zI_toInt (by omega)]
  simp only [e]
  by_cases g : ((A - q : Nat) : Int) < (A : Int) - c
  · rw [if_pos g, if_pos (by omega), pk_sub (by omega)]
  · rw [if_neg g]; congr 1; split <;> omega
theorem wid2 {A c q : Nat} (hA : A < 2 ^ 30) (hc : c < 2 ^ 30) (hq : q < 2 ^ 30) : (if nI (q - A) < nI c - nI A then nI c - nI A else nI (q - A)) = nI ((if q < c then c else q) - A) := by
  have e : (nI (q - A) < nI c - nI A) = ((q - A : Nat) < (c : Int) - A) := by
    rw [fa_lt, nI_toInt (by omega), nI_z, nI_z, zI_sub, zI_toInt (by omega)]
  simp only [e]
  by_cases g : ((q - A : Nat) : Int) < (c : Int) - A
  · rw [if_pos g, if_pos (by omega), pk_sub (by omega)]
  · rw [if_neg g]; congr 1; split <;> omega
theorem widen_p {x1 : Int32} {x2 : Int32} (hl0 : l.stackTraces = false) (hC : CI (I, J, R, S, nx) (κ, ι, (τ, tm, tn), (t, tp), fk, fp)) (hs : sok hb pb κ) (hhb : hb < 2 ^ 28) : Cal l G (k + 3) 40 14000 mX11_widen [.ref 0, .int x1, .int x2] (I, J, R, S, nx) (CQ (I, J, R, S, nx) (ansR [eNS] (aWiden κ x1 x2)) (κ, ι, (τ, tm, tn), (t, tp), fk, fp)) := by
  have hC0 := hC
  obtain ⟨ow, L, dl, pl, ld, lp, hR, wL, hL, hN, hV, hP⟩ := hC
  have hR : CR I J R S nx ow ι τ tm tn t tp fk fp := hR
  have wL : R 14 0 = some L := wL
  have hL : LdC I R S nx ow L κ dl pl ld lp := hL
  have hN : CN I κ := hN
  have hV : PV I κ := hV
  have hP : PS I 30 31 κ := hP
  have w : CF R S nx := hR.1
  have wl : LW R S nx L dl pl ld lp := hL.1
  have h : CK I κ L dl pl ld lp := ⟨hN, hL.2.1, hV⟩
  have ho := hs.q
  have h1w : κ 1 ≤ 5 := ho.1
  have h2a : κ 2 ≤ 8 := ho.2.1
  have h54 : κ 54 ≤ hb := ho.2.2.2.2.2.2.2.2.2.2.1
  have e1 : I L 1 = nI (κ 1) := h.2.1.1.2.1
  have e2 : I L 2 = nI (κ 2) := h.2.1.1.2.2.1
  have k0 : nd_needAct (I L 2) x1 = (if gL x1 (κ 2) then none else some eNS) := (by rw [e2]; exact ndW (by omega))
  have k1 : nd_needWard (I L 1) x2 = (if gL x2 (κ 1) then none else some eNS) := (by rw [e1]; exact ndW (by omega))
  by_cases g0 : gL x1 (κ 2)
  · by_cases g1 : gL x2 (κ 1)
    · have c0 : nd_needAct (I L 2) x1 = none := by rw [k0, if_pos g0]
      have c1 : nd_needWard (I L 1) x2 = none := by rw [k1, if_pos g1]
      rw [show aWiden κ x1 x2 = (0, nI ((κ (37 + cN x1) - qlo (qdn κ (cN x2)) 24) + (qhi (qdn κ (cN x2)) 24 - κ (45 + cN x1)))) by unfold aWiden; rw [if_pos ⟨g0, g1⟩]]
      refine Cal.of rfl (by decide +kernel) (by simp) (Nat.le_of_ble_eq_true rfl) rfl (sX11_widen_0 hl0 w wL wl (by decide) (ndy c0) (by decide) (fun _ => ndy c1) (fun _ _ => ?_))
      · obtain ⟨a, rfl, ha, ea⟩ := g0.n (by omega)
        obtain ⟨b, rfl, hb2, eb⟩ := g1.n (by omega)
        rw [ea, eb]
        obtain ⟨f, hf⟩ : ∃ f, qdn κ b = f := ⟨_, rfl⟩
        have hfi : ∀ i, qdeg κ b (κ 54 + i) = f i := fun i => congrFun hf i
        have hfl : ∀ i, f i ≤ 99 := fun i => by rw [← hfi]; exact qdeg_le _ _ _
        have hA := ho.2.2.2.2.2.2.2.2.1 a (by omega)
        rw [hf]
        have z0 : nI (κ (37 + a) - qlo f 0) = 0 := by rw [show κ (37 + a) - qlo f 0 = 0 by show κ (37 + a) - 99 = 0; omega]; rfl
        have z1 : nI (qhi f 0 - κ (45 + a)) = 0 := by rw [show qhi f 0 - κ (45 + a) = 0 by show 0 - κ (45 + a) = 0; omega]; rfl
        have key := upto (W := fun i (s : Nat → Nat → Int32) => hX11_widen_18 l G k 40 14000 (CQ (I, J, R, S, nx) (ansR [eNS] (0, nI (κ (37 + a) - qlo f 24 + (qhi f 24 - κ (45 + a))))) (κ, ι, (τ, tm, tn), (t, tp), fk, fp)) (nI a) (nI b) (nI (κ (37 + a) - qlo f i)) (nI (qhi f i - κ (45 + a))) (nI i) (s, J, R, S, nx) (40 - 1 - 1) (14000 - 6 - 6)) (P := fun i s => Fr [27, 28, 29] I s ∧ CK s κ L dl pl ld lp) 24 ?_ ?_ (i := 0) (s := I) (Nat.zero_le _) ⟨Fr.rf, h⟩
        · rw [z0, z1] at key; exact key
        · intro I1 ⟨hF, h1⟩
          have c2 : (24 : Int32) ≤ nI 24 := by decide
          refine sX11_widen_18 (u1 := 0) (P1 := fun _ _ => True) w ?_ ?_ ?_ ?_ ?_ <;> intros <;> (first | exact absurd (by with_reducible assumption) c2 | exact absurd c2 (by with_reducible assumption) | skip)
          rw [nI_add]
          exact ⟨ok0 rfl, CI.look hR wL hL hP hF h1⟩
        · intro i I1 hi ⟨hF, h1⟩ ih
          have c2 : ¬ (24 : Int32) ≤ nI i := nI_ge (b := 24) hi (by decide)
          have l0 := hfl i
          have l1 := qlo_le f i
          have l2 := qhi_le hfl i
          have e1 : (33 : Int32) + nI a = nI (33 + a) := nI_add 33 _
          have e2 : (41 : Int32) + nI a = nI (41 + a) := nI_add 41 _
          refine sX11_widen_18 (u1 := nI (f i)) (P1 := fun I I' => Fr [27, 28] I I' ∧ CK I' κ L dl pl ld lp) w ?_ ?_ ?_ ?_ ?_ <;> intros <;> (first | exact absurd (by with_reducible assumption) c2 | exact absurd c2 (by with_reducible assumption) | skip)
          · rw [h1.1.h.1, nI_add, ← hfi]; exact degreeIn_c w wL wl h1 ho (by omega) (by omega) (by omega)
          · rw [e1]; exact vp_in_nI (by omega) (by decide)
          · rw [e2]; exact vp_in_nI (by omega) (by decide)
          · rename_i I2 h2
            rw [e1, e2, nI_clamp (by omega), nI_clamp (by omega), show 33 + a = 3 + (30 + a) by omega, show 41 + a = 3 + (38 + a) by omega, h2.2.1.j (by omega), h2.2.1.j (by omega), show 7 + (30 + a) = 37 + a by omega, show 7 + (38 + a) = 45 + a by omega, wid1 (by omega) (by omega) (by omega), wid2 (by omega) (by omega) (by omega), nI_1]
            exact ih I2 ⟨hF.tr h2.1 (by decide), h2.2⟩
    · have c0 : nd_needAct (I L 2) x1 = none := by rw [k0, if_pos g0]
      have c1 : nd_needWard (I L 1) x2 = some eNS := by rw [k1, if_neg g1]
      rw [show aWiden κ x1 x2 = (1, 0) by unfold aWiden; rw [if_neg (fun g => g1 g.2)]]
      exact Cal.of rfl (by decide +kernel) (by simp) (Nat.le_of_ble_eq_true rfl) rfl (sX11_widen_0 hl0 w wL wl (by decide) (ndy c0) (by decide) (fun _ => ndn c1 (fun n' hn => ⟨rfl, CI.thr hC0 hn⟩)) (fun _ g => ndx c1 g))
  · have c0 : nd_needAct (I L 2) x1 = some eNS := by rw [k0, if_neg g0]
    rw [show aWiden κ x1 x2 = (1, 0) by unfold aWiden; rw [if_neg (fun g => g0 g.1)]]
    exact Cal.of rfl (by decide +kernel) (by simp) (Nat.le_of_ble_eq_true rfl) rfl (sX11_widen_0 hl0 w wL wl (by decide) (ndn c0 (fun n' hn => ⟨rfl, CI.thr hC0 hn⟩)) (by decide) (fun g => ndx c0 g) (fun g => ndx c0 g))
theorem strictest_p {zz : Unit} (hl0 : l.stackTraces = false) (hC : CI (I, J, R, S, nx) (κ, ι, (τ, tm, tn), (t, tp), fk, fp)) (hs : sok hb pb κ) (hhb : hb < 2 ^ 28) : Cal l G (k + 4) 40 14000 mX11_strictest [.ref 0] (I, J, R, S, nx) (CQ (I, J, R, S, nx) (ansR [] (aStrict κ)) (κ, ι, (τ, tm, tn), (t, tp), fk, fp)) := by
  have hC0 := hC
  obtain ⟨ow, L, dl, pl, ld, lp, hR, wL, hL, hN, hV, hP⟩ := hC
  have hR : CR I J R S nx ow ι τ tm tn t tp fk fp := hR
  have wL : R 14 0 = some L := wL
  have hL : LdC I R S nx ow L κ dl pl ld lp := hL
  have hN : CN I κ := hN
  have hV : PV I κ := hV
  have hP : PS I 30 31 κ := hP
  have w : CF R S nx := hR.1
  have wl : LW R S nx L dl pl ld lp := hL.1
  have h : CK I κ L dl pl ld lp := ⟨hN, hL.2.1, hV⟩
  have ho := hs.q
  have h1w : κ 1 ≤ 5 := ho.1
  have h2a : κ 2 ≤ 8 := ho.2.1
  have h54 : κ 54 ≤ hb := ho.2.2.2.2.2.2.2.2.2.2.1
  have e1 : I L 1 = nI (κ 1) := h.2.1.1.2.1
  have e2 : I L 2 = nI (κ 2) := h.2.1.1.2.2.1
  have plt : ∀ wn n, qcin κ wn n < 256 := fun wn n => qcode_lt κ wn (qdeg κ wn n) n (qall κ) ho.2.1
  have lt5 : ∀ j, qinf κ (κ 1) j < 2 ^ 31 := fun j => by
    have := qsum_le (f := fun wn => qpop (qcin κ wn (κ 54 + j))) (c := 8) (n := κ 1) (fun wn _ => qpop_le _ (plt wn _))
    unfold qinf; omega
  unfold aStrict
  have inner : ∀ (Q : Res → Mem → Prop) (x1 x2 : Int32) (n : Nat) (I1 : Nat → Nat → Int32) (cb sb : Nat), n < 201 → Fr [27, 28, 29] I I1 → CK I1 κ L dl pl ld lp → (∀ I2, Fr [27, 28, 29] I I2 → CK I2 κ L dl pl ld lp → hX11_strictest_6 l G k 40 14000 Q (if nI (qinf κ (κ 1) n) ≤ x2 then x1 else nI n) (if nI (qinf κ (κ 1) n) ≤ x2 then x2 else nI (qinf κ (κ 1) n)) (nI (n + 1)) (I2, J, R, S, nx) cb sb) → hX11_strictest_19 l G k 40 14000 Q x1 x2 (nI n) (0 : Int32) (0 : Int32) (I1, J, R, S, nx) cb sb := by
    intro Q x1 x2 n I1 cb sb hn hF h1 hq
    refine upto (W := fun i (s : Nat → Nat → Int32) => hX11_strictest_19 l G k 40 14000 Q x1 x2 (nI n) (nI (qinf κ i n)) (nI i) (s, J, R, S, nx) cb sb) (P := fun i s => Fr [27, 28, 29] I s ∧ CK s κ L dl pl ld lp) (κ 1) ?_ ?_ (i := 0) (s := I1) (Nat.zero_le _) ⟨hF, h1⟩
    · intro I2 ⟨hF2, h2⟩
      have c0 : I2 L 1 ≤ nI (κ 1) := by rw [h2.2.1.1.2.1]; exact nI_le (Nat.le_refl _) (by omega)
      have := hq I2 hF2 h2
      refine sX11_strictest_19 (u1 := 0) (P1 := fun _ _ => True) w wL wl ?_ ?_ ?_ ?_ <;> intros <;> (first | exact absurd (by with_reducible assumption) c0 | exact absurd c0 (by with_reducible assumption) | skip)
      · rename_i g; rw [if_pos g, if_pos g] at this; rw [nI_1]; exact this
      · rename_i g; rw [if_neg g, if_neg g] at this; rw [nI_1]; exact this
    · intro i I2 hi ⟨hF2, h2⟩ ih
      have c0 : ¬ I2 L 1 ≤ nI i := by rw [h2.2.1.1.2.1]; exact nI_ge hi (by omega)
      refine sX11_strictest_19 (u1 := nI (qcin κ i (κ 54 + n))) (P1 := fun I I' => Fr [27, 28, 29] I I' ∧ CK I' κ L dl pl ld lp) w wL wl ?_ ?_ ?_ ?_ <;> intros <;> (first | exact absurd (by with_reducible assumption) c0 | exact absurd c0 (by with_reducible assumption) | skip)
      · rw [h2.1.h.1, nI_add]; exact codeIn_c w wL wl h2 ho (by omega) (by omega) (by omega)
      · rename_i I3 h3
        rw [cnt_c _ (plt _ _), nI_add, nI_1]
        exact ih I3 ⟨hF2.tr h3.1 (by decide), h3.2⟩
  refine Cal.of rfl (by decide +kernel) (by simp) (Nat.le_of_ble_eq_true rfl) rfl (sX11_strictest_0 ?_)
  have st6 : ∀ (Q : Res → Mem → Prop) (x1 x2 x3 : Int32) (I1 : Nat → Nat → Int32) (cb sb : Nat), ¬ (200 : Int32) < x3 → hX11_strictest_19 l G k 40 14000 Q x1 x2 x3 (0 : Int32) (0 : Int32) (I1, J, R, S, nx) cb sb → hX11_strictest_6 l G k 40 14000 Q x1 x2 x3 (I1, J, R, S, nx) cb sb := fun Q x1 x2 x3 I1 cb sb c hh => sX11_strictest_6 (fun g => absurd g c) (fun _ => hh)
  refine st6 _ _ _ (nI 0) I 40 14000 (by decide) (inner _ _ _ 0 I 40 14000 (by decide) Fr.rf h (fun I2 hF2 h2 => ?_))
  have c9 : ¬ nI (qinf κ (κ 1) 0) ≤ (-1 : Int32) := by rw [fa_le, nI_toInt (lt5 0), show (-1 : Int32).toInt = -1 by decide]; omega
  rw [if_neg c9, if_neg c9]
  obtain ⟨f, hf⟩ : ∃ f, (fun n => qinf κ (κ 1) n) = f := ⟨_, rfl⟩
  have hfi : ∀ n, qinf κ (κ 1) n = f n := fun n => congrFun hf n
  rw [hf, hfi]
  simp only [hfi] at lt5 inner
  refine upto (W := fun i (s : Nat → Nat → Int32) => hX11_strictest_6 l G k 40 14000 _ (nI (qst f i)) (nI (f (qst f i))) (nI (i + 1)) (s, J, R, S, nx) 40 14000) (P := fun i s => Fr [27, 28, 29] I s ∧ CK s κ L dl pl ld lp) 200 ?_ ?_ (i := 0) (s := I2) (Nat.zero_le _) ⟨hF2, h2⟩
  · intro I3 ⟨hF3, h3⟩
    exact sX11_strictest_6 (fun _ => ⟨ok0 rfl, CI.look hR wL hL hP hF3 h3⟩) (fun c => absurd (by decide) c)
  · intro i I3 hi ⟨hF3, h3⟩ ih
    have c2 : ¬ (200 : Int32) < nI (i + 1) := nI_nlt (b := i + 1) (a := 200) (by omega) (by decide)
    refine st6 _ _ _ _ I3 _ _ c2 (inner _ _ _ (i + 1) I3 _ _ (by omega) hF3 h3 (fun I4 hF4 h4 => ?_))
    have := ih I4 ⟨hF4, h4⟩
    simp only [nI_leI (lt5 _) (lt5 _)]
    have e := qst_s f i
    by_cases g : f (qst f i) < f (i + 1)
    · rw [if_pos g] at e; rw [e] at this
      rw [if_neg (by omega), if_neg (by omega)]; exact this
    · rw [if_neg g] at e; rw [e] at this
      rw [if_pos (by omega), if_pos (by omega)]; exact this
end A
