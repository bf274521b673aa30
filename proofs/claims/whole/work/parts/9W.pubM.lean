/-! the class: thermometers -/
section A
variable {l : Launch} {G : Gh} {k : Nat} {I : Nat → Nat → Int32} {J : Nat → Nat → Int64} {R : Nat → Nat → Option Nat} {S : Nat → Nat × Nat} {nx : Nat} {κ : Nat → Nat} {hb pb : Nat}
variable {ι : Nat → Option (Nat → Nat)} {τ tm : Nat → Nat} {tn : Nat → Nat → Int64} {tp : Nat} {fk fp : Int32} {t : Nat → Nat} {ow : Nat → Nat} {L dl pl ld lp : Nat}
theorem gS_pl {x y z : Int32} (h : gS κ τ tm tn x y z = 0) : τ (cN x) ≠ 0 := by
  unfold gS at h
  split at h
  · split at h
    · cases h
    · assumption
  · cases h
theorem ansR_t {Es : List String} {n : Nat} (h : n ≠ 0) : (.inr (Es.getD (n - 1) "") : Res) = ansR Es (n, 0) := by unfold ansR; rw [if_neg h]
theorem seen_p {x1 x2 x3 : Int32} (hl0 : l.stackTraces = false) (hC : CI (I, J, R, S, nx) (κ, ι, (τ, tm, tn), (t, tp), fk, fp)) (hs : sok hb pb κ) (hhb : hb < 2 ^ 28) : Cal l G (k + 6) 40 14000 mX11_seen [.ref 0, .int x1, .int x2, .int x3] (I, J, R, S, nx) (CQ (I, J, R, S, nx) (ansR [eNS, eIS, eIA] (aSeen κ τ tm tn x1 x2 x3)) (κ, ι, (τ, tm, tn), (t, tp), fk, fp)) := by
  have hC0 := hC
  obtain ⟨ow, L, dl, pl, ld, lp, hR, wL, hL, hN, hV, hP⟩ := hC
  have hR : CR I J R S nx ow ι τ tm tn t tp fk fp := hR
  have wL : R 14 0 = some L := wL
  have hL : LdC I R S nx ow L κ dl pl ld lp := hL
  have hN : CN I κ := hN
  have hV : PV I κ := hV
  have hP : PS I 30 31 κ := hP
  have w : CF R S nx := hR.1
  have wl : LW R S nx L dl pl ld lp := hL.1
  have h : CK I κ L dl pl ld lp := ⟨hN, hL.2.1, hV⟩
  have ho := hs.q
  have h1w : κ 1 ≤ 5 := ho.1
  have h2a : κ 2 ≤ 8 := ho.2.1
  have h54 : κ 54 ≤ hb := ho.2.2.2.2.2.2.2.2.2.2.1
  have e1 : I L 1 = nI (κ 1) := h.2.1.1.2.1
  have e2 : I L 2 = nI (κ 2) := h.2.1.1.2.2.1
  refine Cal.of rfl (by decide +kernel) (by simp) (Nat.le_of_ble_eq_true rfl) rfl (sX11_seen_0 (Qn1 := SnQ (gS κ τ tm tn x1 x2 x3) (35 + 2 * cN x1) (I, J, R, S, nx)) (mc1 := 6) (ms1 := 36) w ⟨by decide, by decide⟩ (needSeen_c (k := k + 3) hl0 hC0 hs hhb) ?_ ?_)
  · rintro r μ' (⟨g, hr, hμ⟩ | ⟨_, n', hr, _⟩)
    · obtain rfl := Sum.inl.inj hr
      subst hμ
      have hpl := gS_pl g
      rw [show aSeen κ τ tm tn x1 x2 x3 = (0, nI (qbs κ tm tn (cN x1) (cN x2) (cN x3)).length) by unfold aSeen; rw [if_pos g]]
      obtain ⟨a, b, c, rfl, rfl, rfl, ha, hb1, hc1, ea, eb, ec, hm, hv⟩ := gS0 ho g
      rw [ea, eb, ec]
      rw [ea] at hpl
      refine sX11_seen_7 (Qn1 := LzQ 10 (I, J, R, S, nx) (κ, ι, (τ, tm, tn), (t, tp), fk, fp)) (mc1 := 4) (ms1 := 111) w ⟨by decide, by decide⟩ (glass_c hC0) ?_ ?_
      · rintro r μ' ⟨I1, J1, R1, S1, n1, o, hr1, rfl, hk, hc, ho10⟩
        obtain rfl := Sum.inl.inj hr1
        obtain ⟨ow1, L1, dl1, pl1, ld1, lp1, hR1, wL1, hL1, hN1, hV1, hP1⟩ := hc
        have hR1 : CR I1 J1 R1 S1 n1 ow1 ι τ tm tn t tp fk fp := hR1
        have hO := hR1.2.2.2.2.1.2.2.2 o ho10
        have ap := Own.ap hO.2 (by decide) (by decide) hL1
        have h72 := hO.2.1
        have hO1 : o + 4 ≤ n1 := hO.1.1
        have hTr := hR1.2.1 a ha
        obtain ⟨t1, t2, t3, t4, t5⟩ := tray_TA hR1.1 ha
        have hTR : TR I1 J1 R1 S1 n1 (35 + 2 * a) (35 + 2 * a + 1) (tm a) (tf tn a) := ⟨⟨t1, by omega, by simp; omega, t2, t3, t4, t5⟩, hTr.1.trans (if_neg hpl), hm.2, fun i hi => by rw [show 35 + 2 * a + 1 = 36 + 2 * a by omega, hTr.2.2.2 i (by omega)]; rfl⟩
        have hfi : ∀ i, i < tm a → tf tn a i ≠ -1 → i < κ 54 := fun i hi hne => by
          have := hv i hi
          by_cases c5 : i < κ 54
          · exact c5
          · rw [if_neg c5] at this
            exact absurd (show (tn a i).toInt = -1 by omega) hne
        have cf := find_t (l := l) (G := G) (k := k) hR1.1 wL1 hL1.1 ⟨hN1, hL1.2.1, hV1⟩ ho (by omega) hO.1 ap (kd := b) (wn := c) (by omega) (by omega) hTR hfi
        have eqb : qbr (qfit κ (tf tn a) b c (min (tm a) (κ 54))) 41 = qbs κ tm tn a b c := by unfold qbs; rfl
        rw [eqb] at cf
        have hbl : (qbs κ tm tn a b c).length ≤ 41 := qbr_len _ 41
        have hbi : ∀ v ∈ qbs κ tm tn a b c, -20 ≤ v ∧ v < 21 := fun v hv => by have := qbr_in _ 41 v hv; omega
        have fin : ∀ I2, Fr [27, 28, 29, o, o + 1, o + 2, o + 3] I1 I2 → CK I2 κ L1 dl1 pl1 ld1 lp1 → KF (I, J, R, S, nx) (I2, J1, R1, S1, n1) ∧ CI (I2, J1, R1, S1, n1) (κ, ι, (τ, tm, tn), (t, tp), fk, fp) := fun I2 h2 h3 => by
          have st := CI.step hR1 wL1 hL1 h2 (scrB hO.2 (by decide) (by simp <;> omega)) h3 (hP1.fr h2 (by simp; omega) (by simp; omega))
          exact ⟨hk.trans st.1, st.2⟩
        refine sX11_seen_13 (P1 := fun I I' => Fr [27, 28, 29, o, o + 1, o + 3] I I' ∧ CK I' κ L1 dl1 pl1 ld1 lp1 ∧ LT I' o (qbs κ tm tn a b c)) (by omega) hO.1.2.1 cf (fun I2 h2 => ?_)
        exact ⟨ok0 h2.2.2.1, fin I2 (h2.1.wk (by simp)) h2.2.1⟩
      · rintro E μ' ⟨I1, J1, R1, S1, n1, o, hr1, _⟩; cases hr1
    · cases hr
  · rintro E μ' (⟨_, hr, _⟩ | ⟨hne, n', hr, hn, hμ⟩)
    · cases hr
    · obtain rfl := Sum.inr.inj hr
      subst hμ
      rw [show aSeen κ τ tm tn x1 x2 x3 = (gS κ τ tm tn x1 x2 x3, 0) by unfold aSeen; rw [if_neg hne]]
      exact ⟨ansR_t hne, CI.thr hC0 hn⟩
theorem look_p {x1 x2 x3 : Int32} (hl0 : l.stackTraces = false) (hC : CI (I, J, R, S, nx) (κ, ι, (τ, tm, tn), (t, tp), fk, fp)) (hs : sok hb pb κ) (hhb : hb < 2 ^ 28) : Cal l G (k + 6) 40 14000 mX11_look [.ref 0, .int x1, .int x2, .int x3] (I, J, R, S, nx) (CQ (I, J, R, S, nx) (ansR [eNS, eIS, eIA] (aLook κ τ tm tn x1 x2 x3)) (κ, ι, (τ, tm, tn), (t, tp), fk, fp)) := by
  have hC0 := hC
  obtain ⟨ow, L, dl, pl, ld, lp, hR, wL, hL, hN, hV, hP⟩ := hC
  have hR : CR I J R S nx ow ι τ tm tn t tp fk fp := hR
  have wL : R 14 0 = some L := wL
  have hL : LdC I R S nx ow L κ dl pl ld lp := hL
  have hN : CN I κ := hN
  have hV : PV I κ := hV
  have hP : PS I 30 31 κ := hP
  have w : CF R S nx := hR.1
  have wl : LW R S nx L dl pl ld lp := hL.1
  have h : CK I κ L dl pl ld lp := ⟨hN, hL.2.1, hV⟩
  have ho := hs.q
  have h1w : κ 1 ≤ 5 := ho.1
  have h2a : κ 2 ≤ 8 := ho.2.1
  have h54 : κ 54 ≤ hb := ho.2.2.2.2.2.2.2.2.2.2.1
  have e1 : I L 1 = nI (κ 1) := h.2.1.1.2.1
  have e2 : I L 2 = nI (κ 2) := h.2.1.1.2.2.1
  refine Cal.of rfl (by decide +kernel) (by simp) (Nat.le_of_ble_eq_true rfl) rfl (sX11_look_0 (Qn1 := SnQ (gS κ τ tm tn x1 x2 x3) (35 + 2 * cN x1) (I, J, R, S, nx)) (mc1 := 6) (ms1 := 36) w ⟨by decide, by decide⟩ (needSeen_c (k := k + 3) hl0 hC0 hs hhb) ?_ ?_)
  · rintro r μ' (⟨g, hr, hμ⟩ | ⟨_, n', hr, _⟩)
    · obtain rfl := Sum.inl.inj hr
      subst hμ
      have hpl := gS_pl g
      rw [show aLook κ τ tm tn x1 x2 x3 = (0, if (qbs κ tm tn (cN x1) (cN x2) (cN x3)).length = 0 then -1 else jP (qlk (fun q => qml (qbf κ (qbs κ tm tn (cN x1) (cN x2) (cN x3)) (cN x2) (cN x3) q) (qbs κ tm tn (cN x1) (cN x2) (cN x3)).length) 25).1) by unfold aLook; rw [if_pos g]]
      obtain ⟨a, b, c, rfl, rfl, rfl, ha, hb1, hc1, ea, eb, ec, hm, hv⟩ := gS0 ho g
      rw [ea, eb, ec]
      rw [ea] at hpl
      refine sX11_look_7 (Qn1 := LzQ 10 (I, J, R, S, nx) (κ, ι, (τ, tm, tn), (t, tp), fk, fp)) (mc1 := 4) (ms1 := 111) w ⟨by decide, by decide⟩ (glass_c hC0) ?_ ?_
      · rintro r μ' ⟨I1, J1, R1, S1, n1, o, hr1, rfl, hk, hc, ho10⟩
        obtain rfl := Sum.inl.inj hr1
        obtain ⟨ow1, L1, dl1, pl1, ld1, lp1, hR1, wL1, hL1, hN1, hV1, hP1⟩ := hc
        have hR1 : CR I1 J1 R1 S1 n1 ow1 ι τ tm tn t tp fk fp := hR1
        have hO := hR1.2.2.2.2.1.2.2.2 o ho10
        have ap := Own.ap hO.2 (by decide) (by decide) hL1
        have h72 := hO.2.1
        have hO1 : o + 4 ≤ n1 := hO.1.1
        have hTr := hR1.2.1 a ha
        obtain ⟨t1, t2, t3, t4, t5⟩ := tray_TA hR1.1 ha
        have hTR : TR I1 J1 R1 S1 n1 (35 + 2 * a) (35 + 2 * a + 1) (tm a) (tf tn a) := ⟨⟨t1, by omega, by simp; omega, t2, t3, t4, t5⟩, hTr.1.trans (if_neg hpl), hm.2, fun i hi => by rw [show 35 + 2 * a + 1 = 36 + 2 * a by omega, hTr.2.2.2 i (by omega)]; rfl⟩
        have hfi : ∀ i, i < tm a → tf tn a i ≠ -1 → i < κ 54 := fun i hi hne => by
          have := hv i hi
          by_cases c5 : i < κ 54
          · exact c5
          · rw [if_neg c5] at this
            exact absurd (show (tn a i).toInt = -1 by omega) hne
        have cf := find_t (l := l) (G := G) (k := k) hR1.1 wL1 hL1.1 ⟨hN1, hL1.2.1, hV1⟩ ho (by omega) hO.1 ap (kd := b) (wn := c) (by omega) (by omega) hTR hfi
        have eqb : qbr (qfit κ (tf tn a) b c (min (tm a) (κ 54))) 41 = qbs κ tm tn a b c := by unfold qbs; rfl
        rw [eqb] at cf
        have hbl : (qbs κ tm tn a b c).length ≤ 41 := qbr_len _ 41
        have hbi : ∀ v ∈ qbs κ tm tn a b c, -20 ≤ v ∧ v < 21 := fun v hv => by have := qbr_in _ 41 v hv; omega
        have fin : ∀ I2, Fr [27, 28, 29, o, o + 1, o + 2, o + 3] I1 I2 → CK I2 κ L1 dl1 pl1 ld1 lp1 → KF (I, J, R, S, nx) (I2, J1, R1, S1, n1) ∧ CI (I2, J1, R1, S1, n1) (κ, ι, (τ, tm, tn), (t, tp), fk, fp) := fun I2 h2 h3 => by
          have st := CI.step hR1 wL1 hL1 h2 (scrB hO.2 (by decide) (by simp <;> omega)) h3 (hP1.fr h2 (by simp; omega) (by simp; omega))
          exact ⟨hk.trans st.1, st.2⟩
        refine sX11_look_13 (u2 := if (qbs κ tm tn a b c).length = 0 then -1 else jP (qlk (fun q => qml (qbf κ (qbs κ tm tn a b c) b c q) (qbs κ tm tn a b c).length) 25).1) (P1 := fun I I' => Fr [27, 28, 29, o, o + 1, o + 3] I I' ∧ CK I' κ L1 dl1 pl1 ld1 lp1 ∧ LT I' o (qbs κ tm tn a b c)) (P2 := fun I I' => Fr [27, 28, 29, o + 2] I I' ∧ CK I' κ L1 dl1 pl1 ld1 lp1) (by omega) hO.1.2.1 cf (fun I2 h2 => ?_) (fun I2 h2 I3 h3 => ?_)
        · exact tellingHour_t (k := k + 1) hR1.1 wL1 hL1.1 h2.2.1 ho (by omega) hO.1 ap (by omega) (by omega) hbl hbi h2.2.2
        · exact ⟨ok0 rfl, fin I3 (h2.1.tr h3.1 (by simp)) h3.2⟩
      · rintro E μ' ⟨I1, J1, R1, S1, n1, o, hr1, _⟩; cases hr1
    · cases hr
  · rintro E μ' (⟨_, hr, _⟩ | ⟨hne, n', hr, hn, hμ⟩)
    · cases hr
    · obtain rfl := Sum.inr.inj hr
      subst hμ
      rw [show aLook κ τ tm tn x1 x2 x3 = (gS κ τ tm tn x1 x2 x3, 0) by unfold aLook; rw [if_neg hne]]
      exact ⟨ansR_t hne, CI.thr hC0 hn⟩
end A
