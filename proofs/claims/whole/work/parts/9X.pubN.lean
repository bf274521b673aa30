/-! the class: breath -/
section A
variable {l : Launch} {G : Gh} {k : Nat} {I : Nat → Nat → Int32} {J : Nat → Nat → Int64} {R : Nat → Nat → Option Nat} {S : Nat → Nat × Nat} {nx : Nat} {κ : Nat → Nat} {hb pb : Nat}
variable {ι : Nat → Option (Nat → Nat)} {τ tm : Nat → Nat} {tn : Nat → Nat → Int64} {tp : Nat} {fk fp : Int32} {t : Nat → Nat} {ow : Nat → Nat} {L dl pl ld lp : Nat}
theorem brv {bs : List Int} {d : Nat} : (∃ v, bs[d]? = some v ∧ d < bs.length) ∨ (bs[d]? = none ∧ bs.length ≤ d) := by
  by_cases h : d < bs.length
  · exact Or.inl ⟨bs[d], List.getElem?_eq_getElem h, h⟩
  · exact Or.inr ⟨List.getElem?_eq_none (by omega), by omega⟩
theorem breath_p {x1 x2 x3 x4 : Int32} (hl0 : l.stackTraces = false) (hC : CI (I, J, R, S, nx) (κ, ι, (τ, tm, tn), (t, tp), fk, fp)) (hs : sok hb pb κ) (hhb : hb < 2 ^ 28) : Cal l G (k + 6) 40 14000 mX11_breath [.ref 0, .int x1, .int x2, .int x3, .int x4] (I, J, R, S, nx) (CQ (I, J, R, S, nx) (ansR [eNS, eIS, eIA] (aBreath κ τ tm tn x1 x2 x3 x4)) (κ, ι, (τ, tm, tn), (t, tp), fk, fp)) := by
  have hC0 := hC
  obtain ⟨ow, L, dl, pl, ld, lp, hR, wL, hL, hN, hV, hP⟩ := hC
  have hR : CR I J R S nx ow ι τ tm tn t tp fk fp := hR
  have wL : R 14 0 = some L := wL
  have hL : LdC I R S nx ow L κ dl pl ld lp := hL
  have hN : CN I κ := hN
  have hV : PV I κ := hV
  have hP : PS I 30 31 κ := hP
  have w : CF R S nx := hR.1
  have wl : LW R S nx L dl pl ld lp := hL.1
  have h : CK I κ L dl pl ld lp := ⟨hN, hL.2.1, hV⟩
  have ho := hs.q
  have h1w : κ 1 ≤ 5 := ho.1
  have h2a : κ 2 ≤ 8 := ho.2.1
  have h54 : κ 54 ≤ hb := ho.2.2.2.2.2.2.2.2.2.2.1
  have e1 : I L 1 = nI (κ 1) := h.2.1.1.2.1
  have e2 : I L 2 = nI (κ 2) := h.2.1.1.2.2.1
  refine Cal.of rfl (by decide +kernel) (by simp) (Nat.le_of_ble_eq_true rfl) rfl (sX11_breath_0 (Qn1 := SnQ (gS κ τ tm tn x1 x2 x3) (35 + 2 * cN x1) (I, J, R, S, nx)) (mc1 := 6) (ms1 := 36) w ⟨by decide, by decide⟩ (needSeen_c (k := k + 3) hl0 hC0 hs hhb) ?_ ?_)
  · rintro r μ' (⟨g, hr, hμ⟩ | ⟨_, n', hr, _⟩)
    · obtain rfl := Sum.inl.inj hr
      subst hμ
      have hpl := gS_pl g
      rw [show aBreath κ τ tm tn x1 x2 x3 x4 = (if (0 : Int32) ≤ x4 then (0, match (qbs κ tm tn (cN x1) (cN x2) (cN x3))[cN x4]? with | some v => zI v | none => 99) else (3, 0)) by unfold aBreath; rw [if_pos g]; rfl]
      obtain ⟨a, b, c, rfl, rfl, rfl, ha, hb1, hc1, ea, eb, ec, hm, hv⟩ := gS0 ho g
      rw [ea, eb, ec]
      rw [ea] at hpl
      have n0 : ∀ hE : nd_needNotBelowZero x4 ≠ none, ¬ (0 : Int32) ≤ x4 := fun hE c => hE (by unfold nd_needNotBelowZero; rw [toI_le, show (0 : Int32).toInt = 0 by decide] at c; exact if_pos c)
      refine sX11_breath_7 (Qn1 := LzQ 10 (I, J, R, S, nx) (κ, ι, (τ, tm, tn), (t, tp), fk, fp)) (mc1 := 4) (ms1 := 111) hl0 w (by decide) (fun E n' hE hn => ?_) ⟨by decide, by decide⟩ (fun _ => glass_c hC0) (fun hnd => ?_) (fun hnd => ?_)
      · have hng := n0 (by rw [hE]; simp)
        have e : E = eIA := by
          unfold nd_needNotBelowZero at hE
          split at hE
          · cases hE
          · exact (Option.some.inj hE).symm
        rw [if_neg hng, e]
        exact ⟨rfl, CI.thr hC0 hn⟩
      · rintro r μ' ⟨I1, J1, R1, S1, n1, o, hr1, rfl, hk, hc, ho10⟩
        obtain rfl := Sum.inl.inj hr1
        obtain ⟨ow1, L1, dl1, pl1, ld1, lp1, hR1, wL1, hL1, hN1, hV1, hP1⟩ := hc
        have hR1 : CR I1 J1 R1 S1 n1 ow1 ι τ tm tn t tp fk fp := hR1
        have hO := hR1.2.2.2.2.1.2.2.2 o ho10
        have ap := Own.ap hO.2 (by decide) (by decide) hL1
        have h72 := hO.2.1
        have hO1 : o + 4 ≤ n1 := hO.1.1
        have hTr := hR1.2.1 a ha
        obtain ⟨t1, t2, t3, t4, t5⟩ := tray_TA hR1.1 ha
        have hTR : TR I1 J1 R1 S1 n1 (35 + 2 * a) (35 + 2 * a + 1) (tm a) (tf tn a) := ⟨⟨t1, by omega, by simp; omega, t2, t3, t4, t5⟩, hTr.1.trans (if_neg hpl), hm.2, fun i hi => by rw [show 35 + 2 * a + 1 = 36 + 2 * a by omega, hTr.2.2.2 i (by omega)]; rfl⟩
        have hfi : ∀ i, i < tm a → tf tn a i ≠ -1 → i < κ 54 := fun i hi hne => by
          have := hv i hi
          by_cases c5 : i < κ 54
          · exact c5
          · rw [if_neg c5] at this
            exact absurd (show (tn a i).toInt = -1 by omega) hne
        have cf := find_t (l := l) (G := G) (k := k) hR1.1 wL1 hL1.1 ⟨hN1, hL1.2.1, hV1⟩ ho (by omega) hO.1 ap (kd := b) (wn := c) (by omega) (by omega) hTR hfi
        have eqb : qbr (qfit κ (tf tn a) b c (min (tm a) (κ 54))) 41 = qbs κ tm tn a b c := by unfold qbs; rfl
        rw [eqb] at cf
        have hbl : (qbs κ tm tn a b c).length ≤ 41 := qbr_len _ 41
        have hbi : ∀ v ∈ qbs κ tm tn a b c, -20 ≤ v ∧ v < 21 := fun v hv => by have := qbr_in _ 41 v hv; omega
        have fin : ∀ I2, Fr [27, 28, 29, o, o + 1, o + 2, o + 3] I1 I2 → CK I2 κ L1 dl1 pl1 ld1 lp1 → KF (I, J, R, S, nx) (I2, J1, R1, S1, n1) ∧ CI (I2, J1, R1, S1, n1) (κ, ι, (τ, tm, tn), (t, tp), fk, fp) := fun I2 h2 h3 => by
          have st := CI.step hR1 wL1 hL1 h2 (scrB hO.2 (by decide) (by simp <;> omega)) h3 (hP1.fr h2 (by simp; omega) (by simp; omega))
          exact ⟨hk.trans st.1, st.2⟩
        have h04 : 0 ≤ x4.toInt := Decidable.byContradiction (fun c => by unfold nd_needNotBelowZero at hnd; rw [if_neg c] at hnd; cases hnd)
        have hp : (0 : Int32) ≤ x4 := by rw [toI_le]; exact h04
        rw [if_pos hp]
        obtain ⟨d, rfl, hd⟩ : ∃ d, x4 = nI d ∧ d < 2 ^ 31 := by
          obtain ⟨j, q1, q2⟩ := nI_of (x := x4) (fun hc => by have := (fa_lt _ _).mp hc; rw [show (0 : Int32).toInt = 0 by decide] at this; omega)
          exact ⟨j, q2, q1⟩
        rw [show cN (nI d) = d from nI_clamp hd]
        have w3 := hO.1.2.2.2 (3, 3, 100, 41) (by decide)
        have lle : ∀ I2, LT I2 o (qbs κ tm tn a b c) → (I2 o 4 ≤ nI d) = ((qbs κ tm tn a b c).length ≤ d) := fun I2 q => by rw [q.1]; exact propext (nI_leI (by omega) hd)
        refine sX11_breath_18 (P1 := fun I I' => Fr [27, 28, 29, o, o + 1, o + 3] I I' ∧ CK I' κ L1 dl1 pl1 ld1 lp1 ∧ LT I' o (qbs κ tm tn a b c)) w3.2 (show o + 3 < n1 by omega) (by omega) w3.1 hO.1.2.1 cf (fun I2 h2 g => ?_) (fun I2 h2 g => ?_) (fun I2 h2 g => ?_)
        · rw [lle I2 h2.2.2] at g
          rcases brv (bs := qbs κ tm tn a b c) (d := d) with ⟨v, e, q⟩ | ⟨e, q⟩
          · omega
          · rw [e]; exact ⟨ok0 rfl, fin I2 (h2.1.wk (by simp)) h2.2.1⟩
        · rw [lle I2 h2.2.2] at g
          show vp_in (nI d) 41
          exact vp_in_nI (by omega) (by decide)
        · rw [lle I2 h2.2.2] at g
          rcases brv (bs := qbs κ tm tn a b c) (d := d) with ⟨v, e, q⟩ | ⟨e, q⟩
          · rw [e]; exact ⟨ok0 (by rw [nI_clamp hd]; exact h2.2.2.2 d v e), fin I2 (h2.1.wk (by simp)) h2.2.1⟩
          · omega
      · rintro E μ' ⟨I1, J1, R1, S1, n1, o, hr1, _⟩; cases hr1
    · cases hr
  · rintro E μ' (⟨_, hr, _⟩ | ⟨hne, n', hr, hn, hμ⟩)
    · cases hr
    · obtain rfl := Sum.inr.inj hr
      subst hμ
      rw [show aBreath κ τ tm tn x1 x2 x3 x4 = (gS κ τ tm tn x1 x2 x3, 0) by unfold aBreath; rw [if_neg hne]]
      exact ⟨ansR_t hne, CI.thr hC0 hn⟩
end A
