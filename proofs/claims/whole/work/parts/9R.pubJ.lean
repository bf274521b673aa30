/-! the class: numbers written -/
section A
variable {l : Launch} {G : Gh} {k : Nat} {I : Nat → Nat → Int32} {J : Nat → Nat → Int64} {R : Nat → Nat → Option Nat} {S : Nat → Nat × Nat} {nx : Nat} {κ : Nat → Nat} {hb pb : Nat}
variable {ι : Nat → Option (Nat → Nat)} {τ tm : Nat → Nat} {tn : Nat → Nat → Int64} {tp : Nat} {fk fp : Int32} {t : Nat → Nat} {ow : Nat → Nat} {L dl pl ld lp : Nat}
theorem write_p {x1 : Int32} {x2 : Int32} {x3 : Int64} (hl0 : l.stackTraces = false) (hC : CI (I, J, R, S, nx) (κ, ι, (τ, tm, tn), (t, tp), fk, fp)) (hs : sok hb pb κ) (hhb : hb < 2 ^ 28) : Cal l G (k + 1) 40 14000 mX11_write [.ref 0, .int x1, .int x2, .long x3] (I, J, R, S, nx) (CQ (I, J, R, S, nx) (ansJ [eNS, eIS, eIO] ((aWrite τ tm tn x1 x2 x3).1)) (κ, ι, (τ, tm, (aWrite τ tm tn x1 x2 x3).2), (t, tp), fk, fp)) := by
  have hC0 := hC
  obtain ⟨ow, L, dl, pl, ld, lp, hR, wL, hL, hN, hV, hP⟩ := hC
  have hR : CR I J R S nx ow ι τ tm tn t tp fk fp := hR
  have wL : R 14 0 = some L := wL
  have hL : LdC I R S nx ow L κ dl pl ld lp := hL
  have hN : CN I κ := hN
  have hV : PV I κ := hV
  have hP : PS I 30 31 κ := hP
  have w : CF R S nx := hR.1
  have wl : LW R S nx L dl pl ld lp := hL.1
  have h : CK I κ L dl pl ld lp := ⟨hN, hL.2.1, hV⟩
  have ho := hs.q
  have h1w : κ 1 ≤ 5 := ho.1
  have h2a : κ 2 ≤ 8 := ho.2.1
  have h54 : κ 54 ≤ hb := ho.2.2.2.2.2.2.2.2.2.2.1
  have e1 : I L 1 = nI (κ 1) := h.2.1.1.2.1
  have e2 : I L 2 = nI (κ 2) := h.2.1.1.2.2.1
  have kt := ndT x1
  by_cases gt : gR x1 0 3
  · have ct : nd_trayAt x1 = none := by rw [kt, if_pos gt]
    have gt1 := gt
    obtain ⟨a, rfl, _, ha, ea⟩ := gt.n (by decide)
    have hTr := hR.2.1 a (by omega)
    have k0 : nd_needPlaced (I (35 + 2 * a) 1) = (if τ a ≠ 0 then none else some eIS) := (ndP hTr.1 hTr.2.2.1.2)
    by_cases g0 : τ a ≠ 0
    · have c0 : nd_needPlaced (I (35 + 2 * a) 1) = none := by rw [k0, if_pos g0]
      rw [show aWrite τ tm tn (nI a) x2 x3 = (if gL x2 (tm (cN (nI a))) then ((0, qcut (τ (cN (nI a)) - 1) x3), tset tn (cN (nI a)) (cN x2) (qcut (τ (cN (nI a)) - 1) x3)) else ((3, 0), tn)) by unfold aWrite; rw [gT_0 gt1 ea g0]; rfl]
      have hm : tm a ≤ 30 := hTr.2.2.1.2
      have eT : I (35 + 2 * a) 1 = nI (tm a) := by rw [hTr.1, if_neg g0]
      have gx : ¬ x2 < 0 → x2 < I (35 + 2 * a) 1 → gL x2 (tm a) := fun h0 h1 => by
        rw [fa_lt, show (0 : Int32).toInt = 0 by decide] at h0
        rw [eT, fa_lt, nI_toInt (by omega)] at h1
        exact ⟨by omega, h1⟩
      have vpx : ¬ x2 < 0 → x2 < I (35 + 2 * a) 1 → vp_in x2 30 := fun h0 h1 => by
        obtain ⟨c, rfl, hc, ec⟩ := (gx h0 h1).n (by omega)
        exact vp_in_nI (by omega) (by decide)
      refine Cal.of rfl (by decide +kernel) (by simp) (Nat.le_of_ble_eq_true rfl) rfl (sX11_write_0 (u1 := qcut (τ a - 1) x3) (P1 := fun I I' => I' = I) hl0 w (by decide) (ndy ct) (by decide) (ty (by omega) fun hy => ndy c0) (ty (by omega) fun hy _ => ?_) (by decide) (ty (by omega) fun hy _ => ?_) (ty (by omega) fun hy _ => ?_) (ty (by omega) fun hy _ => ?_) (ty (by omega) fun hy _ => ?_) (ty (by omega) fun hy _ => ?_) (by decide))
      · intro hlt n' hn
        have hng : ¬ gL x2 (tm (cN (nI a))) := fun g => by have := g.1; rw [fa_lt, show (0 : Int32).toInt = 0 by decide] at hlt; omega
        rw [if_neg hng]
        exact ⟨rfl, CI.thr hC0 hn⟩
      · intro h0 h1
        exact cut_c hy.2.2.1 hy.2.2.2.1 (hTr.2.1 g0) (by have := hTr.2.2.1.1; omega)
      · intro h0 h1 I1 h2
        exact vpx h0 h1
      · intro h0 h1 I1 h2
        exact vpx h0 h1
      · intro h0 h1 I1 h2
        subst h2
        have hg := gx h0 h1
        rw [if_pos (by rw [ea]; exact hg)]
        obtain ⟨c, rfl, hc, ec⟩ := hg.n (by omega)
        rw [ea, ec, nI_clamp (by omega)]
        have tr := CI.tray (a := a) (I' := I1) (J' := up2 J (35 + 2 * a + 1) c (qcut (τ a - 1) x3)) (τ' := τ) (tm' := tm) (tn' := tset tn a c (qcut (τ a - 1) x3)) (by omega) hR wL hL hN hV hP Fr.rf (fun b hb => by funext j; simp [up2, hb]) (fun q hq hne => ⟨rfl, rfl, fun i hi => by unfold tset; rw [if_neg (fun g => hne g.1)]⟩) ⟨hTr.1, hTr.2.1, hTr.2.2.1, fun i hi => by
          unfold tset
          by_cases ci : i = c
          · subst ci; rw [if_pos ⟨rfl, rfl⟩]; simp [up2]
          · rw [if_neg (fun g => ci g.2)]; simp [up2, ci]; rw [show 35 + 2 * a + 1 = 36 + 2 * a by omega]; exact hTr.2.2.2 i hi⟩
        exact ⟨by simp [up2, ansJ], tr.1, tr.2⟩
      · intro h0 h1 n' hn
        have hng : ¬ gL x2 (tm (cN (nI a))) := fun g => by rw [ea] at g; exact h1 (by rw [eT, fa_lt, nI_toInt (by omega)]; exact g.2)
        rw [if_neg hng]
        exact ⟨rfl, CI.thr hC0 hn⟩
    · have c0 : nd_needPlaced (I (35 + 2 * a) 1) = some eIS := by rw [k0, if_neg g0]
      rw [show aWrite τ tm tn (nI a) x2 x3 = ((2, 0), tn) by unfold aWrite; rw [gT_2 gt1 ea g0]; rfl]
      exact Cal.of rfl (by decide +kernel) (by simp) (Nat.le_of_ble_eq_true rfl) rfl (sX11_write_0 (u1 := 0) (P1 := fun _ _ => True) hl0 w (by decide) (ndy ct) (by decide) (ty (by omega) fun hy => ndn c0 (fun n' hn => ⟨rfl, CI.thr hC0 hn⟩)) (ty (by omega) fun hy g => ndx c0 g) (by decide) (ty (by omega) fun hy g => ndx c0 g) (ty (by omega) fun hy g => ndx c0 g) (ty (by omega) fun hy g => ndx c0 g) (ty (by omega) fun hy g => ndx c0 g) (ty (by omega) fun hy g => ndx c0 g) (by decide))
  · have ct : nd_trayAt x1 = some eNS := by rw [kt, if_neg gt]
    rw [show aWrite τ tm tn x1 x2 x3 = ((1, 0), tn) by unfold aWrite; rw [gT_1 gt]; rfl]
    exact Cal.of rfl (by decide +kernel) (by simp) (Nat.le_of_ble_eq_true rfl) rfl (sX11_write_0 (u1 := 0) (P1 := fun _ _ => True) hl0 w (by decide) (ndn ct (fun n' hn => ⟨rfl, CI.thr hC0 hn⟩)) (by decide) (fun y hy => absurd (taG hy) gt) (fun y hy => absurd (taG hy) gt) (by decide) (fun y hy => absurd (taG hy) gt) (fun y hy => absurd (taG hy) gt) (fun y hy => absurd (taG hy) gt) (fun y hy => absurd (taG hy) gt) (fun y hy => absurd (taG hy) gt) (by decide))
end A
