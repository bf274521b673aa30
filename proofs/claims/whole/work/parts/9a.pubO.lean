/-! the class: repeal -/
section A
variable {l : Launch} {G : Gh} {k : Nat} {I : Nat → Nat → Int32} {J : Nat → Nat → Int64} {R : Nat → Nat → Option Nat} {S : Nat → Nat × Nat} {nx : Nat} {κ : Nat → Nat} {hb pb : Nat}
variable {ι : Nat → Option (Nat → Nat)} {τ tm : Nat → Nat} {tn : Nat → Nat → Int64} {tp : Nat} {fk fp : Int32} {t : Nat → Nat} {ow : Nat → Nat} {L dl pl ld lp : Nat}
theorem rep_ck {a : Nat} {I1 : Nat → Nat → Int32} (h : CK I κ L dl pl ld lp) (wl : LW R S nx L dl pl ld lp) (h2 : κ 2 ≤ 8) (h5 : κ 5 ≤ 10) (hF : Fr [30, 31] I I1) (ha : a < 31) : CK (up2 I1 25 2 (I1 25 2 ||| ((1 : Int32) <<< (nI a &&& 31)))) (qrep (qkeep κ) a) L dl pl ld lp ∧ Fr [25] I1 (up2 I1 25 2 (I1 25 2 ||| ((1 : Int32) <<< (nI a &&& 31)))) := by
  have hk := keep_ck h wl h2 h5 hF
  have hU : Fr [25] I1 (up2 I1 25 2 (I1 25 2 ||| ((1 : Int32) <<< (nI a &&& 31)))) := Fr.rf.up (by decide)
  refine ⟨hk.st wl (by rw [qkeep_low (by decide) (by decide)]; exact h2) hU ?_ (fun i hi => by unfold qrep; exact qset_ne (by omega)), hU⟩
  have hN := hk.1.up0 (t := 2) (v := qkeep κ 53 ||| 2 ^ a) (by decide)
  rw [show 7 + prm 2 = 53 by decide] at hN
  rw [hk.1.h.2.2, shl_n ha, fa_or]
  exact hN
theorem repeal_p {x1 : Int32} (hl0 : l.stackTraces = false) (hC : CI (I, J, R, S, nx) (κ, ι, (τ, tm, tn), (t, tp), fk, fp)) (hs : sok hb pb κ) (hhb : hb < 2 ^ 28) : Cal l G (k + 1) 40 14000 mX11_repeal [.ref 0, .int x1] (I, J, R, S, nx) (CQ (I, J, R, S, nx) (ansR [eNS, eIS] ((aRepeal κ x1).1)) ((aRepeal κ x1).2, ι, (τ, tm, tn), (t, tp), fk, fp)) := by
  have hC0 := hC
  obtain ⟨ow, L, dl, pl, ld, lp, hR, wL, hL, hN, hV, hP⟩ := hC
  have hR : CR I J R S nx ow ι τ tm tn t tp fk fp := hR
  have wL : R 14 0 = some L := wL
  have hL : LdC I R S nx ow L κ dl pl ld lp := hL
  have hN : CN I κ := hN
  have hV : PV I κ := hV
  have hP : PS I 30 31 κ := hP
  have w : CF R S nx := hR.1
  have wl : LW R S nx L dl pl ld lp := hL.1
  have h : CK I κ L dl pl ld lp := ⟨hN, hL.2.1, hV⟩
  have ho := hs.q
  have h1w : κ 1 ≤ 5 := ho.1
  have h2a : κ 2 ≤ 8 := ho.2.1
  have h54 : κ 54 ≤ hb := ho.2.2.2.2.2.2.2.2.2.2.1
  have e1 : I L 1 = nI (κ 1) := h.2.1.1.2.1
  have e2 : I L 2 = nI (κ 2) := h.2.1.1.2.2.1
  have h5 : κ 5 ≤ 10 := hs.2.1
  have k0 : nd_needAct (I L 2) x1 = (if gL x1 (κ 2) then none else some eNS) := (by rw [e2]; exact ndW (by omega))
  by_cases g0 : gL x1 (κ 2)
  · have c0 : nd_needAct (I L 2) x1 = none := by rw [k0, if_pos g0]
    rw [show aRepeal κ x1 = (if (κ 53).testBit (cN x1) then ((2, 0), κ) else ((0, nI (qpop (qall (kRep κ x1)))), kRep κ x1)) by unfold aRepeal; rw [if_pos g0]]
    refine Cal.of rfl (by decide +kernel) (by simp) (Nat.le_of_ble_eq_true rfl) rfl (sX11_repeal_0 (u2 := nI (qall (qrep (qkeep κ) (cN x1)))) (P1 := fun I I' => Fr [30, 31] I I' ∧ PS I' 30 31 (qkeep κ)) (P2 := fun I I' => I' = I) hl0 w wL wl (by decide) (ndy c0) (fun _ => ?_) (fun _ => ?_) (fun _ => ?_) (fun _ => ?_) (by decide))
    · intro _
      exact keep_c w hN hP h5
    · obtain ⟨a, rfl, ha, ea⟩ := g0.n (by omega)
      have hrep := rep_c (a := a) hN ho (by omega)
      intro g I1 h1
      have hr := rep_ck (a := a) h wl h2a h5 h1.1 (by omega)
      rw [ea]
      exact live_c w wL wl hr.1 (hs.keep.rep (by omega)).q (by omega)
    · obtain ⟨a, rfl, ha, ea⟩ := g0.n (by omega)
      have hrep := rep_c (a := a) hN ho (by omega)
      intro g I1 h1 I2 h2
      subst h2
      rw [hrep] at g
      have hr := rep_ck (a := a) h wl h2a h5 h1.1 (by omega)
      rw [ea, if_neg g]
      unfold kRep
      rw [ea, cnt_c _ (qall_lt (hs.keep.rep (a := a) (by omega)).q)]
      have hF : Fr [25, 27, 28, 29, 30, 31] I _ := h1.1.tr hr.2 (by decide)
      exact ⟨ok0 rfl, CI.step hR wL hL hF scrN hr.1 ((h1.2.fr hr.2 (by decide) (by decide)).cg hs.keep.2.1 (fun j hj => by unfold qrep; exact qset_ne (by omega)))⟩
    · obtain ⟨a, rfl, ha, ea⟩ := g0.n (by omega)
      have hrep := rep_c (a := a) hN ho (by omega)
      intro g n' hn
      rw [hrep, Decidable.not_not] at g
      rw [ea, if_pos g]
      exact ⟨rfl, CI.thr hC0 hn⟩
  · have c0 : nd_needAct (I L 2) x1 = some eNS := by rw [k0, if_neg g0]
    rw [show aRepeal κ x1 = ((1, 0), κ) by unfold aRepeal; rw [if_neg g0]]
    exact Cal.of rfl (by decide +kernel) (by simp) (Nat.le_of_ble_eq_true rfl) rfl (sX11_repeal_0 (u2 := 0) (P1 := fun _ _ => True) (P2 := fun _ _ => True) hl0 w wL wl (by decide) (ndn c0 (fun n' hn => ⟨rfl, CI.thr hC0 hn⟩)) (fun g => ndx c0 g) (fun g => ndx c0 g) (fun g => ndx c0 g) (fun g => ndx c0 g) (by decide))
end A
