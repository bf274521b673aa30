/-! the class: trays -/
def ansV (Es : List String) (n : Nat) : Res := if n = 0 then .inl none else .inr (Es.getD (n - 1) "")
section A
variable {l : Launch} {G : Gh} {k : Nat} {I : Nat → Nat → Int32} {J : Nat → Nat → Int64} {R : Nat → Nat → Option Nat} {S : Nat → Nat × Nat} {nx : Nat} {κ : Nat → Nat} {hb pb : Nat}
variable {ι : Nat → Option (Nat → Nat)} {τ tm : Nat → Nat} {tn : Nat → Nat → Int64} {tp : Nat} {fk fp : Int32} {t : Nat → Nat} {ow : Nat → Nat} {L dl pl ld lp : Nat} {I' : Nat → Nat → Int32}
theorem LdC.low (h : LdC I R S nx ow L κ dl pl ld lp) (e : ∀ a, ((3 ≤ a ∧ a < 35) ∨ 72 ≤ a) → I' a = I a) : LdC I' R S nx ow L κ dl pl ld lp := by
  obtain ⟨h1, ⟨q1, q2, q3, q4, q5, q6⟩, h3⟩ := h
  obtain ⟨n1, n2, n3⟩ := h1.ne
  refine ⟨h1, ⟨?_, fun w hw => ?_, fun a ha => ?_, fun k hk => ?_, ⟨q5.1, fun i hi => ?_⟩, ⟨q6.1, fun i hi => ?_⟩⟩, h3⟩
  · rw [e L (by omega)]; exact q1
  · rw [e (L + 1) (by omega), e (L + 2) (by omega)]; exact q2 w hw
  · rw [e (L + 3) (by omega), e (L + 4) (by omega)]; exact q3 a ha
  · rw [e (L + 7) (by omega)]; exact q4 k hk
  · rw [e dl (by omega)]; exact q5.2 i hi
  · rw [e pl (by omega)]; exact q6.2 i hi
theorem ImC.low (h : ImC I R S nx ow ι) (e : ∀ a, ((3 ≤ a ∧ a < 35) ∨ 72 ≤ a) → I' a = I a) : ImC I' R S nx ow ι := by
  intro i hi
  have := h i hi
  cases hq : ι i with
  | none => rw [hq] at this; exact this
  | some σ =>
    rw [hq] at this
    obtain ⟨X, g1, h1, h2, ⟨LX, dl, pl, ld, lp, h3, h4⟩, h5, h6⟩ := this
    have h72 := h1.2.1
    refine ⟨X, g1, h1, h2, ⟨LX, dl, pl, ld, lp, h3, h4.low e⟩, fun j hj => by rw [e (X + 1) (by omega)]; exact h5 j hj, ?_⟩
    unfold PS
    rw [e (X + 2) (by omega), e (X + 3) (by omega)]; exact h6
theorem CI.mk2 {J' : Nat → Nat → Int64} {τ' tm' : Nat → Nat} {tn' : Nat → Nat → Int64} {t' : Nat → Nat} {tp' : Nat} {fk' fp' : Int32} (hR : CR I J R S nx ow ι τ tm tn t tp fk fp) (wL : R 14 0 = some L) (hL : LdC I R S nx ow L κ dl pl ld lp) (hN : CN I κ) (hV : PV I κ) (hP : PS I 30 31 κ) (e : ∀ a, ((3 ≤ a ∧ a < 35) ∨ 72 ≤ a) → I' a = I a) (hT : TrC I' J' τ' tm' tn') (hTp : TpC I' t' tp') (hf : I' 1 11 = fk' ∧ I' 1 12 = fp') : CI (I', J', R, S, nx) (κ, ι, (τ', tm', tn'), (t', tp'), fk', fp') := by
  refine ⟨ow, L, dl, pl, ld, lp, ⟨hR.1, hT, hTp, hf, hR.2.2.2.2.1, hR.2.2.2.2.2.low e⟩, wL, hL.low e, fun i hi => ?_, fun w h' a a1 a2 a3 => ?_, ?_⟩
  · show I' 25 i = _; rw [e 25 (by omega)]; exact hN i hi
  · show ∃ kn : Nat, I' 29 _ = _ ∧ _; rw [e 29 (by omega)]; exact hV w h' a a1 a2 a3
  · show PS I' 30 31 κ
    unfold PS
    rw [e 30 (by omega), e 31 (by omega)]; exact hP
/-- one tray is written -/
theorem CI.tray {a : Nat} {J' : Nat → Nat → Int64} {τ' tm' : Nat → Nat} {tn' : Nat → Nat → Int64} (ha : a < 4) (hR : CR I J R S nx ow ι τ tm tn t tp fk fp) (wL : R 14 0 = some L) (hL : LdC I R S nx ow L κ dl pl ld lp) (hN : CN I κ) (hV : PV I κ) (hP : PS I 30 31 κ) (hF : Fr [35 + 2 * a] I I') (hJ : ∀ b, b ≠ 35 + 2 * a + 1 → J' b = J b) (ho : ∀ q, q < 4 → q ≠ a → τ' q = τ q ∧ tm' q = tm q ∧ ∀ i, i < 30 → tn' q i = tn q i)
    (hT : (I' (35 + 2 * a) 1 = if τ' a = 0 then -1 else nI (tm' a)) ∧ (τ' a ≠ 0 → I' (35 + 2 * a) 0 = nI (τ' a - 1)) ∧ (τ' a ≤ 4 ∧ tm' a ≤ 30) ∧ ∀ i, i < 30 → J' (35 + 2 * a + 1) i = tn' a i) : KF (I, J, R, S, nx) (I', J', R, S, nx) ∧ CI (I', J', R, S, nx) (κ, ι, (τ', tm', tn'), (t, tp), fk, fp) := by
  have e : ∀ b, b ≠ 35 + 2 * a → I' b = I b := fun b hb => hF b (by simp [hb])
  refine ⟨⟨Nat.le_refl _, fun b h1 h2 => ⟨e b (by omega), hJ b (by omega), rfl, rfl⟩⟩, CI.mk2 hR wL hL hN hV hP (fun b hb => e b (by omega)) (fun q hq => ?_) ?_ ?_⟩
  · by_cases c : q = a
    · subst c
      rw [show 36 + 2 * q = 35 + 2 * q + 1 by omega]; exact hT
    · obtain ⟨o1, o2, o3⟩ := ho q hq c
      have := hR.2.1 q hq
      rw [e _ (by omega), o1, o2, hJ _ (by omega)]
      exact ⟨this.1, this.2.1, this.2.2.1, fun i hi => by rw [o3 i hi]; exact this.2.2.2 i hi⟩
  · unfold TpC
    rw [e 1 (by omega), e 2 (by omega)]; exact hR.2.2.1
  · rw [e 1 (by omega)]; exact hR.2.2.2.1
theorem cut_small : ∀ s, s < 4 → ∀ d, d < 100 → qcut s (lN d) = lN d := by decide +kernel
theorem tray_p {x1 : Int32} {x2 : Int32} {x3 : Int32} (hl0 : l.stackTraces = false) (hC : CI (I, J, R, S, nx) (κ, ι, (τ, tm, tn), (t, tp), fk, fp)) (hs : sok hb pb κ) (hhb : hb < 2 ^ 28) : Cal l G (k + 1) 40 14000 mX11_tray [.ref 0, .int x1, .int x2, .int x3] (I, J, R, S, nx) (CQ (I, J, R, S, nx) (ansV [eNS, eIA] ((aTray τ tm tn x1 x2 x3).1)) (κ, ι, ((aTray τ tm tn x1 x2 x3).2.1, (aTray τ tm tn x1 x2 x3).2.2.1, (aTray τ tm tn x1 x2 x3).2.2.2), (t, tp), fk, fp)) := by
  have hC0 := hC
  obtain ⟨ow, L, dl, pl, ld, lp, hR, wL, hL, hN, hV, hP⟩ := hC
  have hR : CR I J R S nx ow ι τ tm tn t tp fk fp := hR
  have wL : R 14 0 = some L := wL
  have hL : LdC I R S nx ow L κ dl pl ld lp := hL
  have hN : CN I κ := hN
  have hV : PV I κ := hV
  have hP : PS I 30 31 κ := hP
  have w : CF R S nx := hR.1
  have wl : LW R S nx L dl pl ld lp := hL.1
  have h : CK I κ L dl pl ld lp := ⟨hN, hL.2.1, hV⟩
  have ho := hs.q
  have h1w : κ 1 ≤ 5 := ho.1
  have h2a : κ 2 ≤ 8 := ho.2.1
  have h54 : κ 54 ≤ hb := ho.2.2.2.2.2.2.2.2.2.2.1
  have e1 : I L 1 = nI (κ 1) := h.2.1.1.2.1
  have e2 : I L 2 = nI (κ 2) := h.2.1.1.2.2.1
  have kt := ndT x1
  by_cases gt : gR x1 0 3
  · have ct : nd_trayAt x1 = none := by rw [kt, if_pos gt]
    have gt1 := gt
    obtain ⟨a, rfl, _, ha, ea⟩ := gt.n (by decide)
    have hTr := hR.2.1 a (by omega)
    have k0 : nd_needWithin x2 (0 : Int32) (3 : Int32) = (if gR x2 0 3 then none else some eIA) := (ndI (a := 0) (b := 3) (by decide) (by decide))
    have k1 : nd_needWithin x3 (0 : Int32) (30 : Int32) = (if gR x3 0 30 then none else some eIA) := (ndI (a := 0) (b := 30) (by decide) (by decide))
    by_cases g0 : gR x2 0 3
    · by_cases g1 : gR x3 0 30
      · have c0 : nd_needWithin x2 (0 : Int32) (3 : Int32) = none := by rw [k0, if_pos g0]
        have c1 : nd_needWithin x3 (0 : Int32) (30 : Int32) = none := by rw [k1, if_pos g1]
        rw [show aTray τ tm tn (nI a) x2 x3 = (0, qset τ (cN (nI a)) (cN x2 + 1), qset tm (cN (nI a)) (cN x3), fun t i => if t = cN (nI a) then 0 else tn t i) by unfold aTray; rw [if_pos gt1, if_pos ⟨g0, g1⟩]]
        refine Cal.of rfl (by decide +kernel) (by simp) (Nat.le_of_ble_eq_true rfl) rfl (sX11_tray_0 (P1 := fun J J' => (∀ b, b ≠ 35 + 2 * a + 1 → J' b = J b) ∧ ∀ j, j < 30 → J' (35 + 2 * a + 1) j = 0) hl0 w (by decide) (ndy ct) (by decide) (ty (by omega) fun hy => ndy c0) (by decide) (ty (by omega) fun hy _ => ndy c1) (ty (by omega) fun hy _ _ => ?_) (ty (by omega) fun hy _ _ => ?_))
        · exact fill_l hy.2.2.2.2.2.1 hy.2.2.2.2.2.2 (by decide)
        · intro J1 h1
          obtain ⟨b, rfl, _, hb2, eb⟩ := g0.n (by omega)
          obtain ⟨c, rfl, _, hc2, ec⟩ := g1.n (by omega)
          rw [ea, eb, ec]
          dsimp only
          have hF : Fr [35 + 2 * a] I (up2 (up2 I (35 + 2 * a) 0 (nI b)) (35 + 2 * a) 1 (nI c)) := (Fr.rf.up (by simp)).up (by simp)
          exact ⟨rfl, CI.tray (a := a) (by omega) hR wL hL hN hV hP hF h1.1 (fun q hq hne => ⟨qset_ne hne, qset_ne hne, fun i _ => if_neg hne⟩) ⟨by rw [qset_eq, qset_eq, if_neg (by omega)]; simp [up2], fun _ => by rw [qset_eq]; simp [up2], ⟨by rw [qset_eq]; omega, by rw [qset_eq]; omega⟩, fun i hi => by rw [h1.2 i hi]; exact (if_pos rfl).symm⟩⟩
      · have c0 : nd_needWithin x2 (0 : Int32) (3 : Int32) = none := by rw [k0, if_pos g0]
        have c1 : nd_needWithin x3 (0 : Int32) (30 : Int32) = some eIA := by rw [k1, if_neg g1]
        rw [show aTray τ tm tn (nI a) x2 x3 = (2, τ, tm, tn) by unfold aTray; rw [if_pos gt1, if_neg (fun g => g1 g.2)]]
        exact Cal.of rfl (by decide +kernel) (by simp) (Nat.le_of_ble_eq_true rfl) rfl (sX11_tray_0 (P1 := fun _ _ => True) hl0 w (by decide) (ndy ct) (by decide) (ty (by omega) fun hy => ndy c0) (by decide) (ty (by omega) fun hy _ => ndn c1 (fun n' hn => ⟨rfl, CI.thr hC0 hn⟩)) (ty (by omega) fun hy _ g => ndx c1 g) (ty (by omega) fun hy _ g => ndx c1 g))
    · have c0 : nd_needWithin x2 (0 : Int32) (3 : Int32) = some eIA := by rw [k0, if_neg g0]
      rw [show aTray τ tm tn (nI a) x2 x3 = (2, τ, tm, tn) by unfold aTray; rw [if_pos gt1, if_neg (fun g => g0 g.1)]]
      exact Cal.of rfl (by decide +kernel) (by simp) (Nat.le_of_ble_eq_true rfl) rfl (sX11_tray_0 (P1 := fun _ _ => True) hl0 w (by decide) (ndy ct) (by decide) (ty (by omega) fun hy => ndn c0 (fun n' hn => ⟨rfl, CI.thr hC0 hn⟩)) (by decide) (ty (by omega) fun hy g => ndx c0 g) (ty (by omega) fun hy g => ndx c0 g) (ty (by omega) fun hy g => ndx c0 g))
  · have ct : nd_trayAt x1 = some eNS := by rw [kt, if_neg gt]
    rw [show aTray τ tm tn x1 x2 x3 = (1, τ, tm, tn) by unfold aTray; rw [if_neg gt]]
    exact Cal.of rfl (by decide +kernel) (by simp) (Nat.le_of_ble_eq_true rfl) rfl (sX11_tray_0 (P1 := fun _ _ => True) hl0 w (by decide) (ndn ct (fun n' hn => ⟨rfl, CI.thr hC0 hn⟩)) (by decide) (fun y hy => absurd (taG hy) gt) (by decide) (fun y hy => absurd (taG hy) gt) (fun y hy => absurd (taG hy) gt) (fun y hy => absurd (taG hy) gt))
theorem qcpy_ne {s wn a q : Nat} (h : q ≠ a) : ∀ {n i : Nat}, qcpy κ s wn a tn n q i = tn q i
  | 0, i => rfl
  | n + 1, i => by
    show tset (qcpy κ s wn a tn n) a n _ q i = _
    unfold tset; rw [if_neg (fun g => h g.1)]; exact qcpy_ne h
theorem copy_p {x1 : Int32} {x2 : Int32} (hl0 : l.stackTraces = false) (hC : CI (I, J, R, S, nx) (κ, ι, (τ, tm, tn), (t, tp), fk, fp)) (hs : sok hb pb κ) (hhb : hb < 2 ^ 28) : Cal l G (k + 3) 40 14000 mX11_copy [.ref 0, .int x1, .int x2] (I, J, R, S, nx) (CQ (I, J, R, S, nx) (ansR [eNS, eIS] ((aCopy κ τ tm tn x1 x2).1)) (κ, ι, (τ, tm, (aCopy κ τ tm tn x1 x2).2), (t, tp), fk, fp)) := by
  have hC0 := hC
  obtain ⟨ow, L, dl, pl, ld, lp, hR, wL, hL, hN, hV, hP⟩ := hC
  have hR : CR I J R S nx ow ι τ tm tn t tp fk fp := hR
  have wL : R 14 0 = some L := wL
  have hL : LdC I R S nx ow L κ dl pl ld lp := hL
  have hN : CN I κ := hN
  have hV : PV I κ := hV
  have hP : PS I 30 31 κ := hP
  have w : CF R S nx := hR.1
  have wl : LW R S nx L dl pl ld lp := hL.1
  have h : CK I κ L dl pl ld lp := ⟨hN, hL.2.1, hV⟩
  have ho := hs.q
  have h1w : κ 1 ≤ 5 := ho.1
  have h2a : κ 2 ≤ 8 := ho.2.1
  have h54 : κ 54 ≤ hb := ho.2.2.2.2.2.2.2.2.2.2.1
  have e1 : I L 1 = nI (κ 1) := h.2.1.1.2.1
  have e2 : I L 2 = nI (κ 2) := h.2.1.1.2.2.1
  have kt := ndT x1
  by_cases gt : gR x1 0 3
  · have ct : nd_trayAt x1 = none := by rw [kt, if_pos gt]
    have gt1 := gt
    obtain ⟨a, rfl, _, ha, ea⟩ := gt.n (by decide)
    have hTr := hR.2.1 a (by omega)
    have k0 : nd_needWard (I L 1) x2 = (if gL x2 (κ 1) then none else some eNS) := (by rw [e1]; exact ndW (by omega))
    have k1 : nd_needPlaced (I (35 + 2 * a) 1) = (if τ a ≠ 0 then none else some eIS) := (ndP hTr.1 hTr.2.2.1.2)
    by_cases g0 : gL x2 (κ 1)
    · by_cases g1 : τ a ≠ 0
      · have c0 : nd_needWard (I L 1) x2 = none := by rw [k0, if_pos g0]
        have c1 : nd_needPlaced (I (35 + 2 * a) 1) = none := by rw [k1, if_pos g1]
        rw [show aCopy κ τ tm tn (nI a) x2 = ((0, nI (tm (cN (nI a)))), qcpy κ (τ (cN (nI a)) - 1) (cN x2) (cN (nI a)) tn (tm (cN (nI a)))) by unfold aCopy; rw [if_pos ⟨gt1, g0⟩, if_neg (by rw [ea]; exact g1)]]
        refine Cal.of rfl (by decide +kernel) (by simp) (Nat.le_of_ble_eq_true rfl) rfl (sX11_copy_0 hl0 w wL wl (by decide) (ndy ct) (by decide) (ty (by omega) fun hy => ndy c0) (by decide) (ty (by omega) fun hy _ => ndy c1) (ty (by omega) fun hy _ _ => ?_))
        · obtain ⟨b, rfl, hb2, eb⟩ := g0.n (by omega)
          rw [ea, eb]
          have hm : tm a ≤ 30 := hTr.2.2.1.2
          have h4t : τ a ≤ 4 := hTr.2.2.1.1
          refine upto (W := fun i (s : (Nat → Nat → Int32) × (Nat → Nat → Int64)) => hX11_copy_18 l G k 40 14000 _ (nI b) (35 + 2 * a) (nI i) (s.1, s.2, R, S, nx) (40 - 1 - 1 - 1) (14000 - 6 - 6 - 6)) (P := fun i s => Fr [27, 28, 29] I s.1 ∧ CK s.1 κ L dl pl ld lp ∧ (∀ q, q ≠ 35 + 2 * a + 1 → s.2 q = J q) ∧ ∀ j, j < 30 → s.2 (35 + 2 * a + 1) j = qcpy κ (τ a - 1) b a tn i a j) (tm a) ?_ ?_ (i := 0) (s := (I, J)) (Nat.zero_le _) ⟨Fr.rf, h, fun _ _ => rfl, fun j hj => by rw [show 35 + 2 * a + 1 = 36 + 2 * a by omega]; exact hTr.2.2.2 j hj⟩
          · intro ⟨I1, J1⟩ ⟨hF, h1, hJ, hJ2⟩
            dsimp only at hF h1 hJ hJ2 ⊢
            have eT : I1 (35 + 2 * a) 1 = nI (tm a) := by rw [hF _ (by simp; omega), hTr.1, if_neg g1]
            have c0 : I1 (35 + 2 * a) 1 ≤ nI (tm a) := by rw [eT]; exact nI_le (Nat.le_refl _) (by omega)
            have st := CI.look hR wL hL hP hF h1
            obtain ⟨ow1, L1, dl1, pl1, ld1, lp1, hR1, wL1, hL1, hN1, hV1, hP1⟩ := st.2
            have hTr1 := hR1.2.1 a (by omega)
            have tr := CI.tray (a := a) (I' := I1) (J' := J1) (τ' := τ) (tm' := tm) (tn' := qcpy κ (τ a - 1) b a tn (tm a)) (by omega) hR1 wL1 hL1 hN1 hV1 hP1 Fr.rf hJ (fun q hq hne => ⟨rfl, rfl, fun i hi => qcpy_ne hne⟩) ⟨hTr1.1, hTr1.2.1, hTr1.2.2.1, hJ2⟩
            exact sX11_copy_18 (u1 := 0) (P1 := fun _ _ => True) hy.2.2.2.2.2.1 hy.2.2.2.2.2.2 hy.2.2.1 hy.2.2.2.2.1 hy.2.2.2.1 w (fun _ => ⟨ok0 eT, st.1.trans tr.1, tr.2⟩) (fun c => absurd c0 c) (fun c => absurd c0 c) (fun c => absurd c0 c)
          · intro i ⟨I1, J1⟩ hi ⟨hF, h1, hJ, hJ2⟩ ih
            dsimp only at hF h1 hJ hJ2 ⊢
            have eT : I1 (35 + 2 * a) 1 = nI (tm a) := by rw [hF _ (by simp; omega), hTr.1, if_neg g1]
            have c0 : ¬ I1 (35 + 2 * a) 1 ≤ nI i := by rw [eT]; exact nI_ge hi (by omega)
            refine sX11_copy_18 (u1 := nI (qdeg κ b (κ 54 + i))) (P1 := fun I I' => Fr [27, 28] I I' ∧ CK I' κ L dl pl ld lp) hy.2.2.2.2.2.1 hy.2.2.2.2.2.2 hy.2.2.1 hy.2.2.2.2.1 hy.2.2.2.1 w (fun c => absurd c c0) (fun _ => ?_) (fun _ I2 h2 => vp_in_nI (by omega) (by decide)) (fun _ I2 h2 => ?_)
            · rw [h1.1.h.1, nI_add]; exact degreeIn_c w wL wl h1 ho (by omega) (by omega) (by omega)
            · have hq := qdeg_le κ b (κ 54 + i)
              rw [nI_clamp (by omega), nI_1, nI_l (by omega)]
              refine ih (I2, up2 J1 (35 + 2 * a + 1) i (lN (qdeg κ b (κ 54 + i)))) ⟨hF.tr h2.1 (by decide), h2.2, fun q hq => by rw [← hJ q hq]; funext j; simp [up2, hq], fun j hj => ?_⟩
              show up2 J1 (35 + 2 * a + 1) i (lN (qdeg κ b (κ 54 + i))) (35 + 2 * a + 1) j = tset (qcpy κ (τ a - 1) b a tn i) a i (qcut (τ a - 1) (lN (qdeg κ b (κ 54 + i)))) a j
              rw [cut_small _ (by omega) _ (by omega)]
              unfold tset
              by_cases c : j = i
              · subst c; rw [if_pos ⟨rfl, rfl⟩]; simp [up2]
              · rw [if_neg (fun g => c g.2), ← hJ2 j hj]; simp [up2, c]
      · have c0 : nd_needWard (I L 1) x2 = none := by rw [k0, if_pos g0]
        have c1 : nd_needPlaced (I (35 + 2 * a) 1) = some eIS := by rw [k1, if_neg g1]
        rw [show aCopy κ τ tm tn (nI a) x2 = ((2, 0), tn) by unfold aCopy; rw [if_pos ⟨gt1, g0⟩, if_pos (by rw [ea]; exact Decidable.not_not.mp g1)]]
        exact Cal.of rfl (by decide +kernel) (by simp) (Nat.le_of_ble_eq_true rfl) rfl (sX11_copy_0 hl0 w wL wl (by decide) (ndy ct) (by decide) (ty (by omega) fun hy => ndy c0) (by decide) (ty (by omega) fun hy _ => ndn c1 (fun n' hn => ⟨rfl, CI.thr hC0 hn⟩)) (ty (by omega) fun hy _ g => ndx c1 g))
    · have c0 : nd_needWard (I L 1) x2 = some eNS := by rw [k0, if_neg g0]
      rw [show aCopy κ τ tm tn (nI a) x2 = ((1, 0), tn) by unfold aCopy; rw [if_neg (fun g => g0 g.2)]]
      exact Cal.of rfl (by decide +kernel) (by simp) (Nat.le_of_ble_eq_true rfl) rfl (sX11_copy_0 hl0 w wL wl (by decide) (ndy ct) (by decide) (ty (by omega) fun hy => ndn c0 (fun n' hn => ⟨rfl, CI.thr hC0 hn⟩)) (by decide) (ty (by omega) fun hy g => ndx c0 g) (ty (by omega) fun hy g => ndx c0 g))
  · have ct : nd_trayAt x1 = some eNS := by rw [kt, if_neg gt]
    rw [show aCopy κ τ tm tn x1 x2 = ((1, 0), tn) by unfold aCopy; rw [if_neg (fun g => gt g.1)]]
    exact Cal.of rfl (by decide +kernel) (by simp) (Nat.le_of_ble_eq_true rfl) rfl (sX11_copy_0 hl0 w wL wl (by decide) (ndn ct (fun n' hn => ⟨rfl, CI.thr hC0 hn⟩)) (by decide) (fun y hy => absurd (taG hy) gt) (by decide) (fun y hy => absurd (taG hy) gt) (fun y hy => absurd (taG hy) gt))
end A
