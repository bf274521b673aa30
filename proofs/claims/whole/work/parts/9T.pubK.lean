/-! the class: errands -/
section A
variable {l : Launch} {G : Gh} {k : Nat} {I : Nat → Nat → Int32} {J : Nat → Nat → Int64} {R : Nat → Nat → Option Nat} {S : Nat → Nat × Nat} {nx : Nat} {κ : Nat → Nat} {hb pb : Nat}
variable {ι : Nat → Option (Nat → Nat)} {τ tm : Nat → Nat} {tn : Nat → Nat → Int64} {tp : Nat} {fk fp : Int32} {t : Nat → Nat} {ow : Nat → Nat} {L dl pl ld lp : Nat}
theorem needErrands_c {a : Nat} (hl0 : l.stackTraces = false) (hC : CI (I, J, R, S, nx) (κ, ι, (τ, tm, tn), (t, tp), fk, fp)) (hs : sok hb pb κ) (hhb : hb < 2 ^ 28) (ha : a < 4) (h0 : τ a ≠ 0) (hy : TA R S nx (35 + 2 * a) (nI a)) : Cal l G (k + 1) 2 12 mX11_needErrands [.ref 0, .ref (35 + 2 * a)] (I, J, R, S, nx) (ndQ (if qer κ tm tn a then none else some eIA) (I, J, R, S, nx)) := by
  have hC0 := hC
  obtain ⟨ow, L, dl, pl, ld, lp, hR, wL, hL, hN, hV, hP⟩ := hC
  have hR : CR I J R S nx ow ι τ tm tn t tp fk fp := hR
  have wL : R 14 0 = some L := wL
  have hL : LdC I R S nx ow L κ dl pl ld lp := hL
  have hN : CN I κ := hN
  have hV : PV I κ := hV
  have hP : PS I 30 31 κ := hP
  have w : CF R S nx := hR.1
  have wl : LW R S nx L dl pl ld lp := hL.1
  have h : CK I κ L dl pl ld lp := ⟨hN, hL.2.1, hV⟩
  have ho := hs.q
  have h1w : κ 1 ≤ 5 := ho.1
  have h2a : κ 2 ≤ 8 := ho.2.1
  have h54 : κ 54 ≤ hb := ho.2.2.2.2.2.2.2.2.2.2.1
  have e1 : I L 1 = nI (κ 1) := h.2.1.1.2.1
  have e2 : I L 2 = nI (κ 2) := h.2.1.1.2.2.1
  have hTr := hR.2.1 a ha
  have hm : tm a ≤ 30 := hTr.2.2.1.2
  have eT : I (35 + 2 * a) 1 = nI (tm a) := by rw [hTr.1, if_neg h0]
  have kk : nd_needWithin (I (35 + 2 * a) 1) (1 : Int32) (4 : Int32) = if gR (nI (tm a)) 1 4 then none else some eIA := by rw [eT]; exact ndI (a := 1) (b := 4) (by decide) (by decide)
  have eg : gR (nI (tm a)) 1 4 ↔ 1 ≤ tm a ∧ tm a ≤ 4 := by
    unfold gR; rw [nI_toInt (by omega)]; omega
  by_cases g : gR (nI (tm a)) 1 4
  · have c : nd_needWithin (I (35 + 2 * a) 1) (1 : Int32) (4 : Int32) = none := by rw [kk, if_pos g]
    refine Cal.of rfl (by decide +kernel) (by simp) (Nat.le_of_ble_eq_true rfl) rfl (sX11_needErrands_0 hl0 hy.2.2.1 hy.2.2.2.1 (by decide) (ndy c) (fun _ => ?_))
    refine upto (σ := Unit) (W := fun i _ => hX11_needErrands_11 l G k 2 12 _ (35 + 2 * a) (nI i) (I, J, R, S, nx) (2 - 1) (12 - 6)) (P := fun i _ => ∀ j, j < i → qdd κ (tn a j).toInt = true) (tm a) ?_ ?_ (i := 0) (s := ()) (Nat.zero_le _) (fun j hj => absurd hj (Nat.not_lt_zero j))
    · intro _ hq
      have c0 : I (35 + 2 * a) 1 ≤ nI (tm a) := by rw [eT]; exact nI_le (Nat.le_refl _) (by omega)
      exact sX11_needErrands_11 (u1 := 0) (P1 := fun _ _ => True) hy.2.2.2.2.2.1 hl0 hy.2.2.2.2.2.2 hy.2.2.1 hy.2.2.2.2.1 hy.2.2.2.1 w (fun _ => Or.inl ⟨if_pos (qer_iff.mpr ⟨eg.mp g, hq⟩), rfl, rfl⟩) (fun c => absurd c0 c) (fun c => absurd c0 c) (fun c => absurd c0 c) (fun c => absurd c0 c) (by decide)
    · intro i _ hi hq ih
      have c0 : ¬ I (35 + 2 * a) 1 ≤ nI i := by rw [eT]; exact nI_ge hi (by omega)
      have eJ : J (35 + 2 * a + 1) (nI i).toNatClampNeg = tn a i := by rw [nI_clamp (by omega), show 35 + 2 * a + 1 = 36 + 2 * a by omega]; exact hTr.2.2.2 i (by omega)
      refine sX11_needErrands_11 (u1 := if qdd κ (tn a i).toInt = true then 1 else 0) (P1 := fun I I' => I' = I) hy.2.2.2.2.2.1 hl0 hy.2.2.2.2.2.2 hy.2.2.1 hy.2.2.2.2.1 hy.2.2.2.1 w (fun c => absurd c c0) (fun _ => vp_in_nI (by omega) (by decide)) (fun _ => by rw [eJ]; exact isDeed_c w wL wl h ho (by omega)) (fun _ I1 h1 hu => ?_) (fun _ I1 h1 hu n' hn => ?_) (by decide)
      · subst h1
        have hqi : qdd κ (tn a i).toInt = true := by
          cases hz : qdd κ (tn a i).toInt with
          | true => rfl
          | false => rw [hz] at hu; exact absurd rfl hu
        rw [nI_1]
        refine ih () (fun j hj => ?_)
        by_cases cj : j = i
        · rw [cj]; exact hqi
        · exact hq j (by omega)
      · subst h1
        have hqi : ¬ qdd κ (tn a i).toInt = true := fun hz => by rw [if_pos hz] at hu; exact absurd hu (by decide)
        exact Or.inr ⟨_, n', if_neg (fun hz => hqi ((qer_iff.mp hz).2 i hi)), rfl, hn, rfl⟩
  · have c : nd_needWithin (I (35 + 2 * a) 1) (1 : Int32) (4 : Int32) = some eIA := by rw [kk, if_neg g]
    exact Cal.of rfl (by decide +kernel) (by simp) (Nat.le_of_ble_eq_true rfl) rfl (sX11_needErrands_0 hl0 hy.2.2.1 hy.2.2.2.1 (by decide) (ndn c (fun n' hn => Or.inr ⟨_, n', if_neg (fun hz => g (eg.mpr (qer_iff.mp hz).1)), rfl, hn, rfl⟩)) (fun g => ndx c g))
def AgQ (m : Nat) (n : Nat → Nat) (μ : Mem) (st : St) : Res → Mem → Prop := fun r μ' => ∃ (I' : Nat → Nat → Int32) (J' : Nat → Nat → Int64) (R' : Nat → Nat → Option Nat) (S' : Nat → Nat × Nat) (n' o : Nat), r = .inl (some (.ref o)) ∧ μ' = (I', J', R', S', n') ∧ KF μ (I', J', R', S', n') ∧ CI (I', J', R', S', n') st ∧ R' 0 9 = some o ∧ AK I' st.1 o m n ∧ I' o 6 = -1
theorem tray_TA {a : Nat} (w : CF R S nx) (ha : a < 4) : 35 + 2 * a < nx ∧ (S (35 + 2 * a)).1 = 9 ∧ R (35 + 2 * a) 2 = some (35 + 2 * a + 1) ∧ S (35 + 2 * a + 1) = (101, 30) ∧ 35 + 2 * a + 1 < nx := by
  have h72 := w.1
  have : a = 0 ∨ a = 1 ∨ a = 2 ∨ a = 3 := by omega
  rcases this with rfl | rfl | rfl | rfl
  · exact ⟨by omega, cf_o w (q := (35, 9)) (by decide), cf_r w (q := (35, 2, 36)) (by decide), cf_a w (q := (36, 101, 30)) (by decide), by omega⟩
  · exact ⟨by omega, cf_o w (q := (37, 9)) (by decide), cf_r w (q := (37, 2, 38)) (by decide), cf_a w (q := (38, 101, 30)) (by decide), by omega⟩
  · exact ⟨by omega, cf_o w (q := (39, 9)) (by decide), cf_r w (q := (39, 2, 40)) (by decide), cf_a w (q := (40, 101, 30)) (by decide), by omega⟩
  · exact ⟨by omega, cf_o w (q := (41, 9)) (by decide), cf_r w (q := (41, 2, 42)) (by decide), cf_a w (q := (42, 101, 30)) (by decide), by omega⟩
theorem agendaOf_c {a : Nat} (hl0 : l.stackTraces = false) (hC : CI (I, J, R, S, nx) (κ, ι, (τ, tm, tn), (t, tp), fk, fp)) (hs : sok hb pb κ) (hhb : hb < 2 ^ 28) (ha : a < 4) (h0 : τ a ≠ 0) (he : erk κ tm tn a) : Cal l G (k + 3) 5 3603 mX11_agendaOf [.ref 0, .ref (35 + 2 * a)] (I, J, R, S, nx) (AgQ (tm a) (tnN tn a) (I, J, R, S, nx) (κ, ι, (τ, tm, tn), (t, tp), fk, fp)) := by
  refine Cal.of rfl (by decide +kernel) (by simp) (Nat.le_of_ble_eq_true rfl) rfl (lz_agenda (k := k + 2) hC (Nat.le_refl 5) (Nat.le_refl 3603) (fun I' J' R' S' n' o h1 h2 h3 => ?_))
  obtain ⟨ow, L, dl, pl, ld, lp, hR, wL, hL, hN, hV, hP⟩ := h2
  have w : CF R' S' n' := hR.1
  have hO := hR.2.2.2.2.1.2.2.1 o h3
  have hO1 : o + 5 ≤ n' := hO.1.1
  have h72 := hO.2.1
  have hTr := hR.2.1 a ha
  obtain ⟨t1, t2, t3, t4, t5⟩ := tray_TA w ha
  have eT : I' (35 + 2 * a) 1 = nI (tm a) := hTr.1.trans (if_neg h0)
  refine wp_aload_n (q := 23) dX11_agendaOf_22 rfl rfl rfl (wp_getR (q := 26) dX11_agendaOf_23 rfl fl_RX11_58 rfl (cf_n w (by decide)) (cf_o w (q := (0, 11)) (by decide)) h3 (wp_aload_n (q := 27) dX11_agendaOf_26 rfl rfl rfl (wp_bV (q := 30) (As := [.ref (35 + 2 * a)]) (v := .null) (P := fun I2 => Fr [o, o + 1, o + 2] I' I2 ∧ AK I2 κ o (tm a) (tnN tn a) ∧ I2 o 6 = -1) dX11_agendaOf_27 rfl rfl ok_X0_take ml_RX11_329 im_X0_take se_X0_take (t := 0) (by decide) ⟨_, rfl, rfl⟩ (by omega) hO.1.2.1 rfl rfl (Nat.le_of_ble_eq_true rfl) (take_a hO.1 t1 t2 t3 t4 t5 eT he.1.2 (fun i hi => by rw [show 35 + 2 * a + 1 = 36 + 2 * a by omega]; exact (hTr.2.2.2 i (by have := he.1.2; omega)).trans (he.2 i hi).1) κ) (fun I2 h2 => ?_))))
  have st := CI.scr (J' := J') hR wL hL hN hV hP h2.1 (scrB hO.2 (by decide) (by simp <;> omega)) (by simp <;> omega) (by simp <;> omega) (by simp <;> omega) (by simp <;> omega) (fun _ _ => rfl)
  exact wp_aload_n (q := 31) dX11_agendaOf_30 rfl rfl rfl (wp_getR (q := 34) dX11_agendaOf_31 rfl fl_RX11_58 rfl (cf_n w (by decide)) (cf_o w (q := (0, 11)) (by decide)) h3 (wp_areturn dX11_agendaOf_34 rfl (Or.inl ⟨_, rfl⟩) ⟨I2, J', R', S', n', o, rfl, rfl, h1.trans st.1, st.2, h3, h2.2.1, h2.2.2⟩))
theorem gE_0 {a : Nat} (h : gR (nI a) 0 3) (e : cN (nI a) = a) (h2 : τ a ≠ 0) (hq : qer κ tm tn a = true) : gE κ τ tm tn (nI a) = 0 := by unfold gE; rw [gT_0 h e h2, if_pos rfl, e, if_pos hq]
theorem gE_3 {a : Nat} (h : gR (nI a) 0 3) (e : cN (nI a) = a) (h2 : τ a ≠ 0) (hq : ¬ qer κ tm tn a = true) : gE κ τ tm tn (nI a) = 3 := by unfold gE; rw [gT_0 h e h2, if_pos rfl, e, if_neg hq]
theorem gE_2 {a : Nat} (h : gR (nI a) 0 3) (e : cN (nI a) = a) (h2 : ¬ τ a ≠ 0) : gE κ τ tm tn (nI a) = 2 := by unfold gE; rw [gT_2 h e h2]; rfl
theorem gE_1 {x : Int32} (h : ¬ gR x 0 3) : gE κ τ tm tn x = 1 := by unfold gE; rw [gT_1 h]; rfl
theorem erk_of {a : Nat} (h : gR (nI a) 0 3) (e : cN (nI a) = a) (h2 : τ a ≠ 0) (hq : qer κ tm tn a = true) (ha : a < 2 ^ 31) : erk κ tm tn a := by
  obtain ⟨b, eb, _, _, hb⟩ := gE0 (gE_0 (κ := κ) (tm := tm) (tn := tn) h e h2 hq)
  have : a = b := by
    have h1 := (show cN (nI a) = a from e)
    rw [eb] at h1
    omega
  rw [this]; exact hb
theorem aErr_n {a : Nat} (h : gR (nI a) 0 3) (e : cN (nI a) = a) (h2 : τ a ≠ 0) : aErrands κ τ tm tn (nI a) = (if qer κ tm tn a = true then (0, jP (qers (fun i h => qdo κ (tnN tn (cN (nI a)) i) h) (tm (cN (nI a))))) else (3, 0)) := by
  by_cases hz : qer κ tm tn a = true
  · unfold aErrands; rw [gE_0 h e h2 hz, if_pos rfl, if_pos hz]
  · unfold aErrands; rw [gE_3 h e h2 hz, if_neg hz]; rfl
theorem errands_p {x1 : Int32} (hl0 : l.stackTraces = false) (hC : CI (I, J, R, S, nx) (κ, ι, (τ, tm, tn), (t, tp), fk, fp)) (hs : sok hb pb κ) (hhb : hb < 2 ^ 28) : Cal l G (k + 6) 40 14000 mX11_errands [.ref 0, .int x1] (I, J, R, S, nx) (CQ (I, J, R, S, nx) (ansR [eNS, eIS, eIA] (aErrands κ τ tm tn x1)) (κ, ι, (τ, tm, tn), (t, tp), fk, fp)) := by
  have hC0 := hC
  obtain ⟨ow, L, dl, pl, ld, lp, hR, wL, hL, hN, hV, hP⟩ := hC
  have hR : CR I J R S nx ow ι τ tm tn t tp fk fp := hR
  have wL : R 14 0 = some L := wL
  have hL : LdC I R S nx ow L κ dl pl ld lp := hL
  have hN : CN I κ := hN
  have hV : PV I κ := hV
  have hP : PS I 30 31 κ := hP
  have w : CF R S nx := hR.1
  have wl : LW R S nx L dl pl ld lp := hL.1
  have h : CK I κ L dl pl ld lp := ⟨hN, hL.2.1, hV⟩
  have ho := hs.q
  have h1w : κ 1 ≤ 5 := ho.1
  have h2a : κ 2 ≤ 8 := ho.2.1
  have h54 : κ 54 ≤ hb := ho.2.2.2.2.2.2.2.2.2.2.1
  have e1 : I L 1 = nI (κ 1) := h.2.1.1.2.1
  have e2 : I L 2 = nI (κ 2) := h.2.1.1.2.2.1
  have kt := ndT x1
  by_cases gt : gR x1 0 3
  · have ct : nd_trayAt x1 = none := by rw [kt, if_pos gt]
    have gt1 := gt
    obtain ⟨a, rfl, _, ha, ea⟩ := gt.n (by decide)
    have hTr := hR.2.1 a (by omega)
    have k0 : nd_needPlaced (I (35 + 2 * a) 1) = (if τ a ≠ 0 then none else some eIS) := (ndP hTr.1 hTr.2.2.1.2)
    by_cases g0 : τ a ≠ 0
    · have c0 : nd_needPlaced (I (35 + 2 * a) 1) = none := by rw [k0, if_pos g0]
      rw [show aErrands κ τ tm tn (nI a) = (if qer κ tm tn a = true then (0, jP (qers (fun i h => qdo κ (tnN tn (cN (nI a)) i) h) (tm (cN (nI a))))) else (3, 0)) by exact aErr_n gt1 ea g0]
      refine Cal.of rfl (by decide +kernel) (by simp) (Nat.le_of_ble_eq_true rfl) rfl (sX11_errands_0 (Qn1 := ndQ (if qer κ tm tn a then none else some eIA) (I, J, R, S, nx)) (mc1 := 2) (ms1 := 12) hl0 w (by decide) (ndy ct) (by decide) (ty (by omega) fun hy => ndy c0) ⟨by decide, by decide⟩ (ty (by omega) fun hy _ => ?_) (ty (by omega) fun hy _ => ?_) (ty (by omega) fun hy _ => ?_))
      · exact needErrands_c hl0 hC0 hs hhb (by omega) g0 hy
      · rintro r μ' (⟨hn, hr, hμ⟩ | ⟨E, n', _, hr, _⟩)
        · obtain rfl := Sum.inl.inj hr
          subst hμ
          have hq : qer κ tm tn a = true := by
            cases hz : qer κ tm tn a with
            | true => rfl
            | false => rw [hz] at hn; cases hn
          have he := erk_of gt1 ea g0 hq (by omega)
          rw [if_pos hq, ea]
          refine sX11_errands_15 (Qn1 := AgQ (tm a) (tnN tn a) (I, J, R, S, nx) (κ, ι, (τ, tm, tn), (t, tp), fk, fp)) (mc1 := 5) (ms1 := 3603) w ⟨by decide, by decide⟩ (agendaOf_c hl0 hC0 hs hhb (by omega) g0 he) ?_ ?_
          · rintro r μ' ⟨I1, J1, R1, S1, n1, o, hr1, rfl, hk, hc, ho9, hA, _⟩
            obtain rfl := Sum.inl.inj hr1
            obtain ⟨ow1, L1, dl1, pl1, ld1, lp1, hR1, wL1, hL1, hN1, hV1, hP1⟩ := hc
            have hO := hR1.2.2.2.2.1.2.2.1 o ho9
            have ap := Own.ap hO.2 (by decide) (by decide) hL1
            have h72 := hO.2.1
            have hO1 : o + 5 ≤ n1 := hO.1.1
            refine sX11_errands_20 (u1 := jP (qers (fun i h => qdo κ (tnN tn a i) h) (tm a))) (P1 := fun I I' => Fr [27, 28, 29, o + 2] I I' ∧ CK I' κ L1 dl1 pl1 ld1 lp1) (by omega) hO.1.2.1 (endInOrder_a hR1.1 wL1 hL1.1 ⟨hN1, hL1.2.1, hV1⟩ ho (by omega) hO.1 ap ⟨he.1.2, fun i hi => (he.2 i hi).2⟩ hA) (fun I2 h2 => ?_)
            have st := CI.step hR1 wL1 hL1 h2.1 (scrB hO.2 (by decide) (by simp <;> omega)) h2.2 (hP1.fr h2.1 (by simp; omega) (by simp; omega))
            exact ⟨ok0 rfl, hk.trans st.1, st.2⟩
          · rintro E μ' ⟨I1, J1, R1, S1, n1, o, hr1, _⟩; cases hr1
        · cases hr
      · rintro E μ' (⟨_, hr, _⟩ | ⟨E', n', hq, hr, hn, hμ⟩)
        · cases hr
        · obtain rfl := Sum.inr.inj hr
          subst hμ
          have hq' : ¬ qer κ tm tn a = true := fun hz => by rw [if_pos hz] at hq; cases hq
          rw [if_neg hq'] at hq
          rw [if_neg hq', ← Option.some.inj hq]
          exact ⟨rfl, CI.thr hC0 hn⟩
    · have c0 : nd_needPlaced (I (35 + 2 * a) 1) = some eIS := by rw [k0, if_neg g0]
      rw [show aErrands κ τ tm tn (nI a) = (2, 0) by unfold aErrands; rw [gE_2 gt1 ea g0]; rfl]
      exact Cal.of rfl (by decide +kernel) (by simp) (Nat.le_of_ble_eq_true rfl) rfl (sX11_errands_0 (Qn1 := fun _ _ => True) (mc1 := 2) (ms1 := 12) hl0 w (by decide) (ndy ct) (by decide) (ty (by omega) fun hy => ndn c0 (fun n' hn => ⟨rfl, CI.thr hC0 hn⟩)) ⟨by decide, by decide⟩ (ty (by omega) fun hy g => ndx c0 g) (ty (by omega) fun hy g => ndx c0 g) (ty (by omega) fun hy g => ndx c0 g))
  · have ct : nd_trayAt x1 = some eNS := by rw [kt, if_neg gt]
    rw [show aErrands κ τ tm tn x1 = (1, 0) by unfold aErrands; rw [gE_1 gt]; rfl]
    exact Cal.of rfl (by decide +kernel) (by simp) (Nat.le_of_ble_eq_true rfl) rfl (sX11_errands_0 (Qn1 := fun _ _ => True) (mc1 := 2) (ms1 := 12) hl0 w (by decide) (ndn ct (fun n' hn => ⟨rfl, CI.thr hC0 hn⟩)) (by decide) (fun y hy => absurd (taG hy) gt) ⟨by decide, by decide⟩ (fun y hy => absurd (taG hy) gt) (fun y hy => absurd (taG hy) gt) (fun y hy => absurd (taG hy) gt))
end A
