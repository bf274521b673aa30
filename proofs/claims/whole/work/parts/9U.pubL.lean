/-! the class: the best order -/
section A
variable {l : Launch} {G : Gh} {k : Nat} {I : Nat → Nat → Int32} {J : Nat → Nat → Int64} {R : Nat → Nat → Option Nat} {S : Nat → Nat × Nat} {nx : Nat} {κ : Nat → Nat} {hb pb : Nat}
variable {ι : Nat → Option (Nat → Nat)} {τ tm : Nat → Nat} {tn : Nat → Nat → Int64} {tp : Nat} {fk fp : Int32} {t : Nat → Nat} {ow : Nat → Nat} {L dl pl ld lp : Nat}
theorem qdo_ge {n h t : Nat} (e : qdo κ n h = some t) : h ≤ t := by
  unfold qdo at e
  obtain ⟨q, h1, h2⟩ := Option.map_some_inv e
  have := (qso_le h1).1
  omega
theorem place_c {A m y : Nat} {rb : Nat × List Nat} (wA : AW R S nx A) (hm : I A 2 = nI m) (hm4 : m ≤ 4) (hB : BO I A m rb) (hy : 10 ≤ y ∧ y ≤ 13) : Cal l G k 0 0 mX0_placeInBest [.ref A, .int (nI y - (10 : Int32))] (I, J, R, S, nx) (fun r μ' => r = .inl (some (.int (bAns rb m y))) ∧ ∃ I', μ' = (I', J, R, S, nx) ∧ I' = I) := by
  have ey : nI y - (10 : Int32) = nI (y - 10) := by rw [show (10 : Int32) = nI 10 from rfl, pk_sub hy.1]
  rw [ey]
  have c0 : ¬ nI (y - 10) < 0 := by rw [fa_lt, nI_toInt (by omega), show (0 : Int32).toInt = 0 by decide]; omega
  have lt : (nI (y - 10) < nI m) = (y - 10 < m) := propext (nI_ltI (by omega) (by omega))
  have y0 : y ≠ 0 := by omega
  unfold bAns
  rcases hB with ⟨b1, b2⟩ | ⟨b1, b2, b3⟩
  · refine Cal.of rfl (by decide +kernel) (by simp) (Nat.le_of_ble_eq_true rfl) rfl (sX0_placeInBest_0 wA (fun _ => ⟨by rw [if_pos b1], _, rfl, rfl⟩) (fun c => absurd b2 c) (fun c => absurd b2 c) (fun c => absurd b2 c) (fun c => absurd b2 c))
  · have c6 : ¬ I A 6 = (-1 : Int32) := by rw [b2, fa_eq, nI_toInt (by omega), show (-1 : Int32).toInt = -1 by decide]; omega
    refine Cal.of rfl (by decide +kernel) (by simp) (Nat.le_of_ble_eq_true rfl) rfl (sX0_placeInBest_0 wA (fun c => absurd c c6) (fun _ c => absurd c c0) (fun _ _ g => ?_) (fun _ _ g => ?_) (fun _ _ g => ?_))
    · exact vp_in_nI (by rw [hm, lt] at g; omega) (by decide)
    · rw [hm, lt] at g
      exact ⟨by rw [if_neg (by omega), if_neg y0, if_pos g, nI_clamp (by omega), b3 _ g], _, rfl, rfl⟩
    · rw [hm, lt] at g
      exact ⟨by rw [if_neg (by omega), if_neg y0, if_neg g], _, rfl, rfl⟩
theorem best_go {a : Nat} {x2 : Int32} {cb sb : Nat} {r0 : Option Value} {μ' : Mem} (hl0 : l.stackTraces = false) (hC : CI (I, J, R, S, nx) (κ, ι, (τ, tm, tn), (t, tp), fk, fp)) (hs : sok hb pb κ) (hhb : hb < 2 ^ 28) (he : erk κ tm tn a) (hx : x2 = 0 ∨ gR x2 10 13) (hq : AgQ (tm a) (tnN tn a) (I, J, R, S, nx) (κ, ι, (τ, tm, tn), (t, tp), fk, fp) (.inl r0) μ') : WP l G (k + 4 + 41) 40 14000 mX11_bestOrder (CQ (I, J, R, S, nx) (ansR [eNS, eIS, eIA] (0, bAns (qbo κ tm tn a) (tm a) (cN x2))) (κ, ι, (τ, tm, tn), (t, tp), fk, fp)) 32 [none, none, some (.int x2), none, none] (r0.toList ++ []) μ' cb sb := by
  have ho := hs.q
  obtain ⟨I1, J1, R1, S1, n1, o, hr1, rfl, hk, hc, ho9, hA, h6⟩ := hq
  obtain rfl := Sum.inl.inj hr1
  obtain ⟨ow1, L1, dl1, pl1, ld1, lp1, hR1, wL1, hL1, hN1, hV1, hP1⟩ := hc
  have hR1 : CR I1 J1 R1 S1 n1 ow1 ι τ tm tn t tp fk fp := hR1
  have hO := hR1.2.2.2.2.1.2.2.1 o ho9
  have ap := Own.ap hO.2 (by decide) (by decide) hL1
  have h72 := hO.2.1
  have hO1 : o + 5 ≤ n1 := hO.1.1
  have h4 := he.1
  have cl := tryOrders_a (l := l) (G := G) (J := J1) (n := tnN tn a) (m := tm a) hR1.1 wL1 hL1.1 ho (by omega) hO.1 ap ⟨he.1.2, fun i hi => (he.2 i hi).2⟩ (tm a) (k + 4 - tm a) I1 [] 0 0 (536870912, []) ⟨hN1, hL1.2.1, hV1⟩ hA (by simp) (by simp) (by decide) (fun j hj => absurd hj (by simp)) (Or.inl ⟨rfl, h6⟩)
  rw [show k + 4 - tm a + tm a + 40 = k + 4 + 40 by omega, qgc_go (fun i h t e => qdo_ge e)] at cl
  unfold qbo
  obtain ⟨r, hr⟩ : ∃ r, qgo (tm a) (fun i h => qdo κ (tnN tn a i) h) (tm a) [] 0 0 (536870912, []) = r := ⟨_, rfl⟩
  rw [hr] at cl ⊢
  have fin : ∀ I2, Fr [27, 28, 29, o, o + 2, o + 3, o + 4] I1 I2 ∧ CK I2 κ L1 dl1 pl1 ld1 lp1 → KF (I, J, R, S, nx) (I2, J1, R1, S1, n1) ∧ CI (I2, J1, R1, S1, n1) (κ, ι, (τ, tm, tn), (t, tp), fk, fp) := fun I2 h2 => by
    have st := CI.step hR1 wL1 hL1 h2.1 (scrB hO.2 (by decide) (by simp <;> omega)) h2.2 (hP1.fr h2.1 (by simp; omega) (by simp; omega))
    exact ⟨hk.trans st.1, st.2⟩
  refine sX11_bestOrder_32 (k := k + 4) (u2 := bAns r (tm a) (cN x2)) (P1 := fun I I' => Fr [27, 28, 29, o, o + 2, o + 3, o + 4] I I' ∧ CK I' κ L1 dl1 pl1 ld1 lp1 ∧ AK I' κ o (tm a) (tnN tn a) ∧ BO I' o (tm a) r) (P2 := fun I I' => I' = I) (by omega) hO.1.2.1 (cl.mono (fun r' μ' ⟨e, I', e2, q1, q2, q3, q4, _⟩ => ⟨e, I', e2, q1, q2, q3, q4⟩)) (fun I2 h2 hne => ?_) (fun I2 h2 hne I3 h3 => ?_) (fun I2 h2 hz => ?_)
  · obtain ⟨y, rfl, hy1, hy2, ey⟩ := (hx.resolve_left hne).n (by omega)
    rw [ey]
    exact place_c hO.1 h2.2.2.1.1 h4.2 h2.2.2.2 ⟨hy1, hy2⟩
  · subst h3
    exact ⟨ok0 rfl, fin I3 ⟨h2.1, h2.2.1⟩⟩
  · refine ⟨ok0 ?_, fin I2 ⟨h2.1, h2.2.1⟩⟩
    rw [show cN x2 = 0 by rw [hz]; rfl]
    unfold bAns
    rcases h2.2.2.2 with ⟨b1, b2⟩ | ⟨b1, b2, _⟩
    · rw [if_pos b1, b2]
    · rw [if_neg (by omega), if_pos rfl, b2]
theorem aBest_n {a : Nat} {x2 : Int32} (h : gR (nI a) 0 3) (e : cN (nI a) = a) (h2 : τ a ≠ 0) : aBest κ τ tm tn (nI a) x2 = (if qer κ tm tn a = true then (if x2 = 0 ∨ gR x2 10 13 then (0, bAns (qbo κ tm tn a) (tm a) (cN x2)) else (3, 0)) else (3, 0)) := by
  by_cases hz : qer κ tm tn a = true
  · unfold aBest; rw [gE_0 h e h2 hz, if_pos rfl, if_pos hz, e]
  · unfold aBest; rw [gE_3 h e h2 hz, if_neg hz]; rfl
theorem bestOrder_p {x1 : Int32} {x2 : Int32} (hl0 : l.stackTraces = false) (hC : CI (I, J, R, S, nx) (κ, ι, (τ, tm, tn), (t, tp), fk, fp)) (hs : sok hb pb κ) (hhb : hb < 2 ^ 28) : Cal l G (k + 45) 40 14000 mX11_bestOrder [.ref 0, .int x1, .int x2] (I, J, R, S, nx) (CQ (I, J, R, S, nx) (ansR [eNS, eIS, eIA] (aBest κ τ tm tn x1 x2)) (κ, ι, (τ, tm, tn), (t, tp), fk, fp)) := by
  have hC0 := hC
  obtain ⟨ow, L, dl, pl, ld, lp, hR, wL, hL, hN, hV, hP⟩ := hC
  have hR : CR I J R S nx ow ι τ tm tn t tp fk fp := hR
  have wL : R 14 0 = some L := wL
  have hL : LdC I R S nx ow L κ dl pl ld lp := hL
  have hN : CN I κ := hN
  have hV : PV I κ := hV
  have hP : PS I 30 31 κ := hP
  have w : CF R S nx := hR.1
  have wl : LW R S nx L dl pl ld lp := hL.1
  have h : CK I κ L dl pl ld lp := ⟨hN, hL.2.1, hV⟩
  have ho := hs.q
  have h1w : κ 1 ≤ 5 := ho.1
  have h2a : κ 2 ≤ 8 := ho.2.1
  have h54 : κ 54 ≤ hb := ho.2.2.2.2.2.2.2.2.2.2.1
  have e1 : I L 1 = nI (κ 1) := h.2.1.1.2.1
  have e2 : I L 2 = nI (κ 2) := h.2.1.1.2.2.1
  have kt := ndT x1
  by_cases gt : gR x1 0 3
  · have ct : nd_trayAt x1 = none := by rw [kt, if_pos gt]
    have gt1 := gt
    obtain ⟨a, rfl, _, ha, ea⟩ := gt.n (by decide)
    have hTr := hR.2.1 a (by omega)
    have k0 : nd_needPlaced (I (35 + 2 * a) 1) = (if τ a ≠ 0 then none else some eIS) := (ndP hTr.1 hTr.2.2.1.2)
    by_cases g0 : τ a ≠ 0
    · have c0 : nd_needPlaced (I (35 + 2 * a) 1) = none := by rw [k0, if_pos g0]
      rw [show aBest κ τ tm tn (nI a) x2 = (if qer κ tm tn a = true then (if x2 = 0 ∨ gR x2 10 13 then (0, bAns (qbo κ tm tn a) (tm a) (cN x2)) else (3, 0)) else (3, 0)) by exact aBest_n gt1 ea g0]
      refine Cal.of rfl (by decide +kernel) (by simp) (Nat.le_of_ble_eq_true rfl) rfl (sX11_bestOrder_0 (k := k + 4) (Qn1 := ndQ (if qer κ tm tn a then none else some eIA) (I, J, R, S, nx)) (mc1 := 2) (ms1 := 12) hl0 w (by decide) (ndy ct) (by decide) (ty (by omega) fun hy => ndy c0) ⟨by decide, by decide⟩ (ty (by omega) fun hy _ => ?_) (ty (by omega) fun hy _ => ?_) (ty (by omega) fun hy _ => ?_))
      · exact needErrands_c hl0 hC0 hs hhb (by omega) g0 hy
      · rintro r μ' (⟨hn, hr, hμ⟩ | ⟨E, n', _, hr, _⟩)
        · obtain rfl := Sum.inl.inj hr
          subst hμ
          have hq : qer κ tm tn a = true := by
            cases hz : qer κ tm tn a with
            | true => rfl
            | false => rw [hz] at hn; cases hn
          have he := erk_of gt1 ea g0 hq (by omega)
          rw [if_pos hq]
          have kw : nd_needWithin x2 (10 : Int32) (13 : Int32) = if gR x2 10 13 then none else some eIA := ndI (a := 10) (b := 13) (by decide) (by decide)
          have zz : ∀ (E : String) (μ' : Mem) (X : Prop), AgQ (tm a) (tnN tn a) (I, J, R, S, nx) (κ, ι, (τ, tm, tn), (t, tp), fk, fp) (.inr E) μ' → X := fun E μ' X hh => by obtain ⟨I1, J1, R1, S1, n1, o, hr1, _⟩ := hh; cases hr1
          refine sX11_bestOrder_15 (k := k + 4) (Qn1 := AgQ (tm a) (tnN tn a) (I, J, R, S, nx) (κ, ι, (τ, tm, tn), (t, tp), fk, fp)) (Qn2 := AgQ (tm a) (tnN tn a) (I, J, R, S, nx) (κ, ι, (τ, tm, tn), (t, tp), fk, fp)) (mc1 := 5) (ms1 := 3603) (mc2 := 5) (ms2 := 3603) hl0 w ⟨by decide, by decide⟩ (fun _ => agendaOf_c (k := k + 41) hl0 hC0 hs hhb (by omega) g0 he) (fun hz r μ' hh => ?_) (fun _ E μ' hh => zz E μ' _ hh) (by decide) (fun hne E n' hE hn => ?_) ⟨by decide, by decide⟩ (fun _ _ => agendaOf_c (k := k + 41) hl0 hC0 hs hhb (by omega) g0 he) (fun hne hg r μ' hh => ?_) (fun _ _ E μ' hh => zz E μ' _ hh)
          · rw [if_pos (Or.inl hz)]
            exact best_go hl0 hC0 hs hhb he (Or.inl hz) hh
          · rw [kw] at hE
            have hg : ¬ gR x2 10 13 := fun g => by rw [if_pos g] at hE; cases hE
            rw [if_neg hg] at hE
            rw [if_neg (fun g => g.elim hne hg), ← Option.some.inj hE]
            exact ⟨rfl, CI.thr hC0 hn⟩
          · have hg2 : gR x2 10 13 := Decidable.byContradiction (fun c => by rw [kw, if_neg c] at hg; cases hg)
            rw [if_pos (Or.inr hg2)]
            exact best_go hl0 hC0 hs hhb he (Or.inr hg2) hh
        · cases hr
      · rintro E μ' (⟨_, hr, _⟩ | ⟨E', n', hq, hr, hn, hμ⟩)
        · cases hr
        · obtain rfl := Sum.inr.inj hr
          subst hμ
          have hq' : ¬ qer κ tm tn a = true := fun hz => by rw [if_pos hz] at hq; cases hq
          rw [if_neg hq'] at hq
          rw [if_neg hq', ← Option.some.inj hq]
          exact ⟨rfl, CI.thr hC0 hn⟩
    · have c0 : nd_needPlaced (I (35 + 2 * a) 1) = some eIS := by rw [k0, if_neg g0]
      rw [show aBest κ τ tm tn (nI a) x2 = (2, 0) by unfold aBest; rw [gE_2 gt1 ea g0]; rfl]
      exact Cal.of rfl (by decide +kernel) (by simp) (Nat.le_of_ble_eq_true rfl) rfl (sX11_bestOrder_0 (k := k + 4) (Qn1 := fun _ _ => True) (mc1 := 2) (ms1 := 12) hl0 w (by decide) (ndy ct) (by decide) (ty (by omega) fun hy => ndn c0 (fun n' hn => ⟨rfl, CI.thr hC0 hn⟩)) ⟨by decide, by decide⟩ (ty (by omega) fun hy g => ndx c0 g) (ty (by omega) fun hy g => ndx c0 g) (ty (by omega) fun hy g => ndx c0 g))
  · have ct : nd_trayAt x1 = some eNS := by rw [kt, if_neg gt]
    rw [show aBest κ τ tm tn x1 x2 = (1, 0) by unfold aBest; rw [gE_1 gt]; rfl]
    exact Cal.of rfl (by decide +kernel) (by simp) (Nat.le_of_ble_eq_true rfl) rfl (sX11_bestOrder_0 (k := k + 4) (Qn1 := fun _ _ => True) (mc1 := 2) (ms1 := 12) hl0 w (by decide) (ndn ct (fun n' hn => ⟨rfl, CI.thr hC0 hn⟩)) (by decide) (fun y hy => absurd (taG hy) gt) ⟨by decide, by decide⟩ (fun y hy => absurd (taG hy) gt) (fun y hy => absurd (taG hy) gt) (fun y hy => absurd (taG hy) gt))
end A
