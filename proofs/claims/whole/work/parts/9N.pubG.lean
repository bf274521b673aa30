/-! the class: told deeds -/
section A
variable {l : Launch} {G : Gh} {k : Nat} {I : Nat → Nat → Int32} {J : Nat → Nat → Int64} {R : Nat → Nat → Option Nat} {S : Nat → Nat × Nat} {nx : Nat} {κ : Nat → Nat} {hb pb : Nat}
variable {ι : Nat → Option (Nat → Nat)} {τ tm : Nat → Nat} {tn : Nat → Nat → Int64} {tp : Nat} {fk fp : Int32} {t : Nat → Nat} {ow : Nat → Nat} {L dl pl ld lp : Nat}
theorem taG {y : Nat} {x : Int32} (h : TA R S nx y x) : gR x 0 3 := by
  obtain ⟨_, ⟨h1, h2⟩, _⟩ := h
  obtain ⟨j, q1, q2⟩ := nI_of (x := x) (fun hc => by have := (fa_lt _ _).mp hc; rw [show (0 : Int32).toInt = 0 by decide] at this; omega)
  subst q2
  rw [show cN (nI j) = j from nI_clamp q1] at h1
  have := nI_toInt q1
  exact ⟨by omega, by omega⟩
theorem ty {a : Nat} {P : Nat → Prop} (ha : a < 2 ^ 31) (h : TA R S nx (35 + 2 * a) (nI a) → P (35 + 2 * a)) : ∀ y, TA R S nx y (nI a) → P y := by
  intro y hy
  have e : y = 35 + 2 * cN (nI a) := hy.1
  rw [show cN (nI a) = a from nI_clamp ha] at e
  rw [e] at hy ⊢
  exact h hy
theorem ndT (x : Int32) : nd_trayAt x = if gR x 0 3 then none else some eNS := by
  have := ndW (n := 4) (x := x) (by decide)
  unfold nd_trayAt
  rw [show (4 : Int32) = nI 4 from rfl, this]
  by_cases c : gR x 0 3
  · rw [if_pos c, if_pos (show gL x 4 from ⟨c.1, by have := c.2; omega⟩)]
  · rw [if_neg c, if_neg (fun g : gL x 4 => c ⟨g.1, by have := g.2; omega⟩)]
theorem ndP {v : Int32} {a m : Nat} (h : v = if a = 0 then -1 else nI m) (hm : m ≤ 30) : nd_needPlaced v = if a ≠ 0 then none else some eIS := by
  unfold nd_needPlaced
  rw [h]
  by_cases c : a = 0
  · rw [if_pos c, if_pos rfl, if_neg (not_not_intro c)]
  · rw [if_neg c, if_pos c, if_neg]
    rw [fa_eq, nI_toInt (by omega), show (-1 : Int32).toInt = -1 by decide]; omega
theorem qdoes_act {v : Int} {i : Nat} (hv : qwhy κ v = 0) (hl : κ 1 ≤ 5) (hi : 37 ≤ i ∧ i < 53) : qdoes κ v i = κ i := by
  unfold qwhy at hv
  unfold qdoes
  split
  · exact qset_ne (by omega)
  · rename_i c1
    rw [if_neg c1] at hv
    split
    · unfold qdeed; rw [qset_ne (by omega), qset_ne (by omega)]
    · rename_i c2
      split
      · rename_i c3
        have hv2 : v.toNat % 10000 / 100 < κ 1 := by
          refine Classical.byContradiction (fun hc => ?_)
          rw [if_neg (by omega)] at hv
          split at hv
          · rw [if_neg (fun h => hc h.1)] at hv; cases hv
          · rw [if_neg (by omega)] at hv; cases hv
        unfold qlay
        split <;> rw [qset_ne (by omega), qset_ne (by omega), qset_ne (by omega)]
      · exact qset_ne (by omega)
/-- the row now is put back -/
theorem judge_fin {κ' : Nat → Nat} {I1 : Nat → Nat → Int32} (hR : CR I J R S nx ow ι τ tm tn t tp fk fp) (wL : R 14 0 = some L) (hL : LdC I R S nx ow L κ dl pl ld lp) (hP : PS I 30 31 κ) (hF : Fr [25, 27, 28, 29, 32] I I1) (h32 : ∀ j, j < 49 → I1 32 j = nI (κ (7 + prm j))) (h1 : CK I1 κ' L dl pl ld lp) (hst : ∀ i, (i < 7 ∨ (37 ≤ i ∧ i < 53) ∨ 56 ≤ i) → κ' i = κ i) (h2a : κ 2 ≤ 8) : KF (I, J, R, S, nx) (upC I1 32 25 0 0 49, J, R, S, nx) ∧ CI (upC I1 32 25 0 0 49, J, R, S, nx) (κ, ι, (τ, tm, tn), (t, tp), fk, fp) := by
  have hU : Fr [25] I1 (upC I1 32 25 0 0 49) := fun a ha => by
    funext j
    unfold upC
    rw [if_neg (fun g => ha (by simp [g.1]))]
  have hF2 : Fr [25, 27, 28, 29, 32] I (upC I1 32 25 0 0 49) := hF.tr hU (by decide)
  have hN2 : CN (upC I1 32 25 0 0 49) κ := fun i hi => by
    rw [upC_in (by omega), Nat.zero_add, Nat.sub_zero]; exact h32 i hi
  refine CI.step hR wL hL hF2 ?_ ⟨hN2, (h1.2.1.fr hL.1 hU (by decide)).cg (by rw [hst 2 (by omega)]; exact h2a) (fun i hi => (hst i (by omega)).symm), (h1.2.2.fr hU (by decide)).cg (fun i hi => (hst i (by omega)).symm)⟩ (hP.fr hF2 (by decide) (by decide))
  intro a ha
  simp at ha
  exact Or.inl (by omega)
theorem judgeE_c {κ' : Nat → Nat} {I1 : Nat → Nat → Int32} {f : Nat → Int} {b : Nat} {x4 x5 s0 : Int32} {pl0 : Option Nat} {cb sb : Nat} (hR : CR I J R S nx ow ι τ tm tn t tp fk fp) (wL : R 14 0 = some L) (hL : LdC I R S nx ow L κ dl pl ld lp) (hP : PS I 30 31 κ) (hF : Fr [25, 27, 28, 29, 32] I I1) (h32 : ∀ j, j < 49 → I1 32 j = nI (κ (7 + prm j))) (h1 : CK I1 κ' L dl pl ld lp) (hst : ∀ i, (i < 7 ∨ (37 ≤ i ∧ i < 53) ∨ 56 ≤ i) → κ' i = κ i) (h2a : κ 2 ≤ 8) (hb3 : b ≤ 3)
    (e4 : x5 = 0 → x4 = jP pl0) (e5 : ¬ x5 = 0 → (-1 : Int32) = jP pl0) (e6 : s0 = jW f κ' pl0) : hX11_judge_122 l G k 40 14000 (CQ (I, J, R, S, nx) (ansR [eNS, eIS, eIA] (0, jAns f (κ', pl0) b)) (κ, ι, (τ, tm, tn), (t, tp), fk, fp)) (nI b) x4 x5 s0 (I1, J, R, S, nx) cb sb := by
  have w : CF R S nx := hR.1
  have fin := judge_fin hR wL hL hP hF h32 h1 hst h2a
  have hb := nI_toInt (n := b) (by omega)
  refine sX11_judge_122 w ?_ ?_ ?_ ?_ ?_
  · intro g
    exact ⟨ok0 (by unfold jAns; rw [if_neg (by omega), if_neg (by omega), if_neg (by omega)]; exact h1.1.h.2.1), fin⟩
  · intro g g2
    have : b = 0 := (nI_eq (b := 0) (by omega) (by decide)).mp g
    exact ⟨ok0 (by unfold jAns; rw [if_pos this]; exact e4 g2), fin⟩
  · intro g g2
    have : b = 0 := (nI_eq (b := 0) (by omega) (by decide)).mp g
    exact ⟨ok0 (by unfold jAns; rw [if_pos this]; exact e5 g2), fin⟩
  · intro g
    have : b = 1 := (nI_eq (b := 1) (by omega) (by decide)).mp g
    exact ⟨ok0 (by unfold jAns; rw [if_neg (by omega), if_pos this]; exact e6), fin⟩
  · intro g
    have : b = 2 := (nI_eq (b := 2) (by omega) (by decide)).mp g
    exact ⟨ok0 (by unfold jAns; rw [if_neg (by omega), if_neg (by omega), if_pos this]; exact h1.1.h.1), fin⟩
theorem gT_0 {a : Nat} (h : gR (nI a) 0 3) (e : cN (nI a) = a) (h2 : τ a ≠ 0) : gT τ (nI a) = 0 := by unfold gT; rw [if_pos h, e, if_neg h2]
theorem gT_2 {a : Nat} (h : gR (nI a) 0 3) (e : cN (nI a) = a) (h2 : ¬ τ a ≠ 0) : gT τ (nI a) = 2 := by unfold gT; rw [if_pos h, e, if_pos (Decidable.not_not.mp h2)]
theorem gT_1 {x : Int32} (h : ¬ gR x 0 3) : gT τ x = 1 := by unfold gT; rw [if_neg h]
theorem judge_p {x1 : Int32} {x2 : Int32} (hl0 : l.stackTraces = false) (hC : CI (I, J, R, S, nx) (κ, ι, (τ, tm, tn), (t, tp), fk, fp)) (hs : sok hb pb κ) (hhb : hb < 2 ^ 28) : Cal l G (k + 6) 40 14000 mX11_judge [.ref 0, .int x1, .int x2] (I, J, R, S, nx) (CQ (I, J, R, S, nx) (ansR [eNS, eIS, eIA] (aJudge κ τ tm tn x1 x2)) (κ, ι, (τ, tm, tn), (t, tp), fk, fp)) := by
  have hC0 := hC
  obtain ⟨ow, L, dl, pl, ld, lp, hR, wL, hL, hN, hV, hP⟩ := hC
  have hR : CR I J R S nx ow ι τ tm tn t tp fk fp := hR
  have wL : R 14 0 = some L := wL
  have hL : LdC I R S nx ow L κ dl pl ld lp := hL
  have hN : CN I κ := hN
  have hV : PV I κ := hV
  have hP : PS I 30 31 κ := hP
  have w : CF R S nx := hR.1
  have wl : LW R S nx L dl pl ld lp := hL.1
  have h : CK I κ L dl pl ld lp := ⟨hN, hL.2.1, hV⟩
  have ho := hs.q
  have h1w : κ 1 ≤ 5 := ho.1
  have h2a : κ 2 ≤ 8 := ho.2.1
  have h54 : κ 54 ≤ hb := ho.2.2.2.2.2.2.2.2.2.2.1
  have e1 : I L 1 = nI (κ 1) := h.2.1.1.2.1
  have e2 : I L 2 = nI (κ 2) := h.2.1.1.2.2.1
  have kt := ndT x1
  by_cases gt : gR x1 0 3
  · have ct : nd_trayAt x1 = none := by rw [kt, if_pos gt]
    have gt1 := gt
    obtain ⟨a, rfl, _, ha, ea⟩ := gt.n (by decide)
    have hTr := hR.2.1 a (by omega)
    have k0 : nd_needPlaced (I (35 + 2 * a) 1) = (if τ a ≠ 0 then none else some eIS) := (ndP hTr.1 hTr.2.2.1.2)
    have k1 : nd_needWithin x2 (0 : Int32) (3 : Int32) = (if gR x2 0 3 then none else some eIA) := (ndI (a := 0) (b := 3) (by decide) (by decide))
    by_cases g0 : τ a ≠ 0
    · by_cases g1 : gR x2 0 3
      · have c0 : nd_needPlaced (I (35 + 2 * a) 1) = none := by rw [k0, if_pos g0]
        have c1 : nd_needWithin x2 (0 : Int32) (3 : Int32) = none := by rw [k1, if_pos g1]
        rw [show aJudge κ τ tm tn (nI a) x2 = (0, jAns (tf tn (cN (nI a))) (qjud (tf tn (cN (nI a))) κ (tm (cN (nI a)))) (cN x2)) by unfold aJudge; rw [gT_0 gt1 ea g0, if_pos rfl, if_pos g1]]
        refine Cal.of rfl (by decide +kernel) (by simp) (Nat.le_of_ble_eq_true rfl) rfl (sX11_judge_0 hl0 w (by decide) (ndy ct) (by decide) (ty (by omega) fun hy => ndy c0) (by decide) (ty (by omega) fun hy _ => ndy c1) (ty (by omega) fun hy _ _ => ?_))
        · obtain ⟨b, rfl, _, hb3, eb⟩ := g1.n (by omega)
          rw [ea, eb]
          have hm : tm a ≤ 30 := hTr.2.2.1.2
          have eT : ∀ I1, Fr [25, 27, 28, 29, 32] I I1 → I1 (35 + 2 * a) 1 = nI (tm a) := fun I1 hF => by rw [hF _ (by simp; omega), hTr.1, if_neg g0]
          have hU : Fr [32] I (upC I 25 32 0 0 49) := fun q hq => by
            funext j; unfold upC; rw [if_neg (fun g => hq (by simp [g.1]))]
          refine upto (W := fun i (s : Nat → Nat → Int32) => hX11_judge_37 l G k 40 14000 _ (nI b) (35 + 2 * a) (nI i) (s, J, R, S, nx) (40 - 1 - 1 - 1) (14000 - 6 - 6 - 6)) (P := fun i s => ∃ κ', qjud (tf tn a) κ i = (κ', none) ∧ Fr [25, 27, 28, 29, 32] I s ∧ (∀ j, j < 49 → s 32 j = nI (κ (7 + prm j))) ∧ CK s κ' L dl pl ld lp ∧ sok (hb + 24 * i) (pb + 19008 * i) κ' ∧ (∀ i, (i < 7 ∨ (37 ≤ i ∧ i < 53) ∨ 56 ≤ i) → κ' i = κ i)) (tm a) ?_ ?_ (i := 0) (s := upC I 25 32 0 0 49) (Nat.zero_le _) ⟨κ, rfl, hU.wk (by decide), fun j hj => by rw [upC_in (by omega), Nat.zero_add, Nat.sub_zero]; exact hN j hj, h.fr wl hU (by decide) (by decide) (by decide), hs, fun _ _ => rfl⟩
          · intro I1 ⟨κ', hq, hF, h32, h1, hs1, hst⟩
            have c0 : I1 (35 + 2 * a) 1 ≤ nI (tm a) := by rw [eT I1 hF]; exact nI_le (Nat.le_refl _) (by omega)
            have c1 : ¬ nI (tm a) < I1 (35 + 2 * a) 1 := by rw [eT I1 hF, nI_ltI (by omega) (by omega)]; omega
            refine sX11_judge_37 (u1 := 0) (P1 := fun _ _ => True) (P2 := fun _ _ => True) hy.2.2.2.2.2.1 hy.2.2.2.2.2.2 hy.2.2.1 hy.2.2.2.2.1 hy.2.2.2.1 w (fun _ => ?_) (fun c => absurd c0 c) (fun c => absurd c0 c) (fun c => absurd c0 c) (fun c => absurd c0 c) (fun c => absurd c0 c) (fun c => absurd c0 c)
            rw [hq]
            exact sX11_judge_83 (u1 := 0) (P1 := fun _ _ => True) hy.2.2.2.2.2.1 hy.2.2.2.2.2.2 hy.2.2.1 hy.2.2.2.2.1 hy.2.2.2.1 w (fun c => absurd c c1) (fun c => absurd c c1) (fun c => absurd c c1) (fun _ => judgeE_c hR wL hL hP hF h32 h1 hst h2a hb3 (fun c => absurd c (by decide)) (fun _ => rfl) rfl)
          · intro i I1 hi ⟨κ', hq, hF, h32, h1, hs1, hst⟩ ih
            have c0 : ¬ I1 (35 + 2 * a) 1 ≤ nI i := by rw [eT I1 hF]; exact nI_ge hi (by omega)
            have eJ : J (35 + 2 * a + 1) (nI i).toNatClampNeg = tn a i := by rw [nI_clamp (by omega), show 35 + 2 * a + 1 = 36 + 2 * a by omega]; exact hTr.2.2.2 i (by omega)
            have bJ : vp_in (nI i) 30 := vp_in_nI (by omega) (by decide)
            have hw := whyNot_c (l := l) (G := G) (k := k + 4) (J := J) (x := tn a i) w wL wl h1 hs1.q (by omega)
            have c1 : nI i < I1 (35 + 2 * a) 1 := by rw [eT I1 hF, nI_ltI (by omega) (by omega)]; exact hi
            refine sX11_judge_37 (u1 := nI (qwhy κ' (tf tn a i))) (P1 := fun I I' => I' = I) (P2 := fun I I' => Fr [25, 27, 28, 29] I I' ∧ CK I' (qdoes κ' (tf tn a i)) L dl pl ld lp) hy.2.2.2.2.2.1 hy.2.2.2.2.2.2 hy.2.2.1 hy.2.2.2.2.1 hy.2.2.2.1 w (fun c => absurd c c0) (fun _ => bJ) (fun _ => by rw [eJ]; exact hw) (fun _ I2 h2 g => ?_) (fun _ I2 h2 g => bJ) (fun _ I2 h2 g => ?_) (fun _ I2 h2 g I3 h3 => ?_)
            · subst h2
              have cw : qwhy κ' (tf tn a i) ≠ 0 := fun hz => g (by rw [hz]; rfl)
              have he := qjud_stay (qjud_no hq cw) (tm a - (i + 1))
              rw [show i + 1 + (tm a - (i + 1)) = tm a by omega] at he
              rw [he]
              refine sX11_judge_83 (u1 := nI (qwhy κ' (tf tn a i))) (P1 := fun I I' => I' = I) hy.2.2.2.2.2.1 hy.2.2.2.2.2.2 hy.2.2.1 hy.2.2.2.2.1 hy.2.2.2.1 w (fun _ => bJ) (fun _ => by rw [eJ]; exact hw) (fun _ I3 h3 => ?_) (fun c => absurd c1 c)
              subst h3
              exact judgeE_c (pl0 := some i) hR wL hL hP hF h32 h1 hst h2a hb3 (fun _ => rfl) (fun c => absurd rfl c) rfl
            · subst h2
              have cw : qwhy κ' (tf tn a i) = 0 := (nI_eq (b := 0) (by have := qwhy_le κ' (tf tn a i); omega) (by decide)).mp g
              rw [eJ]
              exact carryOut_c w wL wl h1 hs1.q (by omega) cw
            · subst h2
              have cw : qwhy κ' (tf tn a i) = 0 := (nI_eq (b := 0) (by have := qwhy_le κ' (tf tn a i); omega) (by decide)).mp g
              rw [nI_1]
              refine ih I3 ⟨qdoes κ' (tf tn a i), qjud_go hq cw, hF.tr h3.1 (by decide), fun j hj => by rw [h3.1 32 (by decide)]; exact h32 j hj, h3.2, (hs1.does cw).mono (by omega) (by omega), fun j hj => ?_⟩
              rw [← hst j hj]
              by_cases cj : 37 ≤ j ∧ j < 53
              · exact qdoes_act cw hs1.1.1 cj
              · exact qdoes_out cw hs1.1.1 (by omega)
      · have c0 : nd_needPlaced (I (35 + 2 * a) 1) = none := by rw [k0, if_pos g0]
        have c1 : nd_needWithin x2 (0 : Int32) (3 : Int32) = some eIA := by rw [k1, if_neg g1]
        rw [show aJudge κ τ tm tn (nI a) x2 = (3, 0) by unfold aJudge; rw [gT_0 gt1 ea g0, if_pos rfl, if_neg g1]]
        exact Cal.of rfl (by decide +kernel) (by simp) (Nat.le_of_ble_eq_true rfl) rfl (sX11_judge_0 hl0 w (by decide) (ndy ct) (by decide) (ty (by omega) fun hy => ndy c0) (by decide) (ty (by omega) fun hy _ => ndn c1 (fun n' hn => ⟨rfl, CI.thr hC0 hn⟩)) (ty (by omega) fun hy _ g => ndx c1 g))
    · have c0 : nd_needPlaced (I (35 + 2 * a) 1) = some eIS := by rw [k0, if_neg g0]
      rw [show aJudge κ τ tm tn (nI a) x2 = (2, 0) by unfold aJudge; rw [gT_2 gt1 ea g0]; rfl]
      exact Cal.of rfl (by decide +kernel) (by simp) (Nat.le_of_ble_eq_true rfl) rfl (sX11_judge_0 hl0 w (by decide) (ndy ct) (by decide) (ty (by omega) fun hy => ndn c0 (fun n' hn => ⟨rfl, CI.thr hC0 hn⟩)) (by decide) (ty (by omega) fun hy g => ndx c0 g) (ty (by omega) fun hy g => ndx c0 g))
  · have ct : nd_trayAt x1 = some eNS := by rw [kt, if_neg gt]
    rw [show aJudge κ τ tm tn x1 x2 = (1, 0) by unfold aJudge; rw [gT_1 gt]; rfl]
    exact Cal.of rfl (by decide +kernel) (by simp) (Nat.le_of_ble_eq_true rfl) rfl (sX11_judge_0 hl0 w (by decide) (ndn ct (fun n' hn => ⟨rfl, CI.thr hC0 hn⟩)) (by decide) (fun y hy => absurd (taG hy) gt) (by decide) (fun y hy => absurd (taG hy) gt) (fun y hy => absurd (taG hy) gt))
theorem perform_p {x1 : Int32} (hl0 : l.stackTraces = false) (hC : CI (I, J, R, S, nx) (κ, ι, (τ, tm, tn), (t, tp), fk, fp)) (hs : sok hb pb κ) (hhb : hb < 2 ^ 28) : Cal l G (k + 6) 40 14000 mX11_perform [.ref 0, .int x1] (I, J, R, S, nx) (CQ (I, J, R, S, nx) (ansR [eNS, eIS] ((aPerf κ τ tm tn x1).1)) ((aPerf κ τ tm tn x1).2, ι, (τ, tm, tn), (t, tp), fk, fp)) := by
  have hC0 := hC
  obtain ⟨ow, L, dl, pl, ld, lp, hR, wL, hL, hN, hV, hP⟩ := hC
  have hR : CR I J R S nx ow ι τ tm tn t tp fk fp := hR
  have wL : R 14 0 = some L := wL
  have hL : LdC I R S nx ow L κ dl pl ld lp := hL
  have hN : CN I κ := hN
  have hV : PV I κ := hV
  have hP : PS I 30 31 κ := hP
  have w : CF R S nx := hR.1
  have wl : LW R S nx L dl pl ld lp := hL.1
  have h : CK I κ L dl pl ld lp := ⟨hN, hL.2.1, hV⟩
  have ho := hs.q
  have h1w : κ 1 ≤ 5 := ho.1
  have h2a : κ 2 ≤ 8 := ho.2.1
  have h54 : κ 54 ≤ hb := ho.2.2.2.2.2.2.2.2.2.2.1
  have e1 : I L 1 = nI (κ 1) := h.2.1.1.2.1
  have e2 : I L 2 = nI (κ 2) := h.2.1.1.2.2.1
  have kt := ndT x1
  by_cases gt : gR x1 0 3
  · have ct : nd_trayAt x1 = none := by rw [kt, if_pos gt]
    have gt1 := gt
    obtain ⟨a, rfl, _, ha, ea⟩ := gt.n (by decide)
    have hTr := hR.2.1 a (by omega)
    have k0 : nd_needPlaced (I (35 + 2 * a) 1) = (if τ a ≠ 0 then none else some eIS) := (ndP hTr.1 hTr.2.2.1.2)
    by_cases g0 : τ a ≠ 0
    · have c0 : nd_needPlaced (I (35 + 2 * a) 1) = none := by rw [k0, if_pos g0]
      rw [show aPerf κ τ tm tn (nI a) = ((0, pP (tm (cN (nI a))) (qper (tf tn (cN (nI a))) κ (tm (cN (nI a)))).2), (qper (tf tn (cN (nI a))) κ (tm (cN (nI a)))).1) by unfold aPerf; rw [gT_0 gt1 ea g0, if_pos rfl]]
      refine Cal.of rfl (by decide +kernel) (by simp) (Nat.le_of_ble_eq_true rfl) rfl (sX11_perform_0 hl0 w (by decide) (ndy ct) (by decide) (ty (by omega) fun hy => ndy c0) (ty (by omega) fun hy _ => ?_))
      · have hm : tm a ≤ 30 := hTr.2.2.1.2
        rw [ea]
        have eT : ∀ I1, Fr [25, 27, 28, 29, 30, 31] I I1 → I1 (35 + 2 * a) 1 = nI (tm a) := fun I1 hF => by rw [hF _ (by simp; omega), hTr.1, if_neg g0]
        refine upto (W := fun i (s : Nat → Nat → Int32) => hX11_perform_12 l G k 40 14000 _ (35 + 2 * a) (nI i) (s, J, R, S, nx) (40 - 1 - 1) (14000 - 6 - 6)) (P := fun i s => ∃ κ', qper (tf tn a) κ i = (κ', none) ∧ Fr [25, 27, 28, 29, 30, 31] I s ∧ CK s κ' L dl pl ld lp ∧ PS s 30 31 κ' ∧ sok (hb + 24 * i) (pb + 19008 * i) κ') (tm a) ?_ ?_ (i := 0) (s := I) (Nat.zero_le _) ⟨κ, rfl, Fr.rf, h, hP, hs⟩
        · intro I1 ⟨κ', hq, hF, h1, hP1, hs1⟩
          have c0 : I1 (35 + 2 * a) 1 ≤ nI (tm a) := by rw [eT I1 hF]; exact nI_le (Nat.le_refl _) (by omega)
          refine sX11_perform_12 (u1 := 0) (P1 := fun _ _ => True) (P2 := fun _ _ => True) (P3 := fun _ _ => True) hy.2.2.2.2.2.1 hy.2.2.2.2.2.2 hy.2.2.1 hy.2.2.2.2.1 hy.2.2.2.1 w (fun _ => ?_) (fun c => absurd c0 c) (fun c => absurd c0 c) (fun c => absurd c0 c) (fun c => absurd c0 c) (fun c => absurd c0 c) (fun c => absurd c0 c) (fun c => absurd c0 c)
          rw [hq]
          exact ⟨ok0 rfl, CI.step hR wL hL hF scrN h1 hP1⟩
        · intro i I1 hi ⟨κ', hq, hF, h1, hP1, hs1⟩ ih
          have c0 : ¬ I1 (35 + 2 * a) 1 ≤ nI i := by rw [eT I1 hF]; exact nI_ge hi (by omega)
          have eJ : J (35 + 2 * a + 1) (nI i).toNatClampNeg = tn a i := by rw [nI_clamp (by omega), show 35 + 2 * a + 1 = 36 + 2 * a by omega]; exact hTr.2.2.2 i (by omega)
          have bJ : vp_in (nI i) 30 := vp_in_nI (by omega) (by decide)
          have hw := whyNot_c (l := l) (G := G) (k := k + 4) (J := J) (x := tn a i) w wL wl h1 hs1.q (by omega)
          refine sX11_perform_12 (u1 := nI (qwhy κ' (tf tn a i))) (P1 := fun I I' => I' = I) (P2 := fun I I' => Fr [30, 31] I I' ∧ PS I' 30 31 (qkeep κ')) (P3 := fun I I' => Fr [25, 27, 28, 29] I I' ∧ CK I' (qdoes (qkeep κ') (tf tn a i)) L dl pl ld lp) hy.2.2.2.2.2.1 hy.2.2.2.2.2.2 hy.2.2.1 hy.2.2.2.2.1 hy.2.2.2.1 w (fun c => absurd c c0) (fun _ => bJ) (fun _ => by rw [eJ]; exact hw) (fun _ I2 h2 g => ?_) (fun _ I2 h2 g => ?_) (fun _ I2 h2 g I3 h3 => bJ) (fun _ I2 h2 g I3 h3 => ?_) (fun _ I2 h2 g I3 h3 I4 h4 => ?_)
          · subst h2
            have cw : qwhy κ' (tf tn a i) ≠ 0 := fun hz => g (by rw [hz]; rfl)
            have he := qper_stay (qper_no hq cw) (tm a - (i + 1))
            rw [show i + 1 + (tm a - (i + 1)) = tm a by omega] at he
            rw [he]
            exact ⟨ok0 rfl, CI.step hR wL hL hF scrN h1 hP1⟩
          · subst h2
            exact keep_c w h1.1 hP1 hs1.2.1
          · subst h2
            have cw : qwhy κ' (tf tn a i) = 0 := (nI_eq (b := 0) (by have := qwhy_le κ' (tf tn a i); omega) (by decide)).mp g
            rw [eJ]
            exact carryOut_c w wL wl (keep_ck h1 wl hs1.1.2.1 hs1.2.1 h3.1) hs1.keep.q (by omega) (by rw [qwhy_keep]; exact cw)
          · subst h2
            have cw : qwhy κ' (tf tn a i) = 0 := (nI_eq (b := 0) (by have := qwhy_le κ' (tf tn a i); omega) (by decide)).mp g
            have cw' : qwhy (qkeep κ') (tf tn a i) = 0 := by rw [qwhy_keep]; exact cw
            rw [nI_1]
            exact ih I4 ⟨qdoes (qkeep κ') (tf tn a i), qper_go hq cw, (hF.tr h3.1 (r3 := [25, 27, 28, 29, 30, 31]) (by decide)).tr h4.1 (by decide), h4.2, (h3.2.fr h4.1 (by decide) (by decide)).cg hs1.keep.2.1 (fun j hj => qdoes_out cw' hs1.keep.1.1 (by omega)), (hs1.keep.does cw').mono (by omega) (by omega)⟩
    · have c0 : nd_needPlaced (I (35 + 2 * a) 1) = some eIS := by rw [k0, if_neg g0]
      rw [show aPerf κ τ tm tn (nI a) = ((2, 0), κ) by unfold aPerf; rw [gT_2 gt1 ea g0]; rfl]
      exact Cal.of rfl (by decide +kernel) (by simp) (Nat.le_of_ble_eq_true rfl) rfl (sX11_perform_0 hl0 w (by decide) (ndy ct) (by decide) (ty (by omega) fun hy => ndn c0 (fun n' hn => ⟨rfl, CI.thr hC0 hn⟩)) (ty (by omega) fun hy g => ndx c0 g))
  · have ct : nd_trayAt x1 = some eNS := by rw [kt, if_neg gt]
    rw [show aPerf κ τ tm tn x1 = ((1, 0), κ) by unfold aPerf; rw [gT_1 gt]; rfl]
    exact Cal.of rfl (by decide +kernel) (by simp) (Nat.le_of_ble_eq_true rfl) rfl (sX11_perform_0 hl0 w (by decide) (ndn ct (fun n' hn => ⟨rfl, CI.thr hC0 hn⟩)) (by decide) (fun y hy => absurd (taG hy) gt) (fun y hy => absurd (taG hy) gt))
end A
