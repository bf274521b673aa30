/-! the reference: deeds of state, the rest -/
theorem WP.mono {l : Launch} {G : Gh} {k mc ms : Nat} {M : Mt} {Q Q' : Res → Mem → Prop} {pc : Nat} {L : List (Option Value)} {st : List Value} {μ : Mem} {cb sb : Nat} (h : WP l G k mc ms M Q pc L st μ cb sb) (hq : ∀ r μ', Q r μ' → Q' r μ') : WP l G k mc ms M Q' pc L st μ cb sb := by
  intro p e s m args below meth c H locs cells slots ls h1 h2 h3 h4 h5 h6 T hT X
  obtain ⟨t, a1, o, b1, b2, b3⟩ := h p e s m args below meth c H locs cells slots ls h1 h2 h3 h4 h5 h6 T hT X
  refine ⟨t, a1, o, b1, b2, ?_⟩
  rcases b3 with ⟨⟨⟨r, μ', c1, c2, c3⟩, c4⟩, c5⟩ | ⟨q, c1, E, ce, L, ⟨⟨μ', d1, d2⟩, d3⟩, d4⟩
  · exact Or.inl ⟨⟨⟨r, μ', hq _ _ c1, c2, c3⟩, c4⟩, c5⟩
  · exact Or.inr ⟨q, c1, E, ce, L, ⟨⟨μ', hq _ _ d1, d2⟩, d3⟩, d4⟩
section A
variable {l : Launch} {G : Gh} {k : Nat} {I : Nat → Nat → Int32} {J : Nat → Nat → Int64} {R : Nat → Nat → Option Nat} {S : Nat → Nat × Nat} {nx : Nat} {κ : Nat → Nat} {hb pb : Nat}
theorem laysOn_n {what wn dg hrs : Nat} (hK : Kn I κ) (hwh : what + 10 + wn < 54) (hdg : dg < 2 ^ 31) : Fr [44] I (w_X12_laysOn I (nI what) (nI wn) (nI dg) (nI hrs)) ∧ Kn (w_X12_laysOn I (nI what) (nI wn) (nI dg) (nI hrs)) (qlay κ what wn dg hrs) := by
  have e1 : nI what + nI wn = nI (what + wn) := nI_add _ _
  have e2 : nI what + (5 : Int32) + nI wn = nI (what + 5 + wn) := by rw [show (5 : Int32) = nI 5 from rfl, nI_add, nI_add]
  have e3 : nI what + (10 : Int32) + nI wn = nI (what + 10 + wn) := by rw [show (10 : Int32) = nI 10 from rfl, nI_add, nI_add]
  have e0 : (nI dg = 0) = (dg = 0) := propext (nI_eq (b := 0) hdg (by decide))
  unfold w_X12_laysOn
  rw [e1, e2, e3, nI_clamp (by omega), nI_clamp (by omega), nI_clamp (by omega)]
  have k1 : Kn (up2 I 44 (what + wn) (nI dg)) (qset κ (what + wn) dg) := hK.up rfl
  have x1 : up2 I 44 (what + wn) (nI dg) 44 54 = nI (κ 54) := by rw [k1 54 (by decide), qset_ne (by omega)]
  have k2 := k1.up (i := what + 5 + wn) (x := κ 54) x1
  have x2 : up2 (up2 I 44 (what + wn) (nI dg)) 44 (what + 5 + wn) (up2 I 44 (what + wn) (nI dg) 44 54) 44 54 = nI (κ 54) := by rw [k2 54 (by decide), qset_ne (by omega), qset_ne (by omega)]
  unfold qlay
  by_cases c : dg = 0
  · rw [if_pos (e0.mpr c), if_pos c]
    exact ⟨((Fr.rf.up (by decide)).up (by decide)).up (by decide), k2.up x2⟩
  · rw [if_neg (fun h => c (e0.mp h)), if_neg c]
    exact ⟨((Fr.rf.up (by decide)).up (by decide)).up (by decide), k2.up (by rw [x2, nI_add])⟩
def kLay (κ : Nat → Nat) (what : Nat) (x y z : Int32) : Nat → Nat := qlay (qkeep κ) what (cN x) (cN y) (cN z)
def aLay (κ : Nat → Nat) (what : Nat) (x y z : Int32) : (Nat × Int32) × (Nat → Nat) := if gL x (κ 1) then (if gR y 0 60 ∧ gR z 1 99 then ((0, nI (qdeg (kLay κ what x y z) (cN x) (κ 54))), kLay κ what x y z) else ((2, 0), κ)) else ((1, 0), κ)
theorem lays_r {what : Nat} {x y z : Int32} (w : MW R S nx) (hK : Kn I κ) (hs : sok hb pb κ) (hhb : hb < 2 ^ 28) (hwh : what = 7 ∨ what = 22) : Cal l G (k + 4) 0 0 mX12_lays [.ref 43, .int (nI what), .int x, .int y, .int z] (I, J, R, S, nx) (fun r μ' => r = .inl (some (.int ((aLay κ what x y z).1.2))) ∧ ∃ I', μ' = (I', J, R, S, nx) ∧ PU (aLay κ what x y z).1.1 (aLay κ what x y z).2 I I') := by
  have ho := hs.q
  have h54 : κ 54 ≤ hb := ho.2.2.2.2.2.2.2.2.2.2.1
  have h1w := ho.1
  by_cases g1 : gL x (κ 1)
  · have c1 := cWt hK ho g1
    by_cases g2 : gR y 0 60
    · have c2 : ¬ v_X12_within (Int32.toInt64 y) (0 : Int64) (60 : Int64) = 0 := cRt g2 (by decide) (by decide)
      by_cases g3 : gR z 1 99
      · have c3 : ¬ v_X12_within (Int32.toInt64 z) (1 : Int64) (99 : Int64) = 0 := cRt g3 (by decide) (by decide)
        rw [show aLay κ what x y z = ((0, nI (qdeg (kLay κ what x y z) (cN x) (κ 54))), kLay κ what x y z) by unfold aLay; rw [if_pos g1, if_pos ⟨g2, g3⟩]]
        unfold kLay
        obtain ⟨a, rfl, ha, ea⟩ := g1.n (by omega)
        obtain ⟨b, rfl, _, hb2, eb⟩ := g2.n (by omega)
        obtain ⟨c, rfl, _, hc2, ec⟩ := g3.n (by omega)
        rw [ea, eb, ec]
        have hL := hs.keep.lay (what := what) (w := a) (dg := b) (hrs := c) hwh (by omega) hb2 hc2
        have h5 : qlay (qkeep κ) what a b c 54 = κ 54 := by unfold qlay; rw [qset_ne (by omega), qset_ne (by omega), qset_ne (by omega)]; exact qkeep_low (by decide) (by decide)
        have e1 : nI what + nI a = nI (what + a) := nI_add _ _
        have e2 : nI what + (5 : Int32) + nI a = nI (what + 5 + a) := by rw [show (5 : Int32) = nI 5 from rfl, nI_add, nI_add]
        have e3 : nI what + (10 : Int32) + nI a = nI (what + 10 + a) := by rw [show (10 : Int32) = nI 10 from rfl, nI_add, nI_add]
        refine Cal.of rfl (by decide +kernel) (by simp) (Nat.le_of_ble_eq_true rfl) rfl (sX12_lays_0 (u2 := nI (qdeg (qlay (qkeep κ) what a b c) a (κ 54))) (P1 := fun I I' => Fr [44] I I' ∧ Kn I' (qkeep κ)) (P2 := fun I I' => Fr [49, 50] I I') w ?_ ?_ ?_ ?_ ?_ ?_ ?_ ?_ ?_ ?_) <;> intros <;> (first | exact absurd (by with_reducible assumption) c1 | exact absurd c1 (by with_reducible assumption) | exact absurd (by with_reducible assumption) c2 | exact absurd c2 (by with_reducible assumption) | exact absurd (by with_reducible assumption) c3 | exact absurd c3 (by with_reducible assumption) | skip)
        · exact keeps_r w hK.up4 hs.2.1
        · rw [e1]; exact vp_in_nI (by omega) (by decide)
        · rw [e2]; exact vp_in_nI (by omega) (by decide)
        · rw [e3]; exact vp_in_nI (by omega) (by decide)
        · rw [e3]; exact vp_in_nI (by omega) (by decide)
        · rename_i I1 h
          have hx := (laysOn_n (what := what) (wn := a) (dg := b) (hrs := c) h.2 (by omega) (by omega)).2
          rw [hx 54 (by decide), h5]
          exact r_degreeIn w hx hL.q (by omega) (by omega) (by omega)
        · rename_i I1 h I2 h2
          have hx := laysOn_n (what := what) (wn := a) (dg := b) (hrs := c) h.2 (by omega) (by omega)
          exact ⟨rfl, _, rfl, PU.ok rfl ((h.1.trans hx.1 (r3 := [44]) (by simp)).trans h2 (r3 := [44, 49, 50]) (by simp)) (by decide) (by decide) (hx.2.fr h2 (by decide))⟩
      · have c3 : v_X12_within (Int32.toInt64 z) (1 : Int64) (99 : Int64) = 0 := cRf g3 (by decide) (by decide)
        rw [show aLay κ what x y z = ((2, 0), κ) by unfold aLay; rw [if_pos g1, if_neg (fun h => g3 h.2)]]
        refine Cal.of rfl (by decide +kernel) (by simp) (Nat.le_of_ble_eq_true rfl) rfl (sX12_lays_0 (u2 := 0) (P1 := fun I I' => True) (P2 := fun I I' => True) w ?_ ?_ ?_ ?_ ?_ ?_ ?_ ?_ ?_ ?_) <;> intros <;> (first | exact absurd (by with_reducible assumption) c1 | exact absurd c1 (by with_reducible assumption) | exact absurd (by with_reducible assumption) c2 | exact absurd c2 (by with_reducible assumption) | exact absurd (by with_reducible assumption) c3 | exact absurd c3 (by with_reducible assumption) | skip)
        exact ⟨rfl, _, rfl, PU.fail hK rfl⟩
    · have c2 : v_X12_within (Int32.toInt64 y) (0 : Int64) (60 : Int64) = 0 := cRf g2 (by decide) (by decide)
      rw [show aLay κ what x y z = ((2, 0), κ) by unfold aLay; rw [if_pos g1, if_neg (fun h => g2 h.1)]]
      refine Cal.of rfl (by decide +kernel) (by simp) (Nat.le_of_ble_eq_true rfl) rfl (sX12_lays_0 (u2 := 0) (P1 := fun I I' => True) (P2 := fun I I' => True) w ?_ ?_ ?_ ?_ ?_ ?_ ?_ ?_ ?_ ?_) <;> intros <;> (first | exact absurd (by with_reducible assumption) c1 | exact absurd c1 (by with_reducible assumption) | exact absurd (by with_reducible assumption) c2 | exact absurd c2 (by with_reducible assumption) | skip)
      exact ⟨rfl, _, rfl, PU.fail hK rfl⟩
  · have c1 := cWf hK ho g1
    rw [show aLay κ what x y z = ((1, 0), κ) by unfold aLay; rw [if_neg g1]]
    refine Cal.of rfl (by decide +kernel) (by simp) (Nat.le_of_ble_eq_true rfl) rfl (sX12_lays_0 (u2 := 0) (P1 := fun I I' => True) (P2 := fun I I' => True) w ?_ ?_ ?_ ?_ ?_ ?_ ?_ ?_ ?_ ?_) <;> intros <;> (first | exact absurd (by with_reducible assumption) c1 | exact absurd c1 (by with_reducible assumption) | skip)
    exact ⟨rfl, _, rfl, PU.fail hK rfl⟩
theorem fire_r {x y z : Int32} (w : MW R S nx) (hK : Kn I κ) (hs : sok hb pb κ) (hhb : hb < 2 ^ 28) : Cal l G (k + 5) 0 0 mX12_fire [.ref 43, .int x, .int y, .int z] (I, J, R, S, nx) (fun r μ' => r = .inl (some (.int ((aLay κ 7 x y z).1.2))) ∧ ∃ I', μ' = (I', J, R, S, nx) ∧ PU (aLay κ 7 x y z).1.1 (aLay κ 7 x y z).2 I I') :=
  Cal.of rfl (by decide +kernel) (by simp) (Nat.le_of_ble_eq_true rfl) rfl (sX12_fire_0 w (lays_r w hK hs hhb (Or.inl rfl)) (fun I1 h => ⟨rfl, _, rfl, h⟩))
theorem ice_r {x y z : Int32} (w : MW R S nx) (hK : Kn I κ) (hs : sok hb pb κ) (hhb : hb < 2 ^ 28) : Cal l G (k + 5) 0 0 mX12_ice [.ref 43, .int x, .int y, .int z] (I, J, R, S, nx) (fun r μ' => r = .inl (some (.int ((aLay κ 22 x y z).1.2))) ∧ ∃ I', μ' = (I', J, R, S, nx) ∧ PU (aLay κ 22 x y z).1.1 (aLay κ 22 x y z).2 I I') :=
  Cal.of rfl (by decide +kernel) (by simp) (Nat.le_of_ble_eq_true rfl) rfl (sX12_ice_0 w (lays_r w hK hs hhb (Or.inr rfl)) (fun I1 h => ⟨rfl, _, rfl, h⟩))
/-! amend -/
def qcin (κ : Nat → Nat) (wn h : Nat) : Nat := qcode κ wn (qdeg κ wn h) h (qall κ)
def qwith (κ : Nat → Nat) (a : Nat) : Nat := qsum (fun wn => if (qcin κ wn (κ 54)).testBit a then 1 else 0) (κ 1)
def kAmend (κ : Nat → Nat) (x y z : Int32) : Nat → Nat := qamend (qkeep κ) (cN x) (cN y) (cN z)
def aAmend (κ : Nat → Nat) (x y z : Int32) : (Nat × Int32) × (Nat → Nat) := if gL x (κ 2) then (if gR y 0 99 ∧ gR z (cN y) 99 then ((0, nI (qwith (kAmend κ x y z) (cN x))), kAmend κ x y z) else ((2, 0), κ)) else ((1, 0), κ)
theorem amend_loop {a : Nat} (w : MW R S nx) (hK : Kn I κ) (hs : sok hb pb κ) (hhb : hb < 2 ^ 28) (ha : a < 8) {I0 : Nat → Nat → Int32} (hF0 : Fr [44, 49, 50] I0 I) : hX12_amend_86 l G k (fun r μ' => r = .inl (some (.int (nI (qwith κ a)))) ∧ ∃ I', μ' = (I', J, R, S, nx) ∧ Fr [44, 49, 50] I0 I' ∧ Kn I' κ) (nI a) (0 : Int32) (0 : Int32) (I, J, R, S, nx) := by
  have ho := hs.q
  have h54 : κ 54 ≤ hb := ho.2.2.2.2.2.2.2.2.2.2.1
  have h1w := ho.1
  refine upto (W := fun i (s : Int32 × (Nat → Nat → Int32)) => hX12_amend_86 l G k _ (nI a) s.1 (nI i) (s.2, J, R, S, nx)) (P := fun i s => s.1 = nI (qsum (fun wn => if (qcin κ wn (κ 54)).testBit a then 1 else 0) i) ∧ Fr [44, 49, 50] I0 s.2 ∧ Kn s.2 κ) (κ 1) ?_ ?_ (i := 0) (s := ((0 : Int32), I)) (Nat.zero_le _) ⟨rfl, hF0, hK⟩
  · intro ⟨x, I1⟩ ⟨hx, hF, hK1⟩
    have c1 : v_X12_wards I1 ≤ nI (κ 1) := by rw [show v_X12_wards I1 = nI (κ 1) from hK1 1 (by decide)]; exact nI_le (by omega) (by omega)
    refine sX12_amend_86 (u1 := 0) (P1 := fun _ _ => True) w ?_ ?_ ?_ ?_ <;> intros <;> (first | exact absurd (by with_reducible assumption) c1 | exact absurd c1 (by with_reducible assumption) | skip)
    exact ⟨by rw [show x = _ from hx]; rfl, _, rfl, hF, hK1⟩
  · intro i ⟨x, I1⟩ hi ⟨hx, hF, hK1⟩ ih
    have c1 : ¬ v_X12_wards I1 ≤ nI i := by rw [show v_X12_wards I1 = nI (κ 1) from hK1 1 (by decide)]; exact nI_ge (by omega) (by omega)
    have hb8 : qcin κ i (κ 54) < 256 := qcode_lt _ _ _ _ _ ho.2.1
    have e := has_n (s := qcin κ i (κ 54)) (i := a) (by omega) (by omega)
    refine sX12_amend_86 (u1 := nI (qcin κ i (κ 54))) (P1 := fun I I' => Fr [49, 50] I I') w ?_ ?_ ?_ ?_ <;> intros <;> (first | exact absurd (by with_reducible assumption) c1 | exact absurd c1 (by with_reducible assumption) | skip)
    · rw [hK1.h (by decide)]; exact codeIn_r w hK1 ho (by omega) (by omega) (by omega)
    · rename_i I2 h2 h0
      rw [e, ifI] at h0
      rw [nI_1]
      exact ih (_, I2) ⟨by show x + _ = _; rw [show x = _ from hx, show (0 : Int32) = nI 0 from rfl, nI_add, qsum_s, if_neg h0], hF.trans h2 (by simp), hK1.fr h2 (by decide)⟩
    · rename_i I2 h2 h0
      rw [e, ifI, Decidable.not_not] at h0
      rw [nI_1]
      exact ih (_, I2) ⟨by show x + _ = _; rw [show x = _ from hx, show (1 : Int32) = nI 1 from rfl, nI_add, qsum_s, if_pos h0], hF.trans h2 (by simp), hK1.fr h2 (by decide)⟩
theorem amend_r {x y z : Int32} (w : MW R S nx) (hK : Kn I κ) (hs : sok hb pb κ) (hhb : hb < 2 ^ 28) : Cal l G (k + 6) 0 0 mX12_amend [.ref 43, .int x, .int y, .int z] (I, J, R, S, nx) (fun r μ' => r = .inl (some (.int ((aAmend κ x y z).1.2))) ∧ ∃ I', μ' = (I', J, R, S, nx) ∧ PU (aAmend κ x y z).1.1 (aAmend κ x y z).2 I I') := by
  have ho := hs.q
  have h2w := ho.2.1
  by_cases g1 : gL x (κ 2)
  · have c1 := cAt hK ho g1
    by_cases g2 : gR y 0 99
    · have c2 : ¬ v_X12_within (Int32.toInt64 y) (0 : Int64) (99 : Int64) = 0 := cRt g2 (by decide) (by decide)
      have g2' := g2
      obtain ⟨b, rfl, _, hb2, eb⟩ := g2.n (by omega)
      by_cases g3 : gR z b 99
      · have c3 : ¬ v_X12_within (Int32.toInt64 z) (Int32.toInt64 (nI b)) (99 : Int64) = 0 := by rw [nI_l (by omega)]; exact cRt g3 (by omega) (by decide)
        rw [show aAmend κ x (nI b) z = ((0, nI (qwith (kAmend κ x (nI b) z) (cN x))), kAmend κ x (nI b) z) by unfold aAmend; rw [if_pos g1, if_pos ⟨g2', by rw [eb]; exact g3⟩]]
        unfold kAmend
        obtain ⟨a, rfl, ha, ea⟩ := g1.n (by omega)
        obtain ⟨c, rfl, _, hc2, ec⟩ := g3.n (by omega)
        rw [ea, eb, ec]
        have hL := hs.keep.amend (a := a) (fr := b) (to := c) (by omega) hb2 hc2
        have e1 : (37 : Int32) + nI a = nI (37 + a) := nI_add 37 _
        have e2 : (45 : Int32) + nI a = nI (45 + a) := nI_add 45 _
        refine Cal.of rfl (by decide +kernel) (by simp) (Nat.le_of_ble_eq_true rfl) rfl (sX12_amend_0 (P1 := fun I I' => Fr [44] I I' ∧ Kn I' (qkeep κ)) w ?_ ?_ ?_ ?_ ?_ ?_ ?_) <;> intros <;> (first | exact absurd (by with_reducible assumption) c1 | exact absurd c1 (by with_reducible assumption) | exact absurd (by with_reducible assumption) c2 | exact absurd c2 (by with_reducible assumption) | exact absurd (by with_reducible assumption) c3 | exact absurd c3 (by with_reducible assumption) | skip)
        · exact keeps_r w hK.up4 hs.2.1
        · rw [e1]; exact vp_in_nI (by omega) (by decide)
        · rw [e2]; exact vp_in_nI (by omega) (by decide)
        · rename_i I1 h
          rw [e1, e2, nI_clamp (by omega), nI_clamp (by omega)]
          have hx := (h.2.up (i := 37 + a) (x := b) rfl).up (i := 45 + a) (x := c) rfl
          refine WP.mono (amend_loop (I0 := up2 I 43 4 0) w hx hL hhb (by omega) (((h.1.up (by decide)).up (by decide)).trans Fr.rf (r2 := []) (by simp))) (fun r μ' ⟨e, I', e2, h1, h2⟩ => ⟨e, I', e2, PU.ok rfl h1 (by decide) (by decide) h2⟩)
      · have c3 : v_X12_within (Int32.toInt64 z) (Int32.toInt64 (nI b)) (99 : Int64) = 0 := by rw [nI_l (by omega)]; exact cRf g3 (by omega) (by decide)
        rw [show aAmend κ x (nI b) z = ((2, 0), κ) by unfold aAmend; rw [if_pos g1, if_neg (fun h => g3 (by rw [eb] at h; exact h.2))]]
        refine Cal.of rfl (by decide +kernel) (by simp) (Nat.le_of_ble_eq_true rfl) rfl (sX12_amend_0 (P1 := fun I I' => True) w ?_ ?_ ?_ ?_ ?_ ?_ ?_) <;> intros <;> (first | exact absurd (by with_reducible assumption) c1 | exact absurd c1 (by with_reducible assumption) | exact absurd (by with_reducible assumption) c2 | exact absurd c2 (by with_reducible assumption) | exact absurd (by with_reducible assumption) c3 | exact absurd c3 (by with_reducible assumption) | skip)
        exact ⟨rfl, _, rfl, PU.fail hK rfl⟩
    · have c2 : v_X12_within (Int32.toInt64 y) (0 : Int64) (99 : Int64) = 0 := cRf g2 (by decide) (by decide)
      rw [show aAmend κ x y z = ((2, 0), κ) by unfold aAmend; rw [if_pos g1, if_neg (fun h => g2 h.1)]]
      refine Cal.of rfl (by decide +kernel) (by simp) (Nat.le_of_ble_eq_true rfl) rfl (sX12_amend_0 (P1 := fun I I' => True) w ?_ ?_ ?_ ?_ ?_ ?_ ?_) <;> intros <;> (first | exact absurd (by with_reducible assumption) c1 | exact absurd c1 (by with_reducible assumption) | exact absurd (by with_reducible assumption) c2 | exact absurd c2 (by with_reducible assumption) | skip)
      exact ⟨rfl, _, rfl, PU.fail hK rfl⟩
  · have c1 := cAf hK ho g1
    rw [show aAmend κ x y z = ((1, 0), κ) by unfold aAmend; rw [if_neg g1]]
    refine Cal.of rfl (by decide +kernel) (by simp) (Nat.le_of_ble_eq_true rfl) rfl (sX12_amend_0 (P1 := fun I I' => True) w ?_ ?_ ?_ ?_ ?_ ?_ ?_) <;> intros <;> (first | exact absurd (by with_reducible assumption) c1 | exact absurd c1 (by with_reducible assumption) | skip)
    exact ⟨rfl, _, rfl, PU.fail hK rfl⟩
end A
