/-! the class: which acts are in force -/
theorem qsum_ext {f : Nat → Nat} {n : Nat} : ∀ d, (∀ i, n ≤ i → i < n + d → f i = 0) → qsum f (n + d) = qsum f n
  | 0, _ => rfl
  | d + 1, h => by
    show qsum f (n + d) + f (n + d) = qsum f n
    rw [qsum_ext d (fun i h1 h2 => h i h1 (by omega)), h (n + d) (by omega) (by omega), Nat.add_zero]
theorem pop_and {p q : Nat → Bool} {n : Nat} (h : n ≤ 8) : qpop (bset p n &&& bset q n) = qsum (fun a => if q a = true ∧ p a = true then 1 else 0) n := by
  unfold qpop
  rw [show 8 = n + (8 - n) by omega, qsum_ext (8 - n) (fun i h1 h2 => ?_)]
  · apply qsum_congr
    intro i hi
    rw [Nat.testBit_and, bset_bit, bset_bit]
    simp only [hi, decide_true, Bool.true_and, Bool.and_eq_true]
    by_cases c : p i = true ∧ q i = true
    · rw [if_pos c, if_pos ⟨c.2, c.1⟩]
    · rw [if_neg c, if_neg (fun g => c ⟨g.2, g.1⟩)]
  · rw [Nat.testBit_and, bset_bit, bset_bit]
    simp only [show ¬ i < n by omega, decide_false, Bool.false_and, Bool.and_false, Bool.false_eq_true, if_false]
theorem cnt_c : ∀ s, s < 256 → v_J6_bitCount_0f7a4 (nI s) = nI (qpop s) := by decide +kernel
section A
variable {l : Launch} {G : Gh} {k : Nat} {I : Nat → Nat → Int32} {J : Nat → Nat → Int64} {R : Nat → Nat → Option Nat} {S : Nat → Nat × Nat} {nx : Nat} {κ : Nat → Nat} {hb pb : Nat}
theorem prevails_c {a m wn hr : Nat} {L dl pl ld lp : Nat} (w : CF R S nx) (wL : R 14 0 = some L) (wl : LW R S nx L dl pl ld lp) (h : CK I κ L dl pl ld lp) (ho : qok hb pb κ) (hhb : hb < 2 ^ 29) (ha : a < 8) (hm : m ≤ 8) (hw : wn < 5) (hh : hr < 24) (h4 : κ 4 ≠ 0) : Cal l G (k + 1) 0 0 mX7_prevails [.ref 14, .int (nI a), .int (nI m), .int (nI wn), .int (nI hr)] (I, J, R, S, nx) (fun r μ' => r = .inl (some (.int (if qprv κ a m hr wn = true then 1 else 0))) ∧ ∃ I', μ' = (I', J, R, S, nx) ∧ Fr [27, 28, 29] I I' ∧ CK I' κ L dl pl ld lp) := by
  obtain ⟨n1, n2, n3⟩ := wl.ne
  obtain ⟨kn, k1, k2, k3⟩ := h.2.2 wn hr a hw hh ha
  have eix : (nI wn * (24 : Int32) + nI hr) * (8 : Int32) + nI a = nI ((wn * 24 + hr) * 8 + a) := by
    rw [show (24 : Int32) = nI 24 from rfl, show (8 : Int32) = nI 8 from rfl, pk_mul, nI_add, pk_mul, nI_add]
  have hixl : (wn * 24 + hr) * 8 + a < 960 := by omega
  have hbix : vp_in ((nI wn * (24 : Int32) + nI hr) * (8 : Int32) + nI a) 960 := by rw [eix]; exact vp_in_nI hixl (by decide)
  have e29 : I 29 ((nI wn * (24 : Int32) + nI hr) * (8 : Int32) + nI a).toNatClampNeg = nI kn := by rw [eix, nI_clamp (by omega)]; exact k1
  have e16 : (16 : Int32) + nI m = nI (16 + m) := nI_add 16 m
  have ebm : ((I 29 ((nI wn * (24 : Int32) + nI hr) * (8 : Int32) + nI a).toNatClampNeg >>> (nI m &&& 31)) &&& (1 : Int32) = 0) = ¬ kn.testBit m = true := by rw [e29]; exact bit_n (by omega) (by omega)
  -- the answer by what is known
  have out : ∀ (q : Nat) (I1 : Nat → Nat → Int32), q < 2 ^ 25 → q.testBit (16 + m) = qprv κ a m hr wn → Fr [27, 28, 29] I I1 → CK I1 κ L dl pl ld lp → hX7_prevails_153 l G k (fun r μ' => r = .inl (some (.int (if qprv κ a m hr wn = true then 1 else 0))) ∧ ∃ I', μ' = (I', J, R, S, nx) ∧ Fr [27, 28, 29] I I' ∧ CK I' κ L dl pl ld lp) (nI m) (nI q) (I1, J, R, S, nx) := by
    intro q I1 hq hb1 hF hK
    have eb : ((nI q >>> (((16 : Int32) + nI m) &&& 31)) &&& (1 : Int32) = 0) = ¬ q.testBit (16 + m) = true := by rw [e16]; exact bit_n (by omega) (by omega)
    rw [← hb1]
    refine sX7_prevails_153 ?_ ?_
    · intro g; rw [eb] at g; exact ⟨by rw [if_neg g], _, rfl, hF, hK⟩
    · intro g; rw [eb, Decidable.not_not] at g; exact ⟨by rw [if_pos g], _, rfl, hF, hK⟩
  by_cases c : kn.testBit m = true
  · have d1 : ¬ (I 29 ((nI wn * (24 : Int32) + nI hr) * (8 : Int32) + nI a).toNatClampNeg >>> (nI m &&& 31)) &&& (1 : Int32) = 0 := by rw [ebm]; exact not_not_intro c
    refine Cal.of rfl (by decide +kernel) (by simp) (Nat.le_of_ble_eq_true rfl) rfl (sX7_prevails_0 (u1 := 0) (P1 := fun _ _ => True) w wL wl hbix ?_ ?_ ?_ ?_ ?_ ?_ ?_ ?_) <;> intros <;> (first | exact absurd (by with_reducible assumption) d1 | exact absurd d1 (by with_reducible assumption) | skip)
    rw [e29]
    exact out kn I k2 ((k3 m hm).1 c) Fr.rf h
  · have d1 : (I 29 ((nI wn * (24 : Int32) + nI hr) * (8 : Int32) + nI a).toNatClampNeg >>> (nI m &&& 31)) &&& (1 : Int32) = 0 := by rw [ebm]; exact c
    have hlp : lp = κ 4 := h.2.1.2.2.2.2.2.1
    have h49 := ho.2.2.2.1
    have ht := ho.2.2.2.2.2.2.2.2.2.2.2.2.2 h4
    have hac := ho.2.2.2.2.2.2.2.2.1 a ha
    have ek : ∀ v, up2 I 27 1 v (L + 3) (nI a).toNatClampNeg = nI (κ (66 + a)) := fun v => by
      have : L + 3 ≠ 27 := by omega
      simp only [up2, if_neg this]; rw [nI_clamp (by omega)]; exact (h.2.1.2.2.1 a ha).1
    have ef : ∀ v x, up2 (up2 I 27 1 v) 27 18 x (L + 4) (nI a).toNatClampNeg = nI (κ (74 + a)) := fun v x => by
      have : L + 4 ≠ 27 := by omega
      simp only [up2, if_neg this]; rw [nI_clamp (by omega)]; exact (h.2.1.2.2.1 a ha).2
    have e41 : I 25 ((41 : Int32) + nI a).toNatClampNeg = nI (κ (45 + a)) := by
      rw [show (41 : Int32) + nI a = nI (3 + (38 + a)) from (nI_add 41 a).trans (by congr 1; omega), nI_clamp (by omega), h.1.j (by omega), show 7 + (38 + a) = 45 + a by omega]
    have e33 : I 25 ((33 : Int32) + nI a).toNatClampNeg = nI (κ (37 + a)) := by
      rw [show (33 : Int32) + nI a = nI (3 + (30 + a)) from (nI_add 33 a).trans (by congr 1; omega), nI_clamp (by omega), h.1.j (by omega), show 7 + (30 + a) = 37 + a by omega]
    have hF : ∀ x1 x2 x3 x4 x5 x6 x7 : Int32, Fr [27] I (up2 (up2 (up2 (up2 (up2 (up2 (up2 I 27 1 x1) 27 18 x2) 27 10 x3) 27 19 x4) 27 20 x5) 27 6 x6) 27 0 x7) := fun _ _ _ _ _ _ _ => ((((((Fr.rf.up (by decide)).up (by decide)).up (by decide)).up (by decide)).up (by decide)).up (by decide)).up (by decide)
    obtain ⟨v, hv⟩ : ∃ v, qval (qaskP κ a m hr wn) (qsteps κ 4 1472) = v := ⟨_, rfl⟩
    have hqp : qprv κ a m hr wn = decide (v = 1) := by unfold qprv; rw [hv, show decide (κ 4 = 0) = false from decide_eq_false_iff_not.mpr h4]; rfl
    refine Cal.of rfl (by decide +kernel) (by simp) (Nat.le_of_ble_eq_true rfl) rfl (sX7_prevails_0 (u1 := zI v) (P1 := fun I1 I2 => Fr [28] I1 I2 ∧ tyV true v) w wL wl hbix ?_ ?_ ?_ ?_ ?_ ?_ ?_ ?_) <;> intros <;> (first | exact absurd (by with_reducible assumption) d1 | exact absurd d1 (by with_reducible assumption) | skip)
    · exact vp_in_nI ha (by decide)
    · exact vp_in_nI ha (by decide)
    · rw [show (41 : Int32) + nI a = nI (41 + a) from nI_add 41 a]; exact vp_in_nI (by omega) (by decide)
    · rw [show (33 : Int32) + nI a = nI (33 + a) from nI_add 33 a]; exact vp_in_nI (by omega) (by decide)
    · rw [ek, ef, e41, e33, ← hv, nI_z (κ (45 + a)), nI_z (κ (37 + a)), zI_sub]
      refine valueOf_c (m := true) (mm := 7) w (lw_spl wl) (lw_npl wl) (by omega) (by rw [hlp]; unfold qsteps; simp) (by omega) (fun i s hs => ?_) ht (by decide) (fun j hj => ?_)
      · obtain ⟨q1, q2⟩ := qsteps_at hs
        rw [hF _ _ _ _ _ _ _ pl (by simp; omega), q2]; exact h.2.1.2.2.2.2.2.2 i q1
      · have hj6 : j = 0 ∨ j = 1 ∨ j = 2 ∨ j = 3 ∨ j = 4 ∨ j = 5 ∨ j = 6 := by omega
        rcases hj6 with rfl | rfl | rfl | rfl | rfl | rfl | rfl
        · exact ⟨rfl, by show -1000000 ≤ ((a : Nat) : Int) ∧ ((a : Nat) : Int) ≤ 1000000; omega⟩
        · exact ⟨rfl, by show -1000000 ≤ ((κ (66 + a) : Nat) : Int) ∧ ((κ (66 + a) : Nat) : Int) ≤ 1000000; omega⟩
        · exact ⟨rfl, by show -1000000 ≤ ((κ (74 + a) : Nat) : Int) ∧ ((κ (74 + a) : Nat) : Int) ≤ 1000000; omega⟩
        · exact ⟨rfl, by show -1000000 ≤ ((κ (45 + a) : Nat) : Int) - ((κ (37 + a) : Nat) : Int) ∧ ((κ (45 + a) : Nat) : Int) - ((κ (37 + a) : Nat) : Int) ≤ 1000000; omega⟩
        · exact ⟨rfl, by show -1000000 ≤ ((m : Nat) : Int) ∧ ((m : Nat) : Int) ≤ 1000000; omega⟩
        · refine ⟨?_, by show -1000000 ≤ ((hr % 24 : Nat) : Int) ∧ ((hr % 24 : Nat) : Int) ≤ 1000000; omega⟩
          show nI hr = zI ((hr % 24 : Nat) : Int)
          rw [Nat.mod_eq_of_lt hh]; rfl
        · exact ⟨rfl, by show -1000000 ≤ ((wn : Nat) : Int) ∧ ((wn : Nat) : Int) ≤ 1000000; omega⟩
    · exact hbix
    · rename_i I1 h1
      have hv01 : v = 0 ∨ v = 1 := h1.2
      obtain ⟨bv, hbv, hbl⟩ : ∃ bv : Nat, zI v <<< (((16 : Int32) + nI m) &&& 31) = nI bv ∧ bv = if v = 1 then 2 ^ (16 + m) else 0 := by
        rcases hv01 with rfl | rfl
        · refine ⟨0, ?_, by rw [if_neg (by decide)]⟩
          rw [e16]
          have : ∀ i, i < 31 → (zI 0) <<< (nI i &&& 31) = nI 0 := by decide +kernel
          exact this (16 + m) (by omega)
        · refine ⟨2 ^ (16 + m), ?_, by rw [if_pos rfl]⟩
          rw [e16, show zI 1 = (1 : Int32) from rfl]; exact shl_n (by omega)
      rw [e29, shl_n (by omega), hbv, fa_or, fa_or, eix, nI_clamp (by omega)]
      have hall : Fr [27, 28] I I1 := (hF _ _ _ _ _ _ _).tr h1.1 (by decide)
      have hK1 : CK I1 κ L dl pl ld lp := h.fr wl hall (by decide) (by decide) (by decide)
      have p16 : 2 ^ (16 + m) < 2 ^ 25 := Nat.pow_lt_pow_right (by decide) (by omega)
      have pm : 2 ^ m < 2 ^ 25 := Nat.pow_lt_pow_right (by decide) (by omega)
      have hbv2 : bv < 2 ^ 25 := by rw [hbl]; split <;> omega
      have hq : kn ||| (2 ^ m ||| bv) < 2 ^ 25 := Nat.or_lt_two_pow k2 (Nat.or_lt_two_pow pm hbv2)
      have bb : ∀ i, bv.testBit i = (decide (v = 1) && decide (16 + m = i)) := fun i => by
        rw [hbl]
        by_cases cv : v = 1
        · rw [if_pos cv, Nat.testBit_two_pow]; simp [cv]
        · rw [if_neg cv, Nat.zero_testBit]; simp [cv]
      have kb : ∀ i, (kn ||| (2 ^ m ||| bv)).testBit i = (kn.testBit i || (decide (m = i) || (decide (v = 1) && decide (16 + m = i)))) := fun i => by rw [Nat.testBit_or, Nat.testBit_or, Nat.testBit_two_pow, bb]
      have n16 : kn.testBit (16 + m) = false := by
        cases hc : kn.testBit (16 + m) with
        | false => rfl
        | true => exact absurd ((k3 m hm).2 hc) c
      refine out _ _ hq ?_ (hall.tr (r3 := [27, 28, 29]) (Fr.rf (rows := [29])) (by decide) |>.up (by decide)) ⟨?_, ?_, ?_⟩
      · rw [kb, n16, hqp]; simp
      · exact fun i hi => by simp [up2]; exact hK1.1 i hi
      · exact hK1.2.1.fr wl (Fr.rf.up (rows := [29]) (by decide)) (by decide)
      · intro w' h' a' g1 g2 g3
        by_cases ce : w' = wn ∧ h' = hr ∧ a' = a
        · obtain ⟨rfl, rfl, rfl⟩ := ce
          refine ⟨kn ||| (2 ^ m ||| bv), by simp [up2], hq, fun m' hm' => ⟨fun hb' => ?_, fun hb' => ?_⟩⟩
          · rw [kb] at hb'
            rw [kb]
            by_cases cm : m' = m
            · subst cm
              rw [n16, hqp]; simp
            · have e1 : decide (m = m') = false := decide_eq_false_iff_not.mpr (Ne.symm cm)
              have e2 : decide (16 + m = m') = false := decide_eq_false_iff_not.mpr (by omega)
              have e3 : decide (m = 16 + m') = false := decide_eq_false_iff_not.mpr (by omega)
              have e4 : decide (16 + m = 16 + m') = false := decide_eq_false_iff_not.mpr (by omega)
              rw [e1, e2] at hb'
              rw [e3, e4]
              simp at hb' ⊢
              exact (k3 m' hm').1 hb'
          · rw [kb] at hb'
            rw [kb]
            by_cases cm : m' = m
            · subst cm; simp
            · have e3 : decide (m = 16 + m') = false := decide_eq_false_iff_not.mpr (by omega)
              have e4 : decide (16 + m = 16 + m') = false := decide_eq_false_iff_not.mpr (by omega)
              rw [e3, e4] at hb'
              simp at hb'
              rw [(k3 m' hm').2 hb']; simp
        · obtain ⟨q, q1, q2, q3⟩ := hK1.2.2 w' h' a' g1 g2 g3
          refine ⟨q, ?_, q2, q3⟩
          have hne : (w' * 24 + h') * 8 + a' ≠ (wn * 24 + hr) * 8 + a := fun g => ce (by omega)
          simp only [up2, if_true, if_neg hne]; exact q1
theorem inForce_c {wn hh dg s : Nat} {L dl pl ld lp : Nat} (w : CF R S nx) (wL : R 14 0 = some L) (wl : LW R S nx L dl pl ld lp) (h : CK I κ L dl pl ld lp) (ho : qok hb pb κ) (hhb : hb < 2 ^ 29) (hw : wn < 5) (hh2 : hh < 2 ^ 30) (hd : dg ≤ 99) (hs : s < 2 ^ 31) : Cal l G (k + 2) 0 0 mX7_inForce [.ref 14, .int (nI wn), .int (nI hh), .int (nI dg), .int (nI s)] (I, J, R, S, nx) (fun r μ' => r = .inl (some (.int (nI (qcode κ wn dg hh s)))) ∧ ∃ I', μ' = (I', J, R, S, nx) ∧ Fr [27, 28, 29] I I' ∧ CK I' κ L dl pl ld lp) := by
  have h2 := ho.2.1
  have e2 : ∀ I1, CL I1 κ L dl pl ld lp → I1 L 2 = nI (κ 2) := fun I1 g => g.1.2.2.1
  have hlp : lp = κ 4 := h.2.1.2.2.2.2.2.1
  have h49 := ho.2.2.2.1
  refine Cal.of rfl (by decide +kernel) (by simp) (Nat.le_of_ble_eq_true rfl) rfl (sX7_inForce_0 ?_)
  obtain ⟨sp, hsp⟩ : ∃ sp, bset (fun a => qspk κ a dg s) = sp := ⟨_, rfl⟩
  have sps : ∀ i, sp (i + 1) = sp i ||| (if qspk κ i dg s then 2 ^ i else 0) := fun i => by rw [← hsp]; rfl
  have sp0 : sp 0 = 0 := by rw [← hsp]; rfl
  suffices hgo : hX7_inForce_6 l G k (fun r μ' => r = .inl (some (.int (nI (qcode κ wn dg hh s)))) ∧ ∃ I', μ' = (I', J, R, S, nx) ∧ Fr [27, 28, 29] I I' ∧ CK I' κ L dl pl ld lp) (nI wn) (nI hh) (nI dg) (nI s) (nI (sp 0)) (nI 0) (I, J, R, S, nx) by rw [sp0] at hgo; exact hgo
  refine upto (σ := Unit) (W := fun i _ => hX7_inForce_6 l G k _ (nI wn) (nI hh) (nI dg) (nI s) (nI (sp i)) (nI i) (I, J, R, S, nx)) (P := fun i _ => True) (κ 2) ?_ ?_ (i := 0) (s := ()) (Nat.zero_le _) trivial
  · intro _ _
    have c1 : I L 2 ≤ nI (κ 2) := by rw [e2 I h.2.1]; exact nI_le (Nat.le_refl _) (by omega)
    have hspl : sp (κ 2) < 256 := by rw [← hsp]; exact Nat.lt_of_lt_of_le (bset_lt _ _) (Nat.pow_le_pow_right (by decide) h2)
    by_cases c4 : κ 4 = 0
    · have d1 : Int32.ofNat lp = 0 := by rw [hlp, c4]; rfl
      refine sX7_inForce_6 w wL wl ?_ ?_ ?_ ?_ ?_ ?_ ?_ ?_ <;> intros <;> (first | exact absurd (by with_reducible assumption) c1 | exact absurd c1 (by with_reducible assumption) | exact absurd (by with_reducible assumption) d1 | exact absurd d1 (by with_reducible assumption) | skip)
      refine ⟨?_, _, rfl, Fr.rf, h⟩
      rw [show qcode κ wn dg hh s = sp (κ 2) by
        rw [← hsp]; unfold qcode
        apply bset_congr
        intro i _
        rw [show qprv κ i (qmany κ (κ (66 + i)) dg s) hh wn = true by unfold qprv; rw [show decide (κ 4 = 0) = true from decide_eq_true_eq.mpr c4]; rfl, Bool.and_true]]
    · have d1 : ¬ Int32.ofNat lp = 0 := by rw [hlp]; exact nI_ne0 (by omega) (by omega)
      refine sX7_inForce_6 w wL wl ?_ ?_ ?_ ?_ ?_ ?_ ?_ ?_ <;> intros <;> (first | exact absurd (by with_reducible assumption) c1 | exact absurd c1 (by with_reducible assumption) | exact absurd (by with_reducible assumption) d1 | exact absurd d1 (by with_reducible assumption) | skip)
      obtain ⟨cd, hcd⟩ : ∃ cd, bset (fun a => qspk κ a dg s && qprv κ a (qmany κ (κ (66 + a)) dg s) hh wn) = cd := ⟨_, rfl⟩
      have cds : ∀ i, cd (i + 1) = cd i ||| (if (qspk κ i dg s && qprv κ i (qmany κ (κ (66 + i)) dg s) hh wn) = true then 2 ^ i else 0) := fun i => by rw [← hcd]; rfl
      have cd0 : cd 0 = 0 := by rw [← hcd]; rfl
      rw [show qcode κ wn dg hh s = cd (κ 2) by rw [← hcd]; rfl]
      suffices hgo : hX7_inForce_91 l G k (fun r μ' => r = .inl (some (.int (nI (cd (κ 2))))) ∧ ∃ I', μ' = (I', J, R, S, nx) ∧ Fr [27, 28, 29] I I' ∧ CK I' κ L dl pl ld lp) (nI wn) (nI hh) (nI (sp (κ 2))) (nI (cd 0)) (nI 0) (I, J, R, S, nx) by rw [cd0] at hgo; exact hgo
      refine upto (W := fun i I1 => hX7_inForce_91 l G k _ (nI wn) (nI hh) (nI (sp (κ 2))) (nI (cd i)) (nI i) (I1, J, R, S, nx)) (P := fun i I1 => Fr [27, 28, 29] I I1 ∧ CK I1 κ L dl pl ld lp) (κ 2) ?_ ?_ (i := 0) (Nat.zero_le _) ⟨Fr.rf, h⟩
      · intro I1 ⟨hF1, hK1⟩
        have c2 : I1 L 2 ≤ nI (κ 2) := by rw [e2 I1 hK1.2.1]; exact nI_le (Nat.le_refl _) (by omega)
        refine sX7_inForce_91 (u1 := 0) (P1 := fun _ _ => True) w wL wl ?_ ?_ ?_ ?_ ?_ ?_ ?_ <;> intros <;> (first | exact absurd (by with_reducible assumption) c2 | exact absurd c2 (by with_reducible assumption) | skip)
        exact ⟨rfl, _, rfl, hF1, hK1⟩
      · intro i I1 hi ⟨hF1, hK1⟩ ih
        have c2 : ¬ I1 L 2 ≤ nI i := by rw [e2 I1 hK1.2.1]; exact nI_ge hi (by omega)
        have eb := bit_n (s := sp (κ 2)) (i := i) (by omega) (by omega)
        have espb : (sp (κ 2)).testBit i = qspk κ i dg s := by rw [← hsp, bset_bit]; simp [hi]
        rw [espb] at eb
        have hki := ho.2.2.2.2.2.2.2.2.1 i (by omega)
        have ekd : I1 (L + 3) (nI i).toNatClampNeg = nI (κ (66 + i)) := by rw [nI_clamp (by omega)]; exact (hK1.2.1.2.2.1 i (by omega)).1
        have ekk : I1 (L + 7) (I1 (L + 3) (nI i).toNatClampNeg).toNatClampNeg = nI (qkind κ (κ (66 + i))) := by rw [ekd, nI_clamp (by omega)]; exact hK1.2.1.2.2.2.1 _ (by omega)
        have hand : sp (κ 2) &&& qkind κ (κ (66 + i)) < 256 := Nat.and_lt_two_pow _ (n := 8) (qkind_lt ho _)
        have ecnt : v_J6_bitCount_0f7a4 (nI (sp (κ 2)) &&& I1 (L + 7) (I1 (L + 3) (nI i).toNatClampNeg).toNatClampNeg) = nI (qmany κ (κ (66 + i)) dg s) := by
          rw [ekk, fa_and, cnt_c _ hand, ← hsp]
          unfold qkind
          rw [pop_and h2]
          congr 1
          unfold qmany
          apply qsum_congr
          intro j _
          by_cases cc : κ (66 + j) = κ (66 + i) ∧ qspk κ j dg s = true
          · rw [if_pos cc, if_pos ⟨decide_eq_true_eq.mpr cc.1, cc.2⟩]
          · rw [if_neg cc, if_neg (fun g => cc ⟨decide_eq_true_eq.mp g.1, g.2⟩)]
        have hml : qmany κ (κ (66 + i)) dg s ≤ 8 := by
          unfold qmany
          have := qsum_le (f := fun a => if κ (66 + a) = κ (66 + i) ∧ qspk κ a dg s = true then 1 else 0) (c := 1) (n := κ 2) (fun j _ => by split <;> omega)
          omega
        have erem := hod (h := hh) (by omega)
        have hmod : hh % 24 < 24 := Nat.mod_lt _ (by decide)
        have eqp : qprv κ i (qmany κ (κ (66 + i)) dg s) (hh % 24) wn = qprv κ i (qmany κ (κ (66 + i)) dg s) hh wn := by
          unfold qprv
          congr 2
          have : qaskP κ i (qmany κ (κ (66 + i)) dg s) (hh % 24) wn = qaskP κ i (qmany κ (κ (66 + i)) dg s) hh wn := by
            funext j; unfold qaskP; rw [Nat.mod_mod]
          rw [this]
        refine sX7_inForce_91 (u1 := if qprv κ i (qmany κ (κ (66 + i)) dg s) (hh % 24) wn = true then 1 else 0) (P1 := fun I I' => Fr [27, 28, 29] I I' ∧ CK I' κ L dl pl ld lp) w wL wl ?_ ?_ ?_ ?_ ?_ ?_ ?_ <;> intros <;> (first | exact absurd (by with_reducible assumption) c2 | exact absurd c2 (by with_reducible assumption) | skip)
        · rename_i g; rw [eb] at g
          have := ih I1 ⟨hF1, hK1⟩
          rw [cds i, if_neg (by rw [Bool.and_eq_true]; exact fun q => g q.1), Nat.or_zero] at this
          rw [nI_1]; exact this
        · exact vp_in_nI (by omega) (by decide)
        · rw [ekd]; exact vp_in_nI (by omega) (by decide)
        · rw [ecnt, erem]
          exact prevails_c w wL wl hK1 ho hhb (by omega) hml hw hmod c4
        · rename_i g I2 h2' hu
          rw [eb, Decidable.not_not] at g
          rw [ifI, eqp] at hu
          have := ih I2 ⟨hF1.tr h2'.1 (by decide), h2'.2⟩
          rw [cds i, if_neg (by rw [Bool.and_eq_true]; exact fun q => hu q.2), Nat.or_zero] at this
          rw [nI_1]; exact this
        · rename_i g I2 h2' hu
          rw [eb, Decidable.not_not] at g
          rw [ifI, Decidable.not_not, eqp] at hu
          have := ih I2 ⟨hF1.tr h2'.1 (by decide), h2'.2⟩
          rw [cds i, if_pos (by rw [Bool.and_eq_true]; exact ⟨g, hu⟩)] at this
          rw [nI_1, shl_n (by omega), fa_or]; exact this
  · intro i _ hi _ ih
    have c1 : ¬ I L 2 ≤ nI i := by rw [e2 I h.2.1]; exact nI_ge hi (by omega)
    have eb := bit_n (s := s) (i := i) hs (by omega)
    have hki := ho.2.2.2.2.2.2.2.2.1 i (by omega)
    have e33 : I 25 ((33 : Int32) + nI i).toNatClampNeg = nI (κ (37 + i)) := by
      rw [show (33 : Int32) + nI i = nI (3 + (30 + i)) from (nI_add 33 i).trans (by congr 1; omega), nI_clamp (by omega), h.1.j (by omega), show 7 + (30 + i) = 37 + i by omega]
    have e41 : I 25 ((41 : Int32) + nI i).toNatClampNeg = nI (κ (45 + i)) := by
      rw [show (41 : Int32) + nI i = nI (3 + (38 + i)) from (nI_add 41 i).trans (by congr 1; omega), nI_clamp (by omega), h.1.j (by omega), show 7 + (38 + i) = 45 + i by omega]
    have l1 : (nI dg < I 25 ((33 : Int32) + nI i).toNatClampNeg) = (dg < κ (37 + i)) := by rw [e33]; exact propext (nI_ltI (by omega) (by omega))
    have l2 : (I 25 ((41 : Int32) + nI i).toNatClampNeg < nI dg) = (κ (45 + i) < dg) := by rw [e41]; exact propext (nI_ltI (by omega) (by omega))
    have b33 : vp_in ((33 : Int32) + nI i) 49 := by rw [show (33 : Int32) + nI i = nI (33 + i) from nI_add 33 i]; exact vp_in_nI (by omega) (by decide)
    have b41 : vp_in ((41 : Int32) + nI i) 49 := by rw [show (41 : Int32) + nI i = nI (41 + i) from nI_add 41 i]; exact vp_in_nI (by omega) (by decide)
    have no : qspk κ i dg s = false → hX7_inForce_6 l G k (fun r μ' => r = .inl (some (.int (nI (qcode κ wn dg hh s)))) ∧ ∃ I', μ' = (I', J, R, S, nx) ∧ Fr [27, 28, 29] I I' ∧ CK I' κ L dl pl ld lp) (nI wn) (nI hh) (nI dg) (nI s) (nI (sp i)) (nI i + (1 : Int32)) (I, J, R, S, nx) := fun g => by
      have := ih () trivial
      rw [sps i, if_neg (by rw [g]; decide), Nat.or_zero] at this
      rw [nI_1]; exact this
    refine sX7_inForce_6 w wL wl ?_ ?_ ?_ ?_ ?_ ?_ ?_ ?_ <;> intros <;> (first | exact absurd (by with_reducible assumption) c1 | exact absurd c1 (by with_reducible assumption) | skip)
    · rename_i g; rw [eb] at g
      exact no (by unfold qspk; rw [Bool.eq_false_iff.mpr g]; rfl)
    · exact b33
    · rename_i g g2; rw [l1] at g2
      exact no (by unfold qspk; rw [show decide (κ (37 + i) ≤ dg) = false from decide_eq_false_iff_not.mpr (by omega)]; simp)
    · exact b41
    · rename_i g g2 g3; rw [l2] at g3
      exact no (by unfold qspk; rw [show decide (dg ≤ κ (45 + i)) = false from decide_eq_false_iff_not.mpr (by omega)]; simp)
    · rename_i g g2 g3
      rw [eb, Decidable.not_not] at g; rw [l1] at g2; rw [l2] at g3
      have := ih () trivial
      rw [sps i, if_pos (by unfold qspk; rw [g, show decide (κ (37 + i) ≤ dg) = true from decide_eq_true_eq.mpr (by omega), show decide (dg ≤ κ (45 + i)) = true from decide_eq_true_eq.mpr (by omega)]; rfl)] at this
      rw [nI_1, shl_n (by omega), fa_or]; exact this
end A
