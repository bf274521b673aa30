/-! the class: what fire makes lawful -/
theorem qaskP_md (κ : Nat → Nat) (a m h w : Nat) : qaskP κ a m (h % 24) w = qaskP κ a m h w := by
  funext j; unfold qaskP; rw [Nat.mod_mod]
theorem qcode_md (κ : Nat → Nat) (wn d h s : Nat) : qcode κ wn d (h % 24) s = qcode κ wn d h s := by
  unfold qcode qprv
  apply bset_congr
  intro a _
  rw [qaskP_md]
theorem qlh_gt {h : Nat → Int} {D : Nat} (hD : D < 99) : ∀ {n : Nat}, (∀ i, i < n → D < (h i).natAbs) → D < (qlh h n).2
  | 0, _ => hD
  | n + 1, g => by
    rw [qlh_s]
    split
    · exact g n (Nat.lt_succ_self n)
    · exact qlh_gt hD (fun i hi => g i (Nat.lt_succ_of_lt hi))
theorem qlh_some {h : Nat → Int} {D n : Nat} (hD : D < 99) (h1 : ∀ i, i < n → D < (h i).natAbs) (h2 : (h n).natAbs = D) : ∀ d, (∀ i, i < n + 1 + d → D ≤ (h i).natAbs) → qlh h (n + 1 + d) = (some n, D)
  | 0, _ => by rw [Nat.add_zero, qlh_s, if_pos (by rw [h2]; exact qlh_gt hD h1), h2]
  | d + 1, g => by
    rw [← Nat.add_assoc, qlh_s, qlh_some hD h1 h2 d (fun i hi => g i (by omega)), if_neg (by have := g (n + 1 + d) (by omega); dsimp only; omega)]
theorem qlh_none {h : Nat → Int} : ∀ {n : Nat}, (∀ i, i < n → 99 ≤ (h i).natAbs) → qlh h n = (none, 99)
  | 0, _ => rfl
  | n + 1, g => by rw [qlh_s, qlh_none (fun i hi => g i (Nat.lt_succ_of_lt hi)), if_neg (by have := g n (Nat.lt_succ_self n); dsimp only; omega)]
theorem qso_some {p : Nat → Bool} {c n : Nat} (h : qso p 0 c = some n) : n < 201 ∧ qfree p n c = true ∧ ∀ j, j < n → qfree p j c = false := by
  unfold qso at h
  split at h
  · rename_i g
    have := Option.some.inj h
    have y := fa_first_yes (fun d => qfree p (0 + d) c) 201 g
    rw [this] at y
    refine ⟨by omega, y, fun j hj => ?_⟩
    have := fa_first_no (fun d => qfree p (0 + d) c) 201 j (by omega)
    rwa [Nat.zero_add] at this
  · cases h
theorem qso_no {p : Nat → Bool} {c : Nat} (h : qso p 0 c = none) : ∀ j, j < 201 → qfree p j c = false := by
  unfold qso at h
  split at h
  · cases h
  · rename_i g
    intro j hj
    have := fa_first_no (fun d => qfree p (0 + d) c) 201 j (by omega)
    rwa [Nat.zero_add] at this
section A
variable {l : Launch} {G : Gh} {k : Nat} {I : Nat → Nat → Int32} {J : Nat → Nat → Int64} {R : Nat → Nat → Option Nat} {S : Nat → Nat × Nat} {nx : Nat} {κ : Nat → Nat} {hb pb : Nat}
theorem heat_abs (κ : Nat → Nat) (kd wn n c : Nat) : (qheat κ kd wn n c).natAbs = if qhd κ kd wn n c < 61 then qhd κ kd wn n c else 99 := by
  unfold qheat
  split
  · split <;> omega
  · rfl
theorem hd_gt {kd wn n c d : Nat} (hd : d ≤ 61) (h : ∀ e, e < d → (qlb κ kd wn n c (e : Int) || qlb κ kd wn n c (-(e : Int))) = false) : d ≤ qhd κ kd wn n c := by
  rcases Nat.lt_or_ge (qhd κ kd wn n c) d with g | g
  · have y := fa_first_yes (fun d : Nat => qlb κ kd wn n c (d : Int) || qlb κ kd wn n c (-(d : Int))) 61 (show qhd κ kd wn n c < 61 by omega)
    have n1 := h _ g
    exact absurd (y.symm.trans n1) (by decide)
  · exact g
theorem heatIn_c {kd wn n ls : Nat} {L dl pl ld lp : Nat} (w : CF R S nx) (wL : R 14 0 = some L) (wl : LW R S nx L dl pl ld lp) (h : CK I κ L dl pl ld lp) (ho : qok hb pb κ) (hhb : hb < 2 ^ 29) {O : Nat} (wO : OW R S nx O) (ap : AP O 5 L dl pl) (hk : kd < 10) (hw : wn < 5) (hn : n ≤ 999) (hls : 1 ≤ ls ∧ ls ≤ 24) : Cal l G (k + 4) 0 0 mX4_heatIn [.ref O, .int (nI kd), .int (nI wn), .int (nI n), .int (nI ls)] (I, J, R, S, nx) (fun r μ' => r = .inl (some (.int (zI (qheat κ kd wn n (qms κ ls))))) ∧ ∃ I', μ' = (I', J, R, S, nx) ∧ Fr [27, 28, 29, O + 1, O + 2] I I' ∧ CK I' κ L dl pl ld lp) := by
  have hm := qms_le (κ := κ) hls.1
  obtain ⟨c, hc⟩ : ∃ c, qms κ ls = c := ⟨_, rfl⟩
  rw [hc] at hm ⊢
  have efr : ∀ wm : Int, qfree (fun j => qfw κ kd wn wm (n + j)) 0 c = qlb κ kd wn n c wm := fun wm => by
    unfold qlb; rw [qfree_sh]; rfl
  refine Cal.of rfl (by decide +kernel) (by simp) (Nat.le_of_ble_eq_true rfl) rfl (sX4_heatIn_0 (u1 := nI c) (P1 := fun I I' => I' = I) (P2 := fun I I' => Fr [27, 28, 29, O + 1] I I' ∧ CK I' κ L dl pl ld lp ∧ DG I' κ O wn n c) w wO (by rw [← hc]; exact measured_c w wL wl h ho hhb) ?_ ?_)
  · intro I1 h1; subst h1; exact layDegrees_c (k := k) w wL wl h ho hhb wO ap hw (by omega) (by omega)
  intro I1 h1 I2 h2
  subst h1
  refine upto (W := fun i I3 => hX4_heatIn_22 l G k _ O (nI kd) (nI wn) (nI n) (nI c) (nI i) (I3, J, R, S, nx)) (P := fun i I3 => (∀ j, j < i → (fun d : Nat => qlb κ kd wn n c (d : Int) || qlb κ kd wn n c (-(d : Int))) j = false) ∧ Fr [27, 28, 29, O + 1, O + 2] I1 I3 ∧ CK I3 κ L dl pl ld lp ∧ DG I3 κ O wn n c) 61 ?_ ?_ (i := 0) (Nat.zero_le _) ⟨fun j hj => absurd hj (Nat.not_lt_zero j), h2.1.wk (by simp), h2.2⟩
  · intro I3 ⟨hq, hF, hK, hD⟩
    have c1 : (60 : Int32) < nI 61 := by decide
    refine sX4_heatIn_22 (u2 := 0) (u4 := 0) (P1 := fun _ _ => True) (P2 := fun _ _ => True) (P3 := fun _ _ => True) (P4 := fun _ _ => True) wO ?_ ?_ ?_ ?_ ?_ ?_ ?_ ?_ <;> intros <;> (first | exact absurd (by with_reducible assumption) c1 | exact absurd c1 (by with_reducible assumption) | skip)
    refine ⟨?_, _, rfl, hF, hK⟩
    have e : qhd κ kd wn n c = 61 := first_no hq
    unfold qheat; rw [e]; rfl
  · intro i I3 hi ⟨hq, hF, hK, hD⟩ ih
    have c1 : ¬ (60 : Int32) < nI i := nI_nlt (b := i) (a := 60) (by omega) (by decide)
    have en : -nI i = zI (-(i : Int)) := by
      rw [nI_z]; unfold zI; exact (Int32.ofInt_neg _).symm
    have h12 : O + 1 ∉ [27, 28, 29, O + 2] := by have := ap.1; simp; omega
    refine sX4_heatIn_22 (u2 := if qlb κ kd wn n c (i : Int) then 1 else 0) (u4 := if qlb κ kd wn n c (-(i : Int)) then 1 else 0) (P1 := fun I I' => Fr [27, 28, 29, O + 2] I I' ∧ CK I' κ L dl pl ld lp ∧ BR I' κ O kd wn n c (i : Int)) (P2 := fun I I' => I' = I) (P3 := fun I I' => Fr [27, 28, 29, O + 2] I I' ∧ CK I' κ L dl pl ld lp ∧ BR I' κ O kd wn n c (-(i : Int))) (P4 := fun I I' => I' = I) wO ?_ ?_ ?_ ?_ ?_ ?_ ?_ ?_ <;> intros <;> (first | exact absurd (by with_reducible assumption) c1 | exact absurd c1 (by with_reducible assumption) | skip)
    · exact layBarring_c (wm := (i : Int)) w wL wl hK ho hhb wO ap hk hw (by omega) (by omega) (by omega) hD
    · rename_i I4 h4
      rw [← efr]; exact isFree_c wO (by omega) (h4.2.2.p ho)
    · rename_i I4 h4 I5 h5 g; subst h5
      rw [en]; exact layBarring_c (wm := -(i : Int)) w wL wl h4.2.1 ho hhb wO ap hk hw (by omega) (by omega) (by omega) (hD.fr h4.1 h12)
    · rename_i I4 h4 I5 h5 g I6 h6
      rw [← efr]; exact isFree_c wO (by omega) (h6.2.2.p ho)
    · rename_i I4 h4 I5 h5 u1 I6 h6 I7 h7 u2
      subst h5; subst h7
      rw [ifI] at u1 u2
      rw [nI_1]
      have h46 : Fr [27, 28, 29, O + 2] I3 I7 := h4.1.tr h6.1 (by simp)
      refine ih I7 ⟨fun j hj => ?_, hF.tr h46 (by simp), h6.2.1, hD.fr h46 h12⟩
      by_cases c : j = i
      · rw [c]; simp [u1, u2]
      · exact hq j (by omega)
    · rename_i I4 h4 I5 h5 u1 I6 h6 I7 h7 u2
      subst h5; subst h7
      rw [ifI] at u1
      rw [ifI, Decidable.not_not] at u2
      have e : qhd κ kd wn n c = i := first_eq hq hi (by simp [u2])
      have h46 : Fr [27, 28, 29, O + 2] I3 I7 := h4.1.tr h6.1 (by simp)
      refine ⟨?_, _, rfl, hF.tr h46 (by simp), h6.2.1⟩
      unfold qheat; rw [e, if_pos hi, if_neg u1, en]
    · rename_i I4 h4 I5 h5 u1
      subst h5
      rw [ifI, Decidable.not_not] at u1
      have e : qhd κ kd wn n c = i := first_eq hq hi (by simp [u1])
      refine ⟨?_, _, rfl, hF.tr h4.1 (by simp), h4.2.1⟩
      unfold qheat; rw [e, if_pos hi, if_pos u1]; rfl
/-- acts of a kind in force by hour and degree, as far as they were asked for -/
def BD (I : Nat → Nat → Int32) (κ : Nat → Nat) (O kd wn : Nat) : Prop := ∀ h d, h < 24 → d ≤ 99 → I (O + 4) (h * 100 + d) = -1 ∨ I (O + 4) (h * 100 + d) = nI (qcode κ wn d h (qac κ kd))
theorem nI_nm1 {n : Nat} (h : n < 2 ^ 31) : ¬ nI n = (-1 : Int32) := by
  rw [fa_eq, nI_toInt h, show (-1 : Int32).toInt = -1 by decide]; omega
theorem layHeated_c {kd wn n : Nat} {wm : Int} {L dl pl ld lp : Nat} (w : CF R S nx) (wL : R 14 0 = some L) (wl : LW R S nx L dl pl ld lp) (h : CK I κ L dl pl ld lp) (ho : qok hb pb κ) (hhb : hb < 2 ^ 29) {O : Nat} (wO : OW R S nx O) (ap : AP O 5 L dl pl) (hk : kd < 10) (hw : wn < 5) (hn : n ≤ 224) (hwm : -100 ≤ wm ∧ wm ≤ 100) (hD : DG I κ O wn 0 n) (hB : BD I κ O kd wn) : Cal l G (k + 3) 0 0 mX4_layHeated [.ref O, .int (nI kd), .int (nI wn), .int (nI n), .int (zI wm)] (I, J, R, S, nx) (fun r μ' => r = .inl none ∧ ∃ I', μ' = (I', J, R, S, nx) ∧ Fr [27, 28, 29, O + 2, O + 4] I I' ∧ CK I' κ L dl pl ld lp ∧ BR I' κ O kd wn 0 n wm ∧ BD I' κ O kd wn) := by
  have h54 : κ 54 ≤ hb := ho.2.2.2.2.2.2.2.2.2.2.1
  have hac := qac_lt ho kd
  have hO := ap.1
  refine Cal.of rfl (by decide +kernel) (by simp) (Nat.le_of_ble_eq_true rfl) rfl (sX4_layHeated_0 (u1 := nI (qac κ kd)) (P1 := fun I I' => I' = I) w wO (actsOf_c (k := k + 1) w wL wl h ho hhb hk) (fun I1 h1 => ?_))
  subst h1
  refine upto (W := fun i I3 => hX4_layHeated_13 l G k _ O (nI wn) (nI n) (zI wm) (nI (qac κ kd)) (nI i) (I3, J, R, S, nx)) (P := fun i I3 => Fr [27, 28, 29, O + 2, O + 4] I1 I3 ∧ CK I3 κ L dl pl ld lp ∧ BR I3 κ O kd wn 0 i wm ∧ BD I3 κ O kd wn) n ?_ ?_ (i := 0) (Nat.zero_le _) ⟨Fr.rf, h, fun j hj => absurd hj (Nat.not_lt_zero _), hB⟩
  · intro I3 ⟨hF, hK, hR, hB3⟩
    have c1 : nI n ≤ nI n := nI_le (Nat.le_refl _) (by omega)
    refine sX4_layHeated_13 (u1 := 0) (P1 := fun _ _ => True) w wO ?_ ?_ ?_ ?_ ?_ ?_ ?_ ?_ <;> intros <;> (first | exact absurd (by with_reducible assumption) c1 | exact absurd c1 (by with_reducible assumption) | skip)
    exact ⟨rfl, _, rfl, hF, hK, hR, hB3⟩
  · intro i I3 hi ⟨hF, hK, hR, hB3⟩ ih
    have c1 : ¬ nI n ≤ nI i := nI_ge hi (by omega)
    have c2 : ¬ Int32.ofNat 224 ≤ nI i := nI_ge (by omega) (by omega)
    have hq := qdeg_le κ wn (κ 54 + i)
    have hkl := qkept_le ((qdeg κ wn (κ 54 + i) : Int) + wm)
    have e1 : v_X7_keptDegree (I3 (O + 1) (nI i).toNatClampNeg + zI wm) = nI (qkept ((qdeg κ wn (κ 54 + i) : Int) + wm)) := by
      rw [nI_clamp (by omega), hF (O + 1) (by simp; omega), hD i hi, Nat.add_zero, nI_z, zI_add, kept_c (by omega)]
    obtain ⟨dg, hdg⟩ : ∃ dg, qkept ((qdeg κ wn (κ 54 + i) : Int) + wm) = dg := ⟨_, rfl⟩
    rw [hdg] at e1 hkl
    have hr : (κ 54 + i) % 24 < 24 := Nat.mod_lt _ (by decide)
    have e2 : v_X7_hourOfDay ((I3 25 0) + nI i) * (100 : Int32) + v_X7_keptDegree (I3 (O + 1) (nI i).toNatClampNeg + zI wm) = nI ((κ 54 + i) % 24 * 100 + dg) := by
      rw [e1, hK.1.h.1, nI_add, hod (by omega), show (100 : Int32) = nI 100 from rfl, pk_mul, nI_add]
    have eq1 : nI (qcode κ wn dg ((κ 54 + i) % 24) (qac κ kd)) = nI (qcd κ kd wn (κ 54 + 0 + i) wm) := by
      rw [qcode_md, Nat.add_zero, ← qcd_ac, hdg]
    have hcl := qcode_lt κ wn dg ((κ 54 + i) % 24) (qac κ kd) ho.2.1
    have go : ∀ I4, Fr [27, 28, 29, O + 2, O + 4] I1 I4 → CK I4 κ L dl pl ld lp → BR I4 κ O kd wn 0 i wm → BD I4 κ O kd wn → I4 (O + 4) ((κ 54 + i) % 24 * 100 + dg) = nI (qcd κ kd wn (κ 54 + 0 + i) wm) → hX4_layHeated_103 l G k (fun r μ' => r = .inl none ∧ ∃ I', μ' = (I', J, R, S, nx) ∧ Fr [27, 28, 29, O + 2, O + 4] I1 I' ∧ CK I' κ L dl pl ld lp ∧ BR I' κ O kd wn 0 n wm ∧ BD I' κ O kd wn) O (nI wn) (nI n) (zI wm) (nI (qac κ kd)) (nI i) (nI ((κ 54 + i) % 24 * 100 + dg)) (I4, J, R, S, nx) := by
      intro I4 g1 g2 g3 g4 g5
      refine sX4_layHeated_103 wO (vp_in_nI (by omega) (by decide)) (vp_in_nI (by omega) (by decide)) ?_
      rw [nI_1, nI_clamp (by omega), nI_clamp (by omega), g5]
      refine ih _ ⟨g1.up (by simp), g2.dy ap (by omega), fun j hj => ?_, fun h' d' q1 q2 => ?_⟩
      · by_cases c : j = i
        · simp [up2, c]
        · simp only [up2, if_true, if_neg c]; exact g3 j (by omega)
      · have : O + 4 ≠ O + 2 := by omega
        simp only [up2, if_neg this]; exact g4 h' d' q1 q2
    refine sX4_layHeated_13 (u1 := nI (qcode κ wn dg (κ 54 + i) (qac κ kd))) (P1 := fun I I' => Fr [27, 28, 29] I I' ∧ CK I' κ L dl pl ld lp) w wO ?_ ?_ ?_ ?_ ?_ ?_ ?_ ?_ <;> intros <;> (first | exact absurd (by with_reducible assumption) c1 | exact absurd c1 (by with_reducible assumption) | exact absurd (by with_reducible assumption) c2 | exact absurd c2 (by with_reducible assumption) | skip)
    · exact vp_in_nI (by omega) (by decide)
    · rw [e2]; exact vp_in_nI (by omega) (by decide)
    · rename_i g
      rw [e2, nI_clamp (by omega)] at g
      rw [e2]
      rcases hB3 _ dg hr hkl with q | q
      · exact absurd q g
      · exact go I3 hF hK hR hB3 (by rw [q, eq1])
    · rw [e1, hK.1.h.1, nI_add]
      exact inForce_c w wL wl hK ho hhb hw (by omega) hkl (by omega)
    · rw [e2]; exact vp_in_nI (by omega) (by decide)
    · rename_i g I4 h4
      rw [e2, nI_clamp (by omega)]
      have hF4 : Fr [27, 28, 29, O + 2, O + 4] I1 I4 := hF.tr h4.1 (by simp)
      refine go _ (hF4.up (by simp)) (h4.2.dy ap (by omega)) (fun j hj => ?_) (fun h' d' q1 q2 => ?_) (by rw [← eq1, qcode_md]; simp [up2])
      · have : O + 2 ≠ O + 4 := by omega
        simp only [up2, if_neg this]
        rw [h4.1 (O + 2) (by simp; omega)]; exact hR j hj
      · by_cases c : h' * 100 + d' = (κ 54 + i) % 24 * 100 + dg
        · have : h' = (κ 54 + i) % 24 ∧ d' = dg := by omega
          rw [this.1, this.2]
          right; rw [qcode_md]; simp [up2]
        · simp only [up2, if_true, if_neg c]
          rw [h4.1 (O + 4) (by simp; omega)]; exact hB3 h' d' q1 q2
theorem leastHeated_c {kd wn ls : Nat} {L dl pl ld lp : Nat} (w : CF R S nx) (wL : R 14 0 = some L) (wl : LW R S nx L dl pl ld lp) (h : CK I κ L dl pl ld lp) (ho : qok hb pb κ) (hhb : hb < 2 ^ 29) {O : Nat} (wO : OW R S nx O) (ap : AP O 5 L dl pl) (hk : kd < 10) (hw : wn < 5) (hls : 1 ≤ ls ∧ ls ≤ 24) : Cal l G (k + 4) 0 0 mX4_leastHeated [.ref O, .int (nI kd), .int (nI wn), .int (nI ls)] (I, J, R, S, nx) (fun r μ' => r = .inl (some (.int (jP (qlh (fun n => qheat κ kd wn n (qms κ ls)) 201).1))) ∧ ∃ I', μ' = (I', J, R, S, nx) ∧ Fr [27, 28, 29, O + 1, O + 2, O + 4] I I' ∧ CK I' κ L dl pl ld lp) := by
  have hm := qms_le (κ := κ) hls.1
  have hm1 := qms_1 (κ := κ) hls.1
  have hO := ap.1
  obtain ⟨c, hc⟩ : ∃ c, qms κ ls = c := ⟨_, rfl⟩
  rw [hc] at hm hm1 ⊢
  have e200 : (200 : Int32) + nI c = nI (200 + c) := nI_add 200 _
  have w4 : S (O + 4) = (100, 2400) := (wO.2.2.2 (4, 4, 100, 2400) (by decide)).2
  refine Cal.of rfl (by decide +kernel) (by simp) (Nat.le_of_ble_eq_true rfl) rfl (sX4_leastHeated_0 (u1 := nI c) (P1 := fun I I' => I' = I) (P2 := fun I I' => Fr [27, 28, 29, O + 1] I I' ∧ CK I' κ L dl pl ld lp ∧ DG I' κ O wn 0 (200 + c)) (P3 := fun I I' => Fr [O + 4] I I' ∧ ∀ j, j < 2400 → I' (O + 4) j = -1) w wO (by rw [← hc]; exact measured_c w wL wl h ho hhb) ?_ ?_ ?_)
  · intro I1 h1; subst h1; rw [e200]; exact layDegrees_c (k := k) (ah := 0) w wL wl h ho hhb wO ap hw (by omega) (by omega)
  · intro I1 h1 I2 h2
    exact fill_i w4 (Nat.lt_of_lt_of_le (Nat.add_lt_add_left (by decide) _) wO.1) (by decide)
  intro I1 h1 I2 h2 I3 h3
  subst h1
  obtain ⟨q, hq⟩ : ∃ q : Nat → Nat → Bool, q = fun (n d : Nat) => qlb κ kd wn n c (d : Int) || qlb κ kd wn n c (-(d : Int)) := ⟨_, rfl⟩
  refine upto (W := fun i I4 => hX4_leastHeated_33 l G k _ O (nI kd) (nI wn) (nI c) (nI i) (I4, J, R, S, nx)) (P := fun i I4 => (∀ n e, n < 201 → e < i → q n e = false) ∧ Fr [27, 28, 29, O + 1, O + 2, O + 4] I1 I4 ∧ CK I4 κ L dl pl ld lp ∧ DG I4 κ O wn 0 (200 + c) ∧ BD I4 κ O kd wn) 61 ?_ ?_ (i := 0) (Nat.zero_le _) ⟨fun n e _ he => absurd he (Nat.not_lt_zero _), h2.1.tr h3.1 (by simp), h2.2.1.df ap (by omega) h3.1, h2.2.2.fr h3.1 (by simp), fun h' d' q1 q2 => Or.inl (h3.2 _ (by omega))⟩
  · intro I4 ⟨hn, hF, hK, hD, hB⟩
    have c1 : (60 : Int32) < nI 61 := by decide
    refine sX4_leastHeated_33 (u2 := 0) (u4 := 0) (P1 := fun _ _ => True) (P2 := fun _ _ => True) (P3 := fun _ _ => True) (P4 := fun _ _ => True) wO ?_ ?_ ?_ ?_ ?_ ?_ ?_ ?_ ?_ ?_ ?_ ?_ <;> intros <;> (first | exact absurd (by with_reducible assumption) c1 | exact absurd c1 (by with_reducible assumption) | skip)
    refine ⟨?_, _, rfl, hF, hK⟩
    rw [qlh_none (fun i hi => ?_)]
    · rfl
    · have := hd_gt (κ := κ) (kd := kd) (wn := wn) (n := i) (c := c) (d := 61) (Nat.le_refl _) (fun e he => by have := hn i e hi he; rw [hq] at this; exact this)
      rw [heat_abs, if_neg (by omega)]; exact Nat.le_refl _
  · intro i I4 hi ⟨hn, hF, hK, hD, hB⟩ ih
    have c1 : ¬ (60 : Int32) < nI i := nI_nlt (b := i) (a := 60) (by omega) (by decide)
    have en : -nI i = zI (-(i : Int)) := by
      rw [nI_z]; unfold zI; exact (Int32.ofInt_neg _).symm
    have h14 : O + 1 ∉ [27, 28, 29, O + 2, O + 4] := by simp; omega
    have efr : ∀ (wm : Int) (j : Nat), qfree (fun j => qfw κ kd wn wm (0 + j)) j c = qlb κ kd wn j c wm := fun wm j => by
      unfold qlb; rw [qfree_sh, Nat.zero_add]
    obtain ⟨w1, hw1⟩ : ∃ w1, qso (fun j => qfw κ kd wn (i : Int) (0 + j)) 0 c = w1 := ⟨_, rfl⟩
    obtain ⟨w2, hw2⟩ : ∃ w2, qso (fun j => qfw κ kd wn (-(i : Int)) (0 + j)) 0 c = w2 := ⟨_, rfl⟩
    -- the answer, where one is found
    have fin : ∀ n, n < 201 → q n i = true → (∀ j, j < n → q j i = false) → (qlh (fun n => qheat κ kd wn n c) 201).1 = some n := by
      intro n n1 n2 n3
      have hhd : ∀ j, j < 201 → i ≤ qhd κ kd wn j c := fun j hj => hd_gt (by omega) (fun e he => by have := hn j e hj he; rw [hq] at this; exact this)
      have := qlh_some (h := fun n => qheat κ kd wn n c) (D := i) (n := n) (by omega) (fun j hj => ?_) ?_ (200 - n) (fun j hj => ?_)
      · rw [show n + 1 + (200 - n) = 201 by omega] at this; rw [this]
      · rw [heat_abs]
        have g1 := hd_gt (κ := κ) (kd := kd) (wn := wn) (n := j) (c := c) (d := i + 1) (by omega) (fun e he => by
          by_cases ce : e = i
          · have := n3 j hj; rw [hq] at this; rw [ce]; exact this
          · have := hn j e (by omega) (by omega); rw [hq] at this; exact this)
        split <;> omega
      · rw [heat_abs]
        have : qhd κ kd wn n c = i := first_eq (fun e he => by have := hn n e n1 he; rw [hq] at this; exact this) hi (by rw [hq] at n2; exact n2)
        rw [this, if_pos hi]
      · rw [heat_abs]
        have := hhd j (by omega)
        split <;> omega
    have y1 : ∀ n, w1 = some n → n < 201 ∧ qlb κ kd wn n c (i : Int) = true ∧ ∀ j, j < n → qlb κ kd wn j c (i : Int) = false := fun n e => by
      have := qso_some (hw1.trans e); simp only [efr] at this; exact this
    have z1 : w1 = none → ∀ j, j < 201 → qlb κ kd wn j c (i : Int) = false := fun e => by
      have := qso_no (hw1.trans e); simp only [efr] at this; exact this
    have y2 : ∀ n, w2 = some n → n < 201 ∧ qlb κ kd wn n c (-(i : Int)) = true ∧ ∀ j, j < n → qlb κ kd wn j c (-(i : Int)) = false := fun n e => by
      have := qso_some (hw2.trans e); simp only [efr] at this; exact this
    have z2 : w2 = none → ∀ j, j < 201 → qlb κ kd wn j c (-(i : Int)) = false := fun e => by
      have := qso_no (hw2.trans e); simp only [efr] at this; exact this
    have jm : ∀ n, n < 201 → ¬ jP (some n) = (-1 : Int32) := fun n hn => nI_nm1 (by omega)
    refine sX4_leastHeated_33 (u2 := jP w1) (u4 := jP w2) (P1 := fun I I' => Fr [27, 28, 29, O + 2, O + 4] I I' ∧ CK I' κ L dl pl ld lp ∧ BR I' κ O kd wn 0 (200 + c) (i : Int) ∧ BD I' κ O kd wn) (P2 := fun I I' => I' = I) (P3 := fun I I' => Fr [27, 28, 29, O + 2, O + 4] I I' ∧ CK I' κ L dl pl ld lp ∧ BR I' κ O kd wn 0 (200 + c) (-(i : Int)) ∧ BD I' κ O kd wn) (P4 := fun I I' => I' = I) wO ?_ ?_ ?_ ?_ ?_ ?_ ?_ ?_ ?_ ?_ ?_ ?_ <;> intros <;> (first | exact absurd (by with_reducible assumption) c1 | exact absurd c1 (by with_reducible assumption) | skip)
    · rw [e200]; exact layHeated_c (wm := (i : Int)) w wL wl hK ho hhb wO ap hk hw (by omega) (by omega) hD hB
    · rename_i I5 h5
      rw [← hw1]; exact firstFree_c wO (by omega) (h5.2.2.1.p ho)
    · rename_i I5 h5 I6 h6; subst h6
      rw [en, e200]; exact layHeated_c (wm := -(i : Int)) w wL wl h5.2.1 ho hhb wO ap hk hw (by omega) (by omega) (hD.fr h5.1 h14) h5.2.2.2
    · rename_i I5 h5 I6 h6 I7 h7
      rw [← hw2]; exact firstFree_c wO (by omega) (h7.2.2.1.p ho)
    · rename_i g1 g2; exact absurd g1 g2
    · rename_i I5 h5 I6 h6 I7 h7 I8 h8 g1 _ g2
      subst h6; subst h8
      have e1 : w1 = none := by
        cases w1 with
        | none => rfl
        | some n => exact absurd g1 (jm n (y1 n rfl).1)
      have e2 : w2 = none := by
        cases w2 with
        | none => rfl
        | some n => exact absurd g2 (jm n (y2 n rfl).1)
      have h57 : Fr [27, 28, 29, O + 2, O + 4] I4 I8 := h5.1.tr h7.1 (by simp)
      rw [nI_1]
      refine ih I8 ⟨fun n e n1 n2 => ?_, hF.tr h57 (by simp), h7.2.1, hD.fr h57 h14, h7.2.2.2⟩
      by_cases ce : e = i
      · rw [hq, ce]; dsimp only; rw [z1 e1 n n1, z2 e2 n n1]; rfl
      · exact hn n e n1 (by omega)
    · rename_i I5 h5 I6 h6 I7 h7 I8 h8 g1 _ g2
      subst h6; subst h8
      have e1 : w1 = none := by
        cases w1 with
        | none => rfl
        | some n => exact absurd g1 (jm n (y1 n rfl).1)
      have h57 : Fr [27, 28, 29, O + 2, O + 4] I4 I8 := h5.1.tr h7.1 (by simp)
      refine ⟨?_, _, rfl, hF.tr h57 (by simp), h7.2.1⟩
      cases w2 with
      | none => exact absurd rfl g2
      | some n =>
        have a := y2 n rfl
        rw [fin n a.1 (by rw [hq]; dsimp only; rw [a.2.1]; simp) (fun j hj => by rw [hq]; dsimp only; rw [a.2.2 j hj, z1 e1 j (by omega)]; rfl), e1]
        rw [if_pos (by show (-1 : Int32) < nI n; rw [fa_lt, nI_toInt (by omega), show (-1 : Int32).toInt = -1 by decide]; omega)]
    · rename_i I5 h5 I6 h6 I7 h7 I8 h8 g1 g2 _
      subst h6; subst h8
      have e2 : w2 = none := by
        cases w2 with
        | none => rfl
        | some n => exact absurd g2 (jm n (y2 n rfl).1)
      have h57 : Fr [27, 28, 29, O + 2, O + 4] I4 I8 := h5.1.tr h7.1 (by simp)
      refine ⟨?_, _, rfl, hF.tr h57 (by simp), h7.2.1⟩
      cases w1 with
      | none => exact absurd rfl g1
      | some n =>
        have a := y1 n rfl
        rw [fin n a.1 (by rw [hq]; dsimp only; rw [a.2.1]; simp) (fun j hj => by rw [hq]; dsimp only; rw [a.2.2 j hj, z2 e2 j (by omega)]; rfl), e2]
        rw [if_neg (by show ¬ nI n < (-1 : Int32); rw [fa_lt, nI_toInt (by omega), show (-1 : Int32).toInt = -1 by decide]; omega)]
    · rename_i g1 _ g2 _; exact absurd g2 g1
    · rename_i g1 _ g2 _; exact absurd g2 g1
    · rename_i I5 h5 I6 h6 I7 h7 I8 h8 g1 g2
      subst h6; subst h8
      have h57 : Fr [27, 28, 29, O + 2, O + 4] I4 I8 := h5.1.tr h7.1 (by simp)
      refine ⟨?_, _, rfl, hF.tr h57 (by simp), h7.2.1⟩
      cases w1 with
      | none => exact absurd rfl g1
      | some n =>
        cases w2 with
        | none => exact absurd rfl g2
        | some m =>
          have a := y1 n rfl
          have b := y2 m rfl
          have el : (jP (some m) < jP (some n)) = (m < n) := propext (nI_ltI (by omega) (by omega))
          by_cases cm : m < n
          · rw [if_pos (el.mpr cm), fin m b.1 (by rw [hq]; dsimp only; rw [b.2.1]; simp) (fun j hj => by rw [hq]; dsimp only; rw [a.2.2 j (by omega), b.2.2 j hj]; rfl)]
          · rw [if_neg (fun g => cm (el.mp g)), fin n a.1 (by rw [hq]; dsimp only; rw [a.2.1]; simp) (fun j hj => by rw [hq]; dsimp only; rw [a.2.2 j hj, b.2.2 j (by omega)]; rfl)]
end A
