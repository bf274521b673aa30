/-! the reference: lawless hours, kinds barred always, the strictest hour -/
def qfi (p : Nat → Bool) (n : Nat) : Option Nat := if fa_first p n < n then some (fa_first p n) else none
theorem qfi_some {p : Nat → Bool} {n i : Nat} (h : ∀ j, j < i → p j = false) (hi : i < n) (hp : p i = true) : qfi p n = some i := by
  unfold qfi; rw [first_eq h hi hp, if_pos hi]
theorem qfi_none {p : Nat → Bool} {n : Nat} (h : ∀ j, j < n → p j = false) : qfi p n = none := by
  unfold qfi; rw [first_no h, if_neg (Nat.lt_irrefl n)]
theorem cnt_all {p : Nat → Bool} : ∀ {n : Nat}, fa_cnt p n = n ↔ ∀ j, j < n → p j = true
  | 0 => ⟨fun _ j hj => absurd hj (Nat.not_lt_zero j), fun _ => rfl⟩
  | n + 1 => by
    have h1 := fa_cnt_le p n
    constructor
    · intro h j hj
      cases hp : p n with
      | false => rw [fa_cnt_no hp] at h; omega
      | true =>
        rw [fa_cnt_yes hp] at h
        by_cases c : j = n
        · rw [c]; exact hp
        · exact cnt_all.mp (show fa_cnt p n = n by omega) j (by omega)
    · intro h
      rw [fa_cnt_yes (h n (by omega)), cnt_all.mpr (fun j hj => h j (by omega))]
theorem bset_or1 {p : Nat → Bool} {b : Bool} {n j : Nat} (hj : j < n) : bset p n ||| (if b then 2 ^ j else 0) = bset (fun i => p i || (decide (i = j) && b)) n := by
  apply Nat.eq_of_testBit_eq
  intro i
  rw [Nat.testBit_or, bset_bit, bset_bit]
  cases b with
  | false => simp
  | true =>
    by_cases c : i = j
    · subst c; simp [Nat.testBit_two_pow_self, hj]
    · simp [Nat.testBit_two_pow_of_ne (Ne.symm c), c]
section A
variable {l : Launch} {G : Gh} {k : Nat} {I : Nat → Nat → Int32} {J : Nat → Nat → Int64} {R : Nat → Nat → Option Nat} {S : Nat → Nat × Nat} {nx : Nat} {κ : Nat → Nat} {hb pb : Nat}
theorem cod_ix {n c : Nat} (hK : Kn I κ) (hh : κ 54 + n < 2 ^ 30) (hc : c < 100) : (100 : Int32) * ((I 44 54 + nI n) - (I 44 54 + nI n) / (24 : Int32) * (24 : Int32)) + nI c = nI (100 * ((κ 54 + n) % 24) + c) := by
  rw [hK.h (by decide), nI_add, rem24 (by omega), show (100 : Int32) = nI 100 from rfl, pk_mul, nI_add]
theorem cod_at {wn sm n c : Nat} (hK : Kn I κ) (hC : laidC I κ wn sm) (hh : κ 54 + n < 2 ^ 30) (hc : c < 100) : vp_in ((100 : Int32) * ((I 44 54 + nI n) - (I 44 54 + nI n) / (24 : Int32) * (24 : Int32)) + nI c) 2400 ∧ I 51 ((100 : Int32) * ((I 44 54 + nI n) - (I 44 54 + nI n) / (24 : Int32) * (24 : Int32)) + nI c).toNatClampNeg = nI (qcode κ wn c (κ 54 + n) sm) := by
  have hm : (κ 54 + n) % 24 < 24 := Nat.mod_lt _ (by decide)
  rw [cod_ix hK hh hc]
  refine ⟨vp_in_nI (by omega) (by decide), ?_⟩
  rw [nI_clamp (by omega), hC _ _ hm hc, qcode_h]
def aLawless (κ : Nat → Nat) (x : Int32) : Nat × Int32 := if gL x (κ 1) then (0, jP (qfi (fun d => decide (qcin κ (cN x) (κ 54 + d) = 0)) 201)) else (1, 0)
theorem cWt4 {x v : Int32} (hK : Kn I κ) (ho : qok hb pb κ) (h : gL x (κ 1)) : ¬ v_X12_isWard (up2 I 43 4 v) (Int32.toInt64 x) = 0 := cWt hK.up4 ho h
theorem cWf4 {x v : Int32} (hK : Kn I κ) (ho : qok hb pb κ) (h : ¬ gL x (κ 1)) : v_X12_isWard (up2 I 43 4 v) (Int32.toInt64 x) = 0 := cWf hK.up4 ho h
theorem lawless_r {x : Int32} (w : MW R S nx) (hK : Kn I κ) (ho : qok hb pb κ) (hhb : hb < 2 ^ 29) : Cal l G (k + 6) 0 0 mX12_lawless [.ref 43, .int x] (I, J, R, S, nx) (fun r μ' => r = .inl (some (.int ((aLawless κ x).2))) ∧ ∃ I', μ' = (I', J, R, S, nx) ∧ PU (aLawless κ x).1 κ I I') := by
  have h1w := ho.1
  have h54 : κ 54 ≤ hb := ho.2.2.2.2.2.2.2.2.2.2.1
  by_cases g : gL x (κ 1)
  · have c1 := cWt4 (v := (0 : Int32)) hK ho g
    rw [show aLawless κ x = (0, jP (qfi (fun d => decide (qcin κ (cN x) (κ 54 + d) = 0)) 201)) by unfold aLawless; rw [if_pos g]]
    dsimp only
    obtain ⟨b, rfl, hb1, eb⟩ := g.n (by omega)
    rw [eb]
    refine Cal.of rfl (by decide +kernel) (by simp) (Nat.le_of_ble_eq_true rfl) rfl (sX12_lawless_0 (P1 := fun I I' => Fr [49, 50, 51] I I' ∧ laidC I' κ b (qall κ)) (P2 := fun I I' => Fr [49, 50, 52] I I' ∧ laidD I' κ b (κ 54) 201) w ?_ ?_ ?_ ?_) <;> intros <;> (first | exact absurd (by with_reducible assumption) c1 | exact absurd c1 (by with_reducible assumption) | skip)
    · rw [all_n hK.up4 ho]; exact laysCodes_r w hK.up4 ho (by omega) (Nat.lt_trans (qall_lt ho) (by decide))
    · rename_i I1 h1
      have hK1 := hK.up4.fr h1.1 (by decide)
      rw [hK1.h (by decide)]
      exact laysDegrees_r (n := 201) w hK1 ho hhb (by omega) (by omega) (by omega)
    · rename_i I1 h1 I2 h2
      have hF : Fr [49, 50, 51, 52] (up2 I 43 4 (0 : Int32)) I2 := h1.1.tr h2.1 (by decide)
      have hK2 := hK.up4.fr hF (by decide)
      have hC : laidC I2 κ b (qall κ) := fun hr dg a c => by rw [h2.1 51 (by decide)]; exact h1.2 hr dg a c
      refine upto (σ := Unit) (W := fun i _ => hX12_lawless_46 l G k _ (nI i) (I2, J, R, S, nx)) (P := fun i _ => ∀ j, j < i → (fun d => decide (qcin κ b (κ 54 + d) = 0)) j = false) 201 ?_ ?_ (i := 0) (s := ()) (Nat.zero_le _) (fun j hj => absurd hj (Nat.not_lt_zero j))
      · intro _ h
        have c2 : (200 : Int32) < nI 201 := by decide
        refine sX12_lawless_46 w ?_ ?_ ?_ ?_ ?_ <;> intros <;> (first | exact absurd (by with_reducible assumption) c2 | exact absurd c2 (by with_reducible assumption) | skip)
        rw [qfi_none h]
        exact ⟨rfl, _, rfl, PU.ok rfl hF (by decide) (by decide) hK2⟩
      · intro i _ hi h ih
        have c2 : ¬ (200 : Int32) < nI i := nI_nlt (b := i) (a := 200) (by omega) (by decide)
        have hq := qdeg_le κ b (κ 54 + i)
        have e52 : I2 52 (nI i).toNatClampNeg = nI (qdeg κ b (κ 54 + i)) := by rw [nI_clamp (by omega)]; exact h2.2 i hi
        obtain ⟨q1, q2⟩ := cod_at (n := i) (c := qdeg κ b (κ 54 + i)) hK2 hC (by omega) (by omega)
        refine sX12_lawless_46 w ?_ ?_ ?_ ?_ ?_ <;> intros <;> (first | exact absurd (by with_reducible assumption) c2 | exact absurd c2 (by with_reducible assumption) | skip)
        · exact vp_in_nI (by omega) (by decide)
        · rw [e52]; exact q1
        · rename_i h0
          rw [e52, q2] at h0
          rw [nI_1]
          refine ih () (fun j hj => ?_)
          by_cases c : j = i
          · rw [c]
            have hz : qcin κ b (κ 54 + i) ≠ 0 := fun hz => h0 (by unfold qcin at hz; rw [hz]; rfl)
            simp [hz]
          · exact h j (by omega)
        · rename_i h0
          rw [e52, q2] at h0
          have hz : qcin κ b (κ 54 + i) = 0 := (nI_eq (b := 0) (by have := qcode_lt κ b (qdeg κ b (κ 54 + i)) (κ 54 + i) (qall κ) ho.2.1; unfold qcin; omega) (by decide)).mp h0
          rw [qfi_some h hi (by simp [hz])]
          exact ⟨rfl, _, rfl, PU.ok rfl hF (by decide) (by decide) hK2⟩
  · have c1 := cWf4 (v := (0 : Int32)) hK ho g
    rw [show aLawless κ x = (1, 0) by unfold aLawless; rw [if_neg g]]
    refine Cal.of rfl (by decide +kernel) (by simp) (Nat.le_of_ble_eq_true rfl) rfl (sX12_lawless_0 (P1 := fun I I' => True) (P2 := fun I I' => True) w ?_ ?_ ?_ ?_) <;> intros <;> (first | exact absurd (by with_reducible assumption) c1 | exact absurd c1 (by with_reducible assumption) | skip)
    exact ⟨rfl, _, rfl, PU.fail2 hK rfl⟩
theorem barredHours_r {p : Nat → Bool} (w : MW R S nx) (hp : ∀ j, j < 24 → I 54 j = if p j then 0 else 1) : Cal l G k 0 0 mX12_barredHours [.ref 43] (I, J, R, S, nx) (fun r μ' => r = .inl (some (.int (nI (fa_cnt (fun j => !p j) 24)))) ∧ ∃ I', μ' = (I', J, R, S, nx) ∧ I' = I) := by
  refine Cal.of rfl (by decide +kernel) (by simp) (Nat.le_of_ble_eq_true rfl) rfl (sX12_barredHours_0 ?_)
  refine upto (σ := Unit) (W := fun i _ => hX12_barredHours_4 l G k _ (nI (fa_cnt (fun j => !p j) i)) (nI i) (I, J, R, S, nx)) (P := fun i _ => True) 24 ?_ ?_ (i := 0) (s := ()) (Nat.zero_le _) trivial
  · intro _ _
    have c1 : (24 : Int32) ≤ nI 24 := by decide
    refine sX12_barredHours_4 w ?_ ?_ ?_ ?_ <;> intros <;> (first | exact absurd (by with_reducible assumption) c1 | exact absurd c1 (by with_reducible assumption) | skip)
    exact ⟨rfl, _, rfl, rfl⟩
  · intro i _ hi _ ih
    have c1 : ¬ (24 : Int32) ≤ nI i := nI_ge (b := 24) hi (by decide)
    have hv : I 54 (nI i).toNatClampNeg = if p i then 0 else 1 := by rw [nI_clamp (by omega)]; exact hp i hi
    refine sX12_barredHours_4 w ?_ ?_ ?_ ?_ <;> intros <;> (first | exact absurd (by with_reducible assumption) c1 | exact absurd c1 (by with_reducible assumption) | skip)
    · exact vp_in_nI (by omega) (by decide)
    · rename_i h
      rw [hv] at h
      have hq : (fun j => !p j) i = false := by
        show (!p i) = false
        cases hc : p i with
        | true => rfl
        | false => rw [hc] at h; exact absurd h (by decide)
      have := ih () trivial
      rw [show fa_cnt (fun j => !p j) (i + 1) = fa_cnt (fun j => !p j) i from fa_cnt_no hq] at this
      rw [nI_1, show (0 : Int32) = nI 0 from rfl, nI_add]; exact this
    · rename_i h
      rw [hv] at h
      have hq : (fun j => !p j) i = true := by
        show (!p i) = true
        cases hc : p i with
        | true => rw [hc] at h; exact absurd rfl h
        | false => rfl
      have := ih () trivial
      rw [show fa_cnt (fun j => !p j) (i + 1) = fa_cnt (fun j => !p j) i + 1 from fa_cnt_yes hq] at this
      rw [nI_1, nI_1]; exact this
/-- barred in each hour of the day to come -/
def qalw (κ : Nat → Nat) (kd wn : Nat) : Bool := decide (fa_cnt (fun j => !qfa κ kd wn j) 24 = 24)
def aAlways (κ : Nat → Nat) : Nat × Int32 := (0, nI (bset (fun kd => (List.range (κ 1)).any (fun wn => qalw κ kd wn)) 10))
theorem alwaysBarred_r (w : MW R S nx) (hK : Kn I κ) (ho : qok hb pb κ) (hhb : hb < 2 ^ 29) : Cal l G (k + 6) 0 0 mX12_alwaysBarred [.ref 43] (I, J, R, S, nx) (fun r μ' => r = .inl (some (.int ((aAlways κ).2))) ∧ ∃ I', μ' = (I', J, R, S, nx) ∧ PU (aAlways κ).1 κ I I') := by
  have h1w := ho.1
  have h54 : κ 54 ≤ hb := ho.2.2.2.2.2.2.2.2.2.2.1
  unfold aAlways
  dsimp only
  refine Cal.of rfl (by decide +kernel) (by simp) (Nat.le_of_ble_eq_true rfl) rfl (sX12_alwaysBarred_0 w ?_)
  refine upto (W := fun i (s : Int32 × (Nat → Nat → Int32)) => hX12_alwaysBarred_9 l G k _ s.1 (nI i) (s.2, J, R, S, nx)) (P := fun i s => s.1 = nI (bset (fun kd => (List.range i).any (fun wn => qalw κ kd wn)) 10) ∧ Fr [49, 50, 51, 52, 53, 54] (up2 I 43 4 (0 : Int32)) s.2) (κ 1) ?_ ?_ (i := 0) (s := ((0 : Int32), up2 I 43 4 (0 : Int32))) (Nat.zero_le _) ⟨by simp [bset]; rfl, Fr.rf⟩
  · intro ⟨y, I1⟩ ⟨hy, hF⟩
    dsimp only at hy
    subst hy
    have hK1 := hK.up4.fr hF (by decide)
    have c0 : v_X12_wards I1 ≤ nI (κ 1) := by rw [wards_n hK1]; exact nI_le (Nat.le_refl _) (by omega)
    refine sX12_alwaysBarred_9 (P1 := fun _ _ => True) (P2 := fun _ _ => True) w ?_ ?_ ?_ ?_ <;> intros <;> (first | exact absurd (by with_reducible assumption) c0 | exact absurd c0 (by with_reducible assumption) | skip)
    exact ⟨rfl, _, rfl, PU.ok rfl hF (by decide) (by decide) hK1⟩
  · intro i ⟨y, I1⟩ hi ⟨hy, hF⟩ ih
    dsimp only at hy hF
    subst hy
    have hK1 := hK.up4.fr hF (by decide)
    have c0 : ¬ v_X12_wards I1 ≤ nI i := by rw [wards_n hK1]; exact nI_ge hi (by omega)
    refine sX12_alwaysBarred_9 (P1 := fun I I' => Fr [49, 50, 51] I I' ∧ laidC I' κ i (qall κ)) (P2 := fun I I' => Fr [49, 50, 52] I I' ∧ laidD I' κ i (κ 54) 24) w ?_ ?_ ?_ ?_ <;> intros <;> (first | exact absurd (by with_reducible assumption) c0 | exact absurd c0 (by with_reducible assumption) | skip)
    · rw [all_n hK1 ho]; exact laysCodes_r w hK1 ho (by omega) (Nat.lt_trans (qall_lt ho) (by decide))
    · rename_i I2 h2
      have hK2 := hK1.fr h2.1 (by decide)
      rw [hK2.h (by decide)]
      exact laysDegrees_r (n := 24) w hK2 ho hhb (by omega) (by omega) (by omega)
    · rename_i I2 h2 I3 h3
      have hF3 : Fr [49, 50, 51, 52, 53, 54] (up2 I 43 4 (0 : Int32)) I3 := (hF.tr h2.1 (r3 := [49, 50, 51, 52, 53, 54]) (by decide)).tr h3.1 (by decide)
      refine upto (W := fun j (s : Int32 × (Nat → Nat → Int32)) => hX12_alwaysBarred_42 l G k _ s.1 (nI i) (nI j) (s.2, J, R, S, nx)) (P := fun j s => s.1 = nI (bset (fun kd => (List.range i).any (fun wn => qalw κ kd wn) || (decide (kd < j) && qalw κ kd i)) 10) ∧ Fr [49, 50, 51, 52, 53, 54] (up2 I 43 4 (0 : Int32)) s.2 ∧ laidC s.2 κ i (qall κ) ∧ laidD s.2 κ i (κ 54) 24) 10 ?_ ?_ (i := 0) (s := (_, I3)) (Nat.zero_le _) ⟨by simp, hF3, fun hr dg a c => by show I3 51 _ = _; rw [h3.1 51 (by decide)]; exact h2.2 hr dg a c, h3.2⟩
      · intro ⟨y, I4⟩ ⟨hy, hF4, _, _⟩
        dsimp only at hy
        subst hy
        have c1 : (10 : Int32) ≤ nI 10 := by decide
        refine sX12_alwaysBarred_42 (u2 := 0) (P1 := fun _ _ => True) (P2 := fun _ _ => True) w ?_ ?_ ?_ ?_ ?_ <;> intros <;> (first | exact absurd (by with_reducible assumption) c1 | exact absurd c1 (by with_reducible assumption) | skip)
        have e : bset (fun kd => (List.range i).any (fun wn => qalw κ kd wn) || (decide (kd < 10) && qalw κ kd i)) 10 = bset (fun kd => (List.range (i + 1)).any (fun wn => qalw κ kd wn)) 10 := by
          apply bset_congr
          intro kd hkd
          rw [List.range_succ]; simp [hkd]
        rw [e, nI_1]
        exact ih (_, I4) ⟨rfl, hF4⟩
      · intro j ⟨y, I4⟩ hj ⟨hy, hF4, hC4, hD4⟩ ih2
        dsimp only at hy hF4 hC4 hD4 ⊢
        subst hy
        have hK4 := hK.up4.fr hF4 (by decide)
        have c1 : ¬ (10 : Int32) ≤ nI j := nI_ge (b := 10) hj (by decide)
        have fin : ∀ I5, (Fr [53, 54] I4 I5 ∧ laidR I5 κ 0 j i (κ 54) 24 0) → Fr [49, 50, 51, 52, 53, 54] (up2 I 43 4 (0 : Int32)) I5 ∧ laidC I5 κ i (qall κ) ∧ laidD I5 κ i (κ 54) 24 := fun I5 h5 => ⟨hF4.tr h5.1 (by decide), fun hr dg a c => by rw [h5.1 51 (by decide)]; exact hC4 hr dg a c, fun q hq => by rw [h5.1 52 (by decide)]; exact hD4 q hq⟩
        have hcl := fa_cnt_le (fun q => !qfa κ j i q) 24
        have es : bset (fun kd => (List.range i).any (fun wn => qalw κ kd wn) || (decide (kd < j) && qalw κ kd i)) 10 ||| (if qalw κ j i then 2 ^ j else 0) = bset (fun kd => (List.range i).any (fun wn => qalw κ kd wn) || (decide (kd < j + 1) && qalw κ kd i)) 10 := by
          rw [bset_or1 hj]
          apply bset_congr
          intro kd hkd
          by_cases c : kd = j
          · subst c; simp
          · have : (kd < j + 1) = (kd < j) := propext (by omega)
            simp [c, this]
        refine sX12_alwaysBarred_42 (u2 := nI (fa_cnt (fun q => !qfa κ j i q) 24)) (P1 := fun I I' => Fr [53, 54] I I' ∧ laidR I' κ 0 j i (κ 54) 24 0) (P2 := fun I I' => I' = I) w ?_ ?_ ?_ ?_ ?_ <;> intros <;> (first | exact absurd (by with_reducible assumption) c1 | exact absurd c1 (by with_reducible assumption) | skip)
        · rw [hK4.h (by decide)]
          exact (laysRow_r (row := 0) (n := 24) (wm := 0) w hK4 ho hhb (by omega) (by omega) (by omega) (by omega) (by omega) hC4 hD4).mono (fun r μ' ⟨e, I', e2, h1, h2, _⟩ => ⟨e, I', e2, h1, h2⟩)
        · rename_i I5 h5
          exact barredHours_r (p := qfa κ j i) w (fun q hq => by have := h5.2.bar q hq; rw [Nat.mul_zero, Nat.zero_add] at this; exact this)
        · rename_i I5 h5 I6 h6 h0
          subst h6
          have hq : qalw κ j i = false := by
            unfold qalw
            simp only [decide_eq_false_iff_not]
            exact fun hc => h0 (by rw [hc]; rfl)
          rw [hq] at es
          have := ih2 (_, I6) ⟨rfl, fin I6 h5⟩
          rw [← es] at this
          rw [nI_1, show (0 : Int32) = nI 0 from rfl, fa_or]; exact this
        · rename_i I5 h5 I6 h6 h0
          subst h6
          have hq : qalw κ j i = true := by
            unfold qalw
            simp only [decide_eq_true_eq]
            exact (nI_eq (b := 24) (by omega) (by decide)).mp h0
          rw [hq] at es
          have := ih2 (_, I6) ⟨rfl, fin I6 h5⟩
          rw [← es] at this
          rw [nI_1, shl_n (by omega), fa_or]; exact this
/-! strictest -/
def qinf (κ : Nat → Nat) (i n : Nat) : Nat := qsum (fun wn => qpop (qcin κ wn (κ 54 + n))) i
def aStrict (κ : Nat → Nat) : Nat × Int32 := (0, nI (qst (fun n => qinf κ (κ 1) n) 200))
theorem strictest_r (w : MW R S nx) (hK : Kn I κ) (ho : qok hb pb κ) (hhb : hb < 2 ^ 29) : Cal l G (k + 6) 0 0 mX12_strictest [.ref 43] (I, J, R, S, nx) (fun r μ' => r = .inl (some (.int ((aStrict κ).2))) ∧ ∃ I', μ' = (I', J, R, S, nx) ∧ PU (aStrict κ).1 κ I I') := by
  have h1w := ho.1
  have h54 : κ 54 ≤ hb := ho.2.2.2.2.2.2.2.2.2.2.1
  unfold aStrict
  dsimp only
  have plt : ∀ wn n, qcin κ wn n < 256 := fun wn n => qcode_lt κ wn (qdeg κ wn n) n (qall κ) ho.2.1
  refine Cal.of rfl (by decide +kernel) (by simp) (Nat.le_of_ble_eq_true rfl) rfl (sX12_strictest_0 w ?_)
  refine upto (W := fun i I1 => hX12_strictest_7 l G k _ (nI i) (I1, J, R, S, nx)) (P := fun i I1 => Fr [49, 50, 51, 52, 56] (up2 I 43 4 (0 : Int32)) I1 ∧ ∀ j, j < i → I1 56 j = nI (qinf κ 0 j)) 201 ?_ ?_ (i := 0) (Nat.zero_le _) ⟨Fr.rf, fun j hj => absurd hj (Nat.not_lt_zero j)⟩
  · intro I1 ⟨hF, hz⟩
    have c1 : (200 : Int32) < nI 201 := by decide
    refine sX12_strictest_7 w ?_ ?_ ?_ <;> intros <;> (first | exact absurd (by with_reducible assumption) c1 | exact absurd c1 (by with_reducible assumption) | skip)
    refine upto (W := fun i I1 => hX12_strictest_29 l G k _ (nI i) (I1, J, R, S, nx)) (P := fun i I1 => Fr [49, 50, 51, 52, 56] (up2 I 43 4 (0 : Int32)) I1 ∧ ∀ j, j < 201 → I1 56 j = nI (qinf κ i j)) (κ 1) ?_ ?_ (i := 0) (Nat.zero_le _) ⟨hF, hz⟩
    · intro I2 ⟨hF2, hq⟩
      have hK2 := hK.up4.fr hF2 (by decide)
      have c0 : v_X12_wards I2 ≤ nI (κ 1) := by rw [wards_n hK2]; exact nI_le (Nat.le_refl _) (by omega)
      refine sX12_strictest_29 (P1 := fun _ _ => True) (P2 := fun _ _ => True) w ?_ ?_ ?_ ?_ <;> intros <;> (first | exact absurd (by with_reducible assumption) c0 | exact absurd c0 (by with_reducible assumption) | skip)
      have lt5 : ∀ j, qinf κ (κ 1) j < 2 ^ 31 := fun j => by
        have := qsum_le (f := fun wn => qpop (qcin κ wn (κ 54 + j))) (c := 8) (n := κ 1) (fun wn _ => qpop_le _ (plt wn _))
        unfold qinf; omega
      refine upto (σ := Unit) (W := fun i _ => hX12_strictest_125 l G k _ (nI (qst (fun n => qinf κ (κ 1) n) i)) (nI (i + 1)) (I2, J, R, S, nx)) (P := fun i _ => True) 200 ?_ ?_ (i := 0) (s := ()) (Nat.zero_le _) trivial
      · intro _ _
        have c2 : (200 : Int32) < nI (200 + 1) := by decide
        refine sX12_strictest_125 w ?_ ?_ ?_ ?_ ?_ <;> intros <;> (first | exact absurd (by with_reducible assumption) c2 | exact absurd c2 (by with_reducible assumption) | skip)
        exact ⟨rfl, _, rfl, PU.ok rfl hF2 (by decide) (by decide) hK2⟩
      · intro i _ hi _ ih
        have c2 : ¬ (200 : Int32) < nI (i + 1) := nI_nlt (b := i + 1) (a := 200) (by omega) (by decide)
        have hle := qst_le (fun n => qinf κ (κ 1) n) i
        have e1 : I2 56 (nI (i + 1)).toNatClampNeg = nI (qinf κ (κ 1) (i + 1)) := by rw [nI_clamp (by omega)]; exact hq _ (by omega)
        have e2 : I2 56 (nI (qst (fun n => qinf κ (κ 1) n) i)).toNatClampNeg = nI (qinf κ (κ 1) (qst (fun n => qinf κ (κ 1) n) i)) := by rw [nI_clamp (by omega)]; exact hq _ (by omega)
        refine sX12_strictest_125 w ?_ ?_ ?_ ?_ ?_ <;> intros <;> (first | exact absurd (by with_reducible assumption) c2 | exact absurd c2 (by with_reducible assumption) | skip)
        · exact vp_in_nI (by omega) (by decide)
        · exact vp_in_nI (by omega) (by decide)
        · rename_i h
          rw [e1, e2, nI_leI (lt5 _) (lt5 _)] at h
          have := ih () trivial
          rw [show qst (fun n => qinf κ (κ 1) n) (i + 1) = qst (fun n => qinf κ (κ 1) n) i by rw [qst_s, if_neg (by omega)]] at this
          rw [nI_1]; exact this
        · rename_i h
          rw [e1, e2, nI_leI (lt5 _) (lt5 _)] at h
          have := ih () trivial
          rw [show qst (fun n => qinf κ (κ 1) n) (i + 1) = i + 1 by rw [qst_s, if_pos (by omega)]] at this
          rw [nI_1]; exact this
    · intro i I2 hi ⟨hF2, hq⟩ ih
      have hK2 := hK.up4.fr hF2 (by decide)
      have c0 : ¬ v_X12_wards I2 ≤ nI i := by rw [wards_n hK2]; exact nI_ge hi (by omega)
      refine sX12_strictest_29 (P1 := fun I I' => Fr [49, 50, 51] I I' ∧ laidC I' κ i (qall κ)) (P2 := fun I I' => Fr [49, 50, 52] I I' ∧ laidD I' κ i (κ 54) 201) w ?_ ?_ ?_ ?_ <;> intros <;> (first | exact absurd (by with_reducible assumption) c0 | exact absurd c0 (by with_reducible assumption) | skip)
      · rw [all_n hK2 ho]; exact laysCodes_r w hK2 ho (by omega) (Nat.lt_trans (qall_lt ho) (by decide))
      · rename_i I3 h3
        have hK3 := hK2.fr h3.1 (by decide)
        rw [hK3.h (by decide)]
        exact laysDegrees_r (n := 201) w hK3 ho hhb (by omega) (by omega) (by omega)
      · rename_i I3 h3 I4 h4
        have hF4 : Fr [49, 50, 51, 52, 56] (up2 I 43 4 (0 : Int32)) I4 := (hF2.tr h3.1 (r3 := [49, 50, 51, 52, 56]) (by decide)).tr h4.1 (by decide)
        refine upto (W := fun j I5 => hX12_strictest_63 l G k _ (nI i) (nI j) (I5, J, R, S, nx)) (P := fun j I5 => Fr [49, 50, 51, 52, 56] (up2 I 43 4 (0 : Int32)) I5 ∧ laidC I5 κ i (qall κ) ∧ laidD I5 κ i (κ 54) 201 ∧ ∀ q, q < 201 → I5 56 q = nI (qinf κ (if q < j then i + 1 else i) q)) 201 ?_ ?_ (i := 0) (Nat.zero_le _) ⟨hF4, fun hr dg a c => by rw [h4.1 51 (by decide)]; exact h3.2 hr dg a c, h4.2, fun q hq2 => by rw [h4.1 56 (by decide), h3.1 56 (by decide), if_neg (by omega)]; exact hq q hq2⟩
        · intro I5 ⟨hF5, _, _, h56⟩
          have c2 : (200 : Int32) < nI 201 := by decide
          refine sX12_strictest_63 (u1 := 0) (P1 := fun _ _ => True) w ?_ ?_ ?_ ?_ ?_ ?_ ?_ <;> intros <;> (first | exact absurd (by with_reducible assumption) c2 | exact absurd c2 (by with_reducible assumption) | skip)
          rw [nI_1]
          exact ih I5 ⟨hF5, fun j hj => by rw [h56 j hj, if_pos hj]⟩
        · intro j I5 hj ⟨hF5, hC5, hD5, h56⟩ ih2
          have hK5 := hK.up4.fr hF5 (by decide)
          have c2 : ¬ (200 : Int32) < nI j := nI_nlt (b := j) (a := 200) (by omega) (by decide)
          have hqd := qdeg_le κ i (κ 54 + j)
          have e52 : I5 52 (nI j).toNatClampNeg = nI (qdeg κ i (κ 54 + j)) := by rw [nI_clamp (by omega)]; exact hD5 j hj
          obtain ⟨q1, q2⟩ := cod_at (n := j) (c := qdeg κ i (κ 54 + j)) hK5 hC5 (by omega) (by omega)
          refine sX12_strictest_63 (u1 := nI (qpop (qcin κ i (κ 54 + j)))) (P1 := fun I I' => I' = I) w ?_ ?_ ?_ ?_ ?_ ?_ ?_ <;> intros <;> (first | exact absurd (by with_reducible assumption) c2 | exact absurd c2 (by with_reducible assumption) | skip)
          · exact vp_in_nI (by omega) (by decide)
          · exact vp_in_nI (by omega) (by decide)
          · rw [e52]; exact q1
          · rw [e52, q2]; exact (r_size (plt i _)).eqI
          · exact vp_in_nI (by omega) (by decide)
          · rename_i I6 h6
            subst h6
            rw [nI_clamp (by omega), nI_1]
            refine ih2 _ ⟨hF5.up (by decide), fun hr dg a c => ?_, fun q hq2 => ?_, fun q hq2 => ?_⟩
            · have := hC5 hr dg a c; simpa [up2] using this
            · have := hD5 q hq2; simpa [up2] using this
            · by_cases c : q = j
              · subst c
                simp only [up2, if_true]
                rw [h56 q hq2, if_neg (by omega), if_pos (by omega), nI_add]; rfl
              · simp only [up2, if_true, if_neg c]
                rw [h56 q hq2]
                have : (q < j + 1) = (q < j) := propext (by omega)
                simp only [this]
  · intro i I1 hi ⟨hF, hz⟩ ih
    have c1 : ¬ (200 : Int32) < nI i := nI_nlt (b := i) (a := 200) (by omega) (by decide)
    refine sX12_strictest_7 w ?_ ?_ ?_ <;> intros <;> (first | exact absurd (by with_reducible assumption) c1 | exact absurd c1 (by with_reducible assumption) | skip)
    · exact vp_in_nI (by omega) (by decide)
    · rw [nI_clamp (by omega), nI_1]
      refine ih _ ⟨hF.up (by decide), fun j hj => ?_⟩
      by_cases c : j = i
      · subst c; simp only [up2, if_true]; rfl
      · simp only [up2, if_true, if_neg c]; exact hz j (by omega)
end A
