/-! the reference: ways -/
/-- fined in a ward, so many hours ahead -/
def qwf (κ : Nat → Nat) (kd t wn : Nat) : Nat := qfin κ (qcd κ kd wn (κ 54 + t) 0)
def laidW (I : Nat → Nat → Int32) (κ : Nat → Nat) (kd n : Nat) : Prop := ∀ t wn, t < 61 → wn < n → I 57 (5 * t + wn) = nI (qwf κ kd t wn)
/-- where nothing is fined -/
def qfe (κ : Nat → Nat) (kd t : Nat) : Nat := bset (fun wn => decide (qwf κ kd t wn = 0)) (κ 1)
def qnr (κ : Nat → Nat) (s : Nat) : Nat → Nat
  | 0 => s
  | i + 1 => qnr κ s i ||| (if s.testBit i then κ (61 + i) else 0)
/-- some wards and those beside them -/
def qnx (κ : Nat → Nat) (s : Nat) : Nat := qnr κ s (κ 1)
def qshut (sh : Option Nat) (a : Nat) : Nat := match sh with | none => a | some s => a &&& (255 ^^^ 2 ^ s)
/-- where one may be free, a ward being shut -/
def qmay (κ : Nat → Nat) (kd fr : Nat) (sh : Option Nat) : Nat → Nat
  | 0 => qfe κ kd 0 &&& 2 ^ fr
  | t + 1 => qshut sh (qnx κ (qmay κ kd fr sh t) &&& qfe κ kd (t + 1))
def qway (κ : Nat → Nat) (kd fr to : Nat) (sh : Option Nat) : Option Nat := qfi (fun t => (qmay κ kd fr sh t).testBit to) 61
theorem qnr_bit (κ : Nat → Nat) (s v : Nat) : ∀ i, (qnr κ s i).testBit v = true ↔ (s.testBit v = true ∨ ∃ u, u < i ∧ s.testBit u = true ∧ (κ (61 + u)).testBit v = true)
  | 0 => by simp [qnr]
  | i + 1 => by
    unfold qnr
    rw [Nat.testBit_or, Bool.or_eq_true, qnr_bit κ s v i]
    constructor
    · rintro ((h | ⟨u, h1, h2, h3⟩) | h)
      · exact Or.inl h
      · exact Or.inr ⟨u, by omega, h2, h3⟩
      · by_cases c : s.testBit i = true
        · rw [if_pos c] at h; exact Or.inr ⟨i, by omega, c, h⟩
        · rw [if_neg c] at h; simp at h
    · rintro (h | ⟨u, h1, h2, h3⟩)
      · exact Or.inl (Or.inl h)
      · by_cases c : u = i
        · subst c; rw [if_pos h2]; exact Or.inr h3
        · exact Or.inl (Or.inr ⟨u, by omega, h2, h3⟩)
section A
variable {l : Launch} {G : Gh} {k : Nat} {I : Nat → Nat → Int32} {J : Nat → Nat → Int64} {R : Nat → Nat → Option Nat} {S : Nat → Nat × Nat} {nx : Nat} {κ : Nat → Nat} {hb pb : Nat}
theorem qnr_lt (ho : qok hb pb κ) {s : Nat} (hs : s < 32) : ∀ i, i ≤ 5 → qnr κ s i < 32
  | 0, _ => hs
  | i + 1, hi => by
    unfold qnr
    apply Nat.or_lt_two_pow (n := 5) (qnr_lt ho hs i (by omega))
    split
    · exact (ho.2.2.2.2.2.2.2.1 i (by omega)).2.2.2.2.2.2.2
    · decide
theorem qnx_lt (ho : qok hb pb κ) {s : Nat} (hs : s < 32) : qnx κ s < 32 := qnr_lt ho hs _ ho.1
theorem qfe_lt (ho : qok hb pb κ) (kd t : Nat) : qfe κ kd t < 32 := Nat.lt_of_lt_of_le (bset_lt _ _) (Nat.pow_le_pow_right (by decide) ho.1 : 2 ^ κ 1 ≤ 2 ^ 5)
theorem qshut_le (sh : Option Nat) (a : Nat) : qshut sh a ≤ a := by
  cases sh with
  | none => exact Nat.le_refl _
  | some s => exact Nat.and_le_left
theorem qmay_lt (ho : qok hb pb κ) (kd fr : Nat) (sh : Option Nat) : ∀ t, qmay κ kd fr sh t < 32
  | 0 => Nat.lt_of_le_of_lt Nat.and_le_left (qfe_lt ho kd 0)
  | t + 1 => Nat.lt_of_le_of_lt (qshut_le _ _) (Nat.lt_of_le_of_lt Nat.and_le_right (qfe_lt ho kd (t + 1)))
theorem laysWays_r {kd : Nat} (w : MW R S nx) (hK : Kn I κ) (ho : qok hb pb κ) (hhb : hb < 2 ^ 29) (hkd : kd < 2 ^ 31) : Cal l G (k + 7) 0 0 mX12_laysWays [.ref 43, .int (nI kd)] (I, J, R, S, nx) (fun r μ' => r = .inl none ∧ ∃ I', μ' = (I', J, R, S, nx) ∧ Fr [49, 50, 51, 52, 53, 54, 57] I I' ∧ laidW I' κ kd (κ 1)) := by
  have h1w := ho.1
  have h54 : κ 54 ≤ hb := ho.2.2.2.2.2.2.2.2.2.2.1
  refine Cal.of rfl (by decide +kernel) (by simp) (Nat.le_of_ble_eq_true rfl) rfl (sX12_laysWays_0 ?_)
  refine upto (W := fun i I1 => hX12_laysWays_2 l G k _ (nI kd) (nI i) (I1, J, R, S, nx)) (P := fun i I1 => Fr [49, 50, 51, 52, 53, 54, 57] I I1 ∧ laidW I1 κ kd i) (κ 1) ?_ ?_ (i := 0) (Nat.zero_le _) ⟨Fr.rf, fun t wn _ h => absurd h (Nat.not_lt_zero _)⟩
  · intro I1 ⟨hF, hW⟩
    have hK1 := hK.fr hF (by decide)
    have c1 : v_X12_wards I1 ≤ nI (κ 1) := by rw [wards_n hK1]; exact nI_le (Nat.le_refl _) (by omega)
    refine sX12_laysWays_2 (P1 := fun _ _ => True) w ?_ ?_ ?_ <;> intros <;> (first | exact absurd (by with_reducible assumption) c1 | exact absurd c1 (by with_reducible assumption) | skip)
    exact ⟨rfl, _, rfl, hF, hW⟩
  · intro i I1 hi ⟨hF, hW⟩ ih
    have hK1 := hK.fr hF (by decide)
    have c1 : ¬ v_X12_wards I1 ≤ nI i := by rw [wards_n hK1]; exact nI_ge hi (by omega)
    refine sX12_laysWays_2 (P1 := fun I I' => Fr [49, 50, 51, 52, 53, 54] I I' ∧ laidR I' κ 0 kd i (κ 54) 61 0) w ?_ ?_ ?_ <;> intros <;> (first | exact absurd (by with_reducible assumption) c1 | exact absurd c1 (by with_reducible assumption) | skip)
    · exact (laysHours_r (row := 0) (n := 61) w hK1 ho hhb (by omega) (by omega) hkd (by omega)).mono (fun r μ' ⟨e, I', e2, h1, _, _, h4, _⟩ => ⟨e, I', e2, h1, h4⟩)
    · rename_i I2 h2
      refine upto (W := fun j I3 => hX12_laysWays_21 l G k _ (nI kd) (nI i) (nI j) (I3, J, R, S, nx)) (P := fun j I3 => Fr [49, 50, 51, 52, 53, 54, 57] I I3 ∧ laidW I3 κ kd i ∧ laidR I3 κ 0 kd i (κ 54) 61 0 ∧ ∀ t, t < j → I3 57 (5 * t + i) = nI (qwf κ kd t i)) 61 ?_ ?_ (i := 0) (Nat.zero_le _) ⟨hF.tr h2.1 (by decide), fun t wn a b => by rw [h2.1 57 (by decide)]; exact hW t wn a b, h2.2, fun t h => absurd h (Nat.not_lt_zero _)⟩
      · intro I3 ⟨hF3, hW3, _, h3⟩
        have c2 : (60 : Int32) < nI 61 := by decide
        refine sX12_laysWays_21 w ?_ ?_ ?_ ?_ <;> intros <;> (first | exact absurd (by with_reducible assumption) c2 | exact absurd c2 (by with_reducible assumption) | skip)
        rw [nI_1]
        refine ih I3 ⟨hF3, fun t wn a b => ?_⟩
        by_cases c : wn = i
        · rw [c]; exact h3 t a
        · exact hW3 t wn a (by omega)
      · intro j I3 hj ⟨hF3, hW3, hR3, h3⟩ ih2
        have c2 : ¬ (60 : Int32) < nI j := nI_nlt (b := j) (a := 60) (by omega) (by decide)
        have e1 : (5 : Int32) * nI j + nI i = nI (5 * j + i) := by rw [show (5 : Int32) = nI 5 from rfl, pk_mul, nI_add]
        have e53 : I3 53 (nI j).toNatClampNeg = nI (qwf κ kd j i) := by
          rw [nI_clamp (by omega)]; have := (hR3 j hj).1; rw [Nat.mul_zero, Nat.zero_add] at this; exact this
        refine sX12_laysWays_21 w ?_ ?_ ?_ ?_ <;> intros <;> (first | exact absurd (by with_reducible assumption) c2 | exact absurd c2 (by with_reducible assumption) | skip)
        · exact vp_in_nI (by omega) (by decide)
        · rw [e1]; exact vp_in_nI (by omega) (by decide)
        · rw [e53, e1, nI_clamp (by omega), nI_1]
          refine ih2 _ ⟨hF3.up (by decide), fun t wn a b => ?_, fun t ht => ?_, fun t ht => ?_⟩
          · have hne : 5 * t + wn ≠ 5 * j + i := by omega
            simp only [up2, if_true, if_neg hne]; exact hW3 t wn a b
          · have := hR3 t ht; simpa [up2] using this
          · by_cases c : t = j
            · subst c; simp [up2]
            · have hne : 5 * t + i ≠ 5 * j + i := by omega
              simp only [up2, if_true, if_neg hne]; exact h3 t (by omega)
theorem nextTo_r {s : Nat} (w : MW R S nx) (hK : Kn I κ) (ho : qok hb pb κ) (hs : s < 32) : Cal l G (k + 1) 0 0 mX12_nextTo [.ref 43, .int (nI s)] (I, J, R, S, nx) (fun r μ' => r = .inl (some (.int (nI (qnx κ s)))) ∧ ∃ I', μ' = (I', J, R, S, nx) ∧ I' = I) := by
  have h1w := ho.1
  unfold qnx
  refine Cal.of rfl (by decide +kernel) (by simp) (Nat.le_of_ble_eq_true rfl) rfl (sX12_nextTo_0 ?_)
  refine upto (σ := Unit) (W := fun i _ => hX12_nextTo_4 l G k _ (nI s) (nI (qnr κ s i)) (nI i) (I, J, R, S, nx)) (P := fun i _ => True) (κ 1) ?_ ?_ (i := 0) (s := ()) (Nat.zero_le _) trivial
  · intro _ _
    have c1 : v_X12_wards I ≤ nI (κ 1) := by rw [wards_n hK]; exact nI_le (Nat.le_refl _) (by omega)
    refine sX12_nextTo_4 w ?_ ?_ ?_ ?_ <;> intros <;> (first | exact absurd (by with_reducible assumption) c1 | exact absurd c1 (by with_reducible assumption) | skip)
    exact ⟨rfl, _, rfl, rfl⟩
  · intro i _ hi _ ih
    have c1 : ¬ v_X12_wards I ≤ nI i := by rw [wards_n hK]; exact nI_ge hi (by omega)
    have eh := has_n (s := s) (i := i) (by omega) (by omega)
    have e1 : (61 : Int32) + nI i = nI (61 + i) := nI_add 61 _
    have hx := ih () trivial
    refine sX12_nextTo_4 w ?_ ?_ ?_ ?_ <;> intros <;> (first | exact absurd (by with_reducible assumption) c1 | exact absurd c1 (by with_reducible assumption) | skip)
    · rename_i h0
      rw [eh, ifI] at h0
      rw [show qnr κ s (i + 1) = qnr κ s i ||| 0 by show qnr κ s i ||| _ = _; rw [if_neg h0]] at hx
      rw [show (0 : Int32) = nI 0 from rfl, fa_or, nI_1]; exact hx
    · rw [e1]; exact vp_in_nI (by omega) (by decide)
    · rename_i h0
      rw [eh, ifI, Decidable.not_not] at h0
      rw [show qnr κ s (i + 1) = qnr κ s i ||| κ (61 + i) by show qnr κ s i ||| _ = _; rw [if_pos h0]] at hx
      rw [e1, nI_clamp (by omega), hK _ (by omega), fa_or, nI_1]; exact hx
theorem freeIn_r {kd t : Nat} (w : MW R S nx) (hK : Kn I κ) (ho : qok hb pb κ) (ht : t < 61) (hW : laidW I κ kd (κ 1)) : Cal l G (k + 1) 0 0 mX12_freeIn [.ref 43, .int (nI t)] (I, J, R, S, nx) (fun r μ' => r = .inl (some (.int (nI (qfe κ kd t)))) ∧ ∃ I', μ' = (I', J, R, S, nx) ∧ I' = I) := by
  have h1w := ho.1
  unfold qfe
  refine Cal.of rfl (by decide +kernel) (by simp) (Nat.le_of_ble_eq_true rfl) rfl (sX12_freeIn_0 ?_)
  refine upto (σ := Unit) (W := fun i _ => hX12_freeIn_4 l G k _ (nI t) (nI (bset (fun wn => decide (qwf κ kd t wn = 0)) i)) (nI i) (I, J, R, S, nx)) (P := fun i _ => True) (κ 1) ?_ ?_ (i := 0) (s := ()) (Nat.zero_le _) trivial
  · intro _ _
    have c1 : v_X12_wards I ≤ nI (κ 1) := by rw [wards_n hK]; exact nI_le (Nat.le_refl _) (by omega)
    refine sX12_freeIn_4 w ?_ ?_ ?_ ?_ <;> intros <;> (first | exact absurd (by with_reducible assumption) c1 | exact absurd c1 (by with_reducible assumption) | skip)
    exact ⟨rfl, _, rfl, rfl⟩
  · intro i _ hi _ ih
    have c1 : ¬ v_X12_wards I ≤ nI i := by rw [wards_n hK]; exact nI_ge hi (by omega)
    have e1 : (5 : Int32) * nI t + nI i = nI (5 * t + i) := by rw [show (5 : Int32) = nI 5 from rfl, pk_mul, nI_add]
    have e57 : I 57 ((5 : Int32) * nI t + nI i).toNatClampNeg = nI (qwf κ kd t i) := by rw [e1, nI_clamp (by omega)]; exact hW t i ht hi
    have hl : qwf κ kd t i ≤ 792 := qfin_le ho _
    have hx := ih () trivial
    refine sX12_freeIn_4 w ?_ ?_ ?_ ?_ <;> intros <;> (first | exact absurd (by with_reducible assumption) c1 | exact absurd c1 (by with_reducible assumption) | skip)
    · rw [e1]; exact vp_in_nI (by omega) (by decide)
    · rename_i h0
      rw [e57] at h0
      have hz : ¬ qwf κ kd t i = 0 := fun h => h0 (by rw [h]; rfl)
      rw [show bset (fun wn => decide (qwf κ kd t wn = 0)) (i + 1) = bset (fun wn => decide (qwf κ kd t wn = 0)) i ||| 0 by rw [bset_s]; simp [hz]] at hx
      rw [show (0 : Int32) = nI 0 from rfl, fa_or, nI_1]; exact hx
    · rename_i h0
      rw [e57] at h0
      have hz : qwf κ kd t i = 0 := (nI_eq (b := 0) (by omega) (by decide)).mp h0
      rw [show bset (fun wn => decide (qwf κ kd t wn = 0)) (i + 1) = bset (fun wn => decide (qwf κ kd t wn = 0)) i ||| 2 ^ i by rw [bset_s]; simp [hz]] at hx
      rw [shl_n (by omega), fa_or, nI_1]; exact hx
theorem shut_n {a : Nat} (sh : Option Nat) (ha : a < 32) (hsh : ∀ s, sh = some s → s < 5) : nI a &&& (match sh with | none => (-1 : Int32) | some s => (nI (2 ^ s) ^^^ (-1 : Int32))) = nI (qshut sh a) := by
  cases sh with
  | none => show nI a &&& (-1 : Int32) = nI a; exact Int32.and_neg_one
  | some s =>
    have := hsh s rfl
    exact nt_and (by omega) (Nat.lt_of_lt_of_le (Nat.pow_lt_pow_right (by decide) this : 2 ^ s < 2 ^ 5) (by decide))
theorem laysFree_r {kd fr to : Nat} {sh : Option Nat} (w : MW R S nx) (hK : Kn I κ) (ho : qok hb pb κ) (hfr : fr < 5) (hto : to < 5) (hsh : ∀ s, sh = some s → s < 5) (hW : laidW I κ kd (κ 1)) : Cal l G (k + 2) 0 0 mX12_laysFree [.ref 43, .int (nI fr), .int (nI to), .int (jP sh)] (I, J, R, S, nx) (fun r μ' => r = .inl (some (.int (jP (qway κ kd fr to sh)))) ∧ ∃ I', μ' = (I', J, R, S, nx) ∧ Fr [58] I I' ∧ ∀ t, t < 61 → I' 58 t = nI (qmay κ kd fr sh t)) := by
  unfold qway
  have main : ∀ op : Int32, (∀ a, a < 32 → nI a &&& op = nI (qshut sh a)) → hX12_laysFree_14 l G k (fun r μ' => r = .inl (some (.int (jP (qfi (fun t => (qmay κ kd fr sh t).testBit to) 61)))) ∧ ∃ I', μ' = (I', J, R, S, nx) ∧ Fr [58] I I' ∧ ∀ t, t < 61 → I' 58 t = nI (qmay κ kd fr sh t)) (nI fr) (nI to) op (I, J, R, S, nx) := by
    intro op hop
    refine sX12_laysFree_14 (u1 := nI (qfe κ kd 0)) (P1 := fun I I' => I' = I) w (freeIn_r (t := 0) w hK ho (by omega) hW) (fun I1 h => ?_)
    subst h
    rw [shl_n (by omega), fa_and]
    refine upto (W := fun i I2 => hX12_laysFree_34 l G k _ (nI to) op (nI (i + 1)) (I2, J, R, S, nx)) (P := fun i I2 => Fr [58] I1 I2 ∧ ∀ t, t ≤ i → I2 58 t = nI (qmay κ kd fr sh t)) 60 ?_ ?_ (i := 0) (Nat.zero_le _) ⟨Fr.rf.up (by decide), fun t ht => by rw [show t = 0 by omega]; simp [up2]; rfl⟩
    · intro I2 ⟨hF, hM⟩
      have c1 : (60 : Int32) < nI (60 + 1) := by decide
      refine sX12_laysFree_34 (u1 := 0) (u2 := 0) (P1 := fun _ _ => True) (P2 := fun _ _ => True) w ?_ ?_ ?_ ?_ ?_ ?_ <;> intros <;> (first | exact absurd (by with_reducible assumption) c1 | exact absurd c1 (by with_reducible assumption) | skip)
      refine upto (σ := Unit) (W := fun i _ => hX12_laysFree_80 l G k _ (nI to) (nI i) (I2, J, R, S, nx)) (P := fun i _ => ∀ j, j < i → (fun t => (qmay κ kd fr sh t).testBit to) j = false) 61 ?_ ?_ (i := 0) (s := ()) (Nat.zero_le _) (fun j hj => absurd hj (Nat.not_lt_zero j))
      · intro _ h
        have d1 : (60 : Int32) < nI 61 := by decide
        have d2 : ¬ nI 61 ≤ (60 : Int32) := by decide
        refine sX12_laysFree_80 w ?_ ?_ ?_ ?_ ?_ ?_ <;> intros <;> (first | exact absurd (by with_reducible assumption) d1 | exact absurd d1 (by with_reducible assumption) | exact absurd (by with_reducible assumption) d2 | exact absurd d2 (by with_reducible assumption) | skip)
        rw [qfi_none h]
        exact ⟨rfl, _, rfl, hF, fun t ht => hM t (by omega)⟩
      · intro i _ hi h ih
        have d1 : ¬ (60 : Int32) < nI i := nI_nlt (b := i) (a := 60) (by omega) (by decide)
        have d2 : nI i ≤ (60 : Int32) := nI_le (b := 60) (by omega) (by decide)
        have eh : v_X12_has (I2 58 (nI i).toNatClampNeg) (nI to) = if (qmay κ kd fr sh i).testBit to then 1 else 0 := by
          rw [nI_clamp (by omega), hM i (by omega)]; exact has_n (by have := qmay_lt ho kd fr sh i; omega) (by omega)
        refine sX12_laysFree_80 w ?_ ?_ ?_ ?_ ?_ ?_ <;> intros <;> (first | exact absurd (by with_reducible assumption) d1 | exact absurd d1 (by with_reducible assumption) | exact absurd (by with_reducible assumption) d2 | exact absurd d2 (by with_reducible assumption) | skip)
        · exact vp_in_nI (by omega) (by decide)
        · rename_i h0 _
          rw [eh, ifI, Decidable.not_not] at h0
          rw [qfi_some h hi h0]
          exact ⟨rfl, _, rfl, hF, fun t ht => hM t (by omega)⟩
        · rename_i h0
          rw [eh, ifI] at h0
          rw [nI_1]
          refine ih () (fun j hj => ?_)
          by_cases c : j = i
          · rw [c]; simpa using h0
          · exact h j (by omega)
    · intro i I2 hi ⟨hF, hM⟩ ih
      have hK2 := hK.fr hF (by decide)
      have hW2 : laidW I2 κ kd (κ 1) := fun t wn a b => by rw [hF 57 (by decide)]; exact hW t wn a b
      have c1 : ¬ (60 : Int32) < nI (i + 1) := nI_nlt (b := i + 1) (a := 60) (by omega) (by decide)
      have e1 : nI (i + 1) - (1 : Int32) = nI i := nI_pred i
      have hl := qmay_lt ho kd fr sh i
      refine sX12_laysFree_34 (u1 := nI (qnx κ (qmay κ kd fr sh i))) (u2 := nI (qfe κ kd (i + 1))) (P1 := fun I I' => I' = I) (P2 := fun I I' => I' = I) w ?_ ?_ ?_ ?_ ?_ ?_ <;> intros <;> (first | exact absurd (by with_reducible assumption) c1 | exact absurd c1 (by with_reducible assumption) | skip)
      · rw [e1]; exact vp_in_nI (by omega) (by decide)
      · rw [e1, nI_clamp (by omega), hM i (Nat.le_refl _)]; exact nextTo_r w hK2 ho hl
      · rename_i I3 h3; subst h3; exact freeIn_r (t := i + 1) w hK2 ho (by omega) hW2
      · exact vp_in_nI (by omega) (by decide)
      · rename_i I3 h3 I4 h4
        subst h3; subst h4
        have hlt : qnx κ (qmay κ kd fr sh i) &&& qfe κ kd (i + 1) < 32 := Nat.lt_of_le_of_lt Nat.and_le_right (qfe_lt ho kd (i + 1))
        rw [fa_and, hop _ hlt, nI_clamp (by omega), nI_1]
        refine ih _ ⟨hF.up (by decide), fun t ht => ?_⟩
        by_cases c : t = i + 1
        · subst c; simp [up2]; rfl
        · simp only [up2, if_true, if_neg c]; exact hM t (by omega)
  cases sh with
  | none =>
    have c1 : jP none = (-1 : Int32) := rfl
    refine Cal.of rfl (by decide +kernel) (by simp) (Nat.le_of_ble_eq_true rfl) rfl (sX12_laysFree_0 ?_ ?_) <;> intros <;> (first | exact absurd (by with_reducible assumption) c1 | exact absurd c1 (by with_reducible assumption) | skip)
    exact main (-1 : Int32) (fun a ha => shut_n none ha hsh)
  | some s =>
    have hs := hsh s rfl
    have c1 : ¬ jP (some s) = (-1 : Int32) := by rw [show jP (some s) = nI s from rfl, fa_eq, nI_toInt (by omega), show (-1 : Int32).toInt = -1 by decide]; omega
    refine Cal.of rfl (by decide +kernel) (by simp) (Nat.le_of_ble_eq_true rfl) rfl (sX12_laysFree_0 ?_ ?_) <;> intros <;> (first | exact absurd (by with_reducible assumption) c1 | exact absurd c1 (by with_reducible assumption) | skip)
    rw [show jP (some s) = nI s from rfl, shl_n (by omega)]
    exact main _ (fun a ha => shut_n (some s) ha hsh)
end A
