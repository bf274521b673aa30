/-! the class: ways -/
section A
variable {l : Launch} {G : Gh} {k : Nat} {I : Nat → Nat → Int32} {J : Nat → Nat → Int64} {R : Nat → Nat → Option Nat} {S : Nat → Nat × Nat} {nx : Nat} {κ : Nat → Nat} {hb pb : Nat}
def WD (I : Nat → Nat → Int32) (κ : Nat → Nat) (W kd n : Nat) : Prop := ∀ t, t ≤ n → I (W + 2) t = nI (qfe κ kd t) ∧ ∀ wn, wn < κ 1 → I (W + 1) (t * 5 + wn) = nI (qwf κ kd t wn)
theorem WD.fr {W kd n : Nat} {rs : List Nat} {I' : Nat → Nat → Int32} (h : WD I κ W kd n) (hF : Fr rs I I') (h1 : W + 1 ∉ rs) (h2 : W + 2 ∉ rs) : WD I' κ W kd n := fun t ht => ⟨by rw [hF _ h2]; exact (h t ht).1, fun wn hw => by rw [hF _ h1]; exact (h t ht).2 wn hw⟩
theorem WD.le {W kd n m : Nat} (h : WD I κ W kd n) (hm : m ≤ n) : WD I κ W kd m := fun t ht => h t (Nat.le_trans ht hm)
theorem layOut_w {kd n : Nat} {L dl pl ld lp : Nat} (w : CF R S nx) (wL : R 14 0 = some L) (wl : LW R S nx L dl pl ld lp) (h : CK I κ L dl pl ld lp) (ho : qok hb pb κ) (hhb : hb < 2 ^ 29) {W : Nat} (wW : WW R S nx W) (ap : AP W 8 L dl pl) (hk : kd < 10) (hn : n ≤ 60) : Cal l G (k + 3) 0 0 mX10_layOut [.ref W, .int (nI kd), .int (nI n)] (I, J, R, S, nx) (fun r μ' => r = .inl none ∧ ∃ I', μ' = (I', J, R, S, nx) ∧ Fr [27, 28, 29, W + 1, W + 2] I I' ∧ CK I' κ L dl pl ld lp ∧ WD I' κ W kd n) := by
  have h54 : κ 54 ≤ hb := ho.2.2.2.2.2.2.2.2.2.2.1
  have h1w := ho.1
  have hW := ap.1
  have hac := qac_lt ho kd
  refine Cal.of rfl (by decide +kernel) (by simp) (Nat.le_of_ble_eq_true rfl) rfl (sX10_layOut_0 (u1 := nI (qac κ kd)) (P1 := fun I I' => I' = I) w wW (actsOf_c (k := k + 1) w wL wl h ho hhb hk) (fun I1 h1 => ?_))
  subst h1
  refine upto (W := fun i I3 => hX10_layOut_12 l G k _ W (nI n) (nI (qac κ kd)) (nI i) (I3, J, R, S, nx)) (P := fun i I3 => Fr [27, 28, 29, W + 1, W + 2] I1 I3 ∧ CK I3 κ L dl pl ld lp ∧ ∀ t, t < i → I3 (W + 2) t = nI (qfe κ kd t) ∧ ∀ wn, wn < κ 1 → I3 (W + 1) (t * 5 + wn) = nI (qwf κ kd t wn)) (n + 1) ?_ ?_ (i := 0) (Nat.zero_le _) ⟨Fr.rf, h, fun j hj => absurd hj (Nat.not_lt_zero _)⟩
  · intro I3 ⟨hF, hK, hD⟩
    have c1 : nI n < nI (n + 1) := nI_lt (by omega) (by omega)
    refine sX10_layOut_12 w wW ?_ ?_ ?_ ?_ <;> intros <;> (first | exact absurd (by with_reducible assumption) c1 | exact absurd c1 (by with_reducible assumption) | skip)
    exact ⟨rfl, _, rfl, hF, hK, fun t ht => hD t (by omega)⟩
  · intro i I3 hi ⟨hF, hK, hD⟩ ih
    have c1 : ¬ nI n < nI i := nI_nlt (by omega) (by omega)
    have c2 : ¬ Int32.ofNat 61 ≤ nI i := nI_ge (by omega) (by omega)
    refine sX10_layOut_12 w wW ?_ ?_ ?_ ?_ <;> intros <;> (first | exact absurd (by with_reducible assumption) c1 | exact absurd c1 (by with_reducible assumption) | exact absurd (by with_reducible assumption) c2 | exact absurd c2 (by with_reducible assumption) | skip)
    · exact vp_in_nI (by omega) (by decide)
    rw [hK.1.h.1, nI_add, nI_clamp (by omega)]
    obtain ⟨p, hp⟩ : ∃ p, (fun wn => decide (qwf κ kd i wn = 0)) = p := ⟨_, rfl⟩
    have hpi : ∀ wn, decide (qwf κ kd i wn = 0) = p wn := fun wn => congrFun hp wn
    refine upto (W := fun j I4 => hX10_layOut_53 l G k _ W (nI n) (nI (qac κ kd)) (nI i) (nI (κ 54 + i)) (nI j) (I4, J, R, S, nx)) (P := fun j I4 => Fr [27, 28, 29, W + 1, W + 2] I1 I4 ∧ CK I4 κ L dl pl ld lp ∧ (∀ t, t < i → I4 (W + 2) t = nI (qfe κ kd t) ∧ ∀ wn, wn < κ 1 → I4 (W + 1) (t * 5 + wn) = nI (qwf κ kd t wn)) ∧ I4 (W + 2) i = nI (bset p j) ∧ ∀ wn, wn < j → I4 (W + 1) (i * 5 + wn) = nI (qwf κ kd i wn)) (κ 1) ?_ ?_ (i := 0) (Nat.zero_le _) ⟨hF.up (by simp), hK.dy ap (by omega), fun t ht => ?_, by simp [up2]; rfl, fun wn hwn => absurd hwn (Nat.not_lt_zero _)⟩
    · intro I4 ⟨gF, gK, gD, g2, g1⟩
      have c3 : I4 L 1 ≤ nI (κ 1) := by rw [gK.2.1.1.2.1]; exact nI_le (Nat.le_refl _) (by omega)
      refine sX10_layOut_53 (u1 := 0) (u2 := 0) (u3 := 0) (P1 := fun _ _ => True) (P2 := fun _ _ => True) (P3 := fun _ _ => True) w wL wW wl ?_ ?_ ?_ ?_ ?_ ?_ ?_ ?_ ?_ <;> intros <;> (first | exact absurd (by with_reducible assumption) c3 | exact absurd c3 (by with_reducible assumption) | skip)
      rw [nI_1]
      refine ih I4 ⟨gF, gK, fun t ht => ?_⟩
      by_cases c : t = i
      · rw [c]; exact ⟨by rw [g2]; unfold qfe; rw [hp], g1⟩
      · exact gD t (by omega)
    · intro j I4 hj ⟨gF, gK, gD, g2, g1⟩ jh
      have c3 : ¬ I4 L 1 ≤ nI j := by rw [gK.2.1.1.2.1]; exact nI_ge hj (by omega)
      have hcl := qcd_lt ho kd j (κ 54 + i) 0
      have hwl : qwf κ kd i j ≤ 792 := qfin_le ho _
      have e5 : nI i * (5 : Int32) + nI j = nI (i * 5 + j) := by rw [show (5 : Int32) = nI 5 from rfl, pk_mul, nI_add]
      have hbl : bset p j < 2 ^ j := bset_lt p j
      have hbl2 : bset p j < 32 := Nat.lt_of_lt_of_le hbl (Nat.pow_le_pow_right (by decide) (by omega) : 2 ^ j ≤ 2 ^ 5)
      refine sX10_layOut_53 (u1 := nI (qdeg κ j (κ 54 + i))) (u2 := nI (qcd κ kd j (κ 54 + i) 0)) (u3 := nI (qwf κ kd i j)) (P1 := fun I I' => Fr [27, 28] I I' ∧ CK I' κ L dl pl ld lp) (P2 := fun I I' => Fr [27, 28, 29] I I' ∧ CK I' κ L dl pl ld lp) (P3 := fun I I' => I' = I) w wL wW wl ?_ ?_ ?_ ?_ ?_ ?_ ?_ ?_ ?_ <;> intros <;> (first | exact absurd (by with_reducible assumption) c3 | exact absurd c3 (by with_reducible assumption) | skip)
      · exact degreeIn_c (k := k) w wL wl gK ho hhb (by omega) (by omega)
      · rename_i I5 h5; rw [← qcd_ac0]
        exact inForce_c w wL wl h5.2 ho hhb (by omega) (by omega) (qdeg_le _ _ _) (by omega)
      · rename_i I5 h5 I6 h6
        exact finesOf_c wl h6.2.2.1 ho.2.1 (by omega)
      · rw [e5]; exact vp_in_nI (by omega) (by decide)
      · rename_i I5 h5 I6 h6 I7 h7 g0
        subst h7
        have h46 : Fr [27, 28, 29] I4 I7 := h5.1.tr h6.1 (by decide)
        have z1 : I7 (W + 1) = I4 (W + 1) := h46 _ (by simp; omega)
        have z2 : I7 (W + 2) = I4 (W + 2) := h46 _ (by simp; omega)
        rw [e5, nI_clamp (by omega), nI_1]
        have hpj : p j = false := by rw [← hpi]; exact decide_eq_false_iff_not.mpr (fun q => g0 (by rw [q]; rfl))
        refine jh _ ⟨(gF.tr (r3 := [27, 28, 29, W + 1, W + 2]) h46 (by simp)).up (by simp), h6.2.dy ap (by omega), fun t ht => ⟨?_, fun wn hwn => ?_⟩, ?_, fun wn hwn => ?_⟩
        · simp only [up2, if_neg (show ¬ W + 2 = W + 1 by omega)]; rw [z2]; exact (gD t ht).1
        · simp only [up2, if_true, if_neg (show ¬ t * 5 + wn = i * 5 + j by omega)]; rw [z1]; exact (gD t ht).2 wn hwn
        · simp only [up2, if_neg (show ¬ W + 2 = W + 1 by omega)]; rw [z2, g2, bset_s, hpj]; simp
        · by_cases c : wn = j
          · subst c; simp [up2]
          · simp only [up2, if_true, if_neg (show ¬ i * 5 + wn = i * 5 + j by omega)]; rw [z1]; exact g1 wn (by omega)
      · exact vp_in_nI (by omega) (by decide)
      · exact vp_in_nI (by omega) (by decide)
      · rename_i I5 h5 I6 h6 I7 h7 g0
        subst h7
        have h46 : Fr [27, 28, 29] I4 I7 := h5.1.tr h6.1 (by decide)
        have z1 : I7 (W + 1) = I4 (W + 1) := h46 _ (by simp; omega)
        have z2 : I7 (W + 2) = I4 (W + 2) := h46 _ (by simp; omega)
        have q0 := (nI_eq (b := 0) (by omega) (by decide)).mp g0
        have hpj : p j = true := by rw [← hpi]; exact decide_eq_true_eq.mpr q0
        rw [e5, nI_clamp (by omega), nI_clamp (by omega), nI_1, shl_n (by omega)]
        rw [show (up2 I7 (W + 1) (i * 5 + j) (nI (qwf κ kd i j))) (W + 2) i = nI (bset p j) by simp only [up2, if_neg (show ¬ W + 2 = W + 1 by omega)]; rw [z2, g2]]
        rw [fa_or, show bset p j ||| 2 ^ j = bset p (j + 1) by rw [bset_s, hpj]; rfl]
        refine jh _ ⟨((gF.tr (r3 := [27, 28, 29, W + 1, W + 2]) h46 (by simp)).up (by simp)).up (by simp), (h6.2.dy ap (by omega)).dy ap (by omega), fun t ht => ⟨?_, fun wn hwn => ?_⟩, ?_, fun wn hwn => ?_⟩
        · simp only [up2, if_true, if_neg (show ¬ t = i by omega), if_neg (show ¬ W + 2 = W + 1 by omega)]; rw [z2]; exact (gD t ht).1
        · simp only [up2, if_true, if_neg (show ¬ W + 1 = W + 2 by omega), if_neg (show ¬ t * 5 + wn = i * 5 + j by omega)]; rw [z1]; exact (gD t ht).2 wn hwn
        · simp [up2]
        · simp only [up2, if_neg (show ¬ W + 1 = W + 2 by omega)]
          by_cases c : wn = j
          · subst c; simp
          · simp only [if_true, if_neg (show ¬ i * 5 + wn = i * 5 + j by omega)]; rw [z1]; exact g1 wn (by omega)
    · have z := hD t ht
      refine ⟨?_, fun wn hwn => ?_⟩
      · simp only [up2, if_true, if_neg (show ¬ t = i by omega)]; exact z.1
      · simp only [up2, if_neg (show ¬ W + 1 = W + 2 by omega)]; exact z.2 wn hwn
/-- where one step leads -/
theorem step_nx {wn : Nat} (hw : wn < κ 1) : κ (61 + wn) ||| 2 ^ wn = qnx κ (2 ^ wn) := by
  apply Nat.eq_of_testBit_eq
  intro v
  rw [Bool.eq_iff_iff, qnx_bit, Nat.testBit_or, Bool.or_eq_true]
  constructor
  · rintro (g | g)
    · exact Or.inr ⟨wn, hw, two_bit.mpr rfl, g⟩
    · exact Or.inl g
  · rintro (g | ⟨u, _, g2, g3⟩)
    · exact Or.inr g
    · rw [two_bit.mp g2] at g3; exact Or.inl g3
def qcn (κ : Nat → Nat) (s : Nat) : Nat → Nat
  | 0 => 0
  | i + 1 => qcn κ s i ||| (if s.testBit i then κ (61 + i) ||| 2 ^ i else 0)
theorem qcn_s (κ : Nat → Nat) (s i : Nat) : qcn κ s (i + 1) = qcn κ s i ||| (if s.testBit i then κ (61 + i) ||| 2 ^ i else 0) := rfl
theorem qcn_bit (κ : Nat → Nat) (s v : Nat) : ∀ i, (qcn κ s i).testBit v = true ↔ ∃ u, u < i ∧ s.testBit u = true ∧ ((κ (61 + u)).testBit v = true ∨ v = u)
  | 0 => by
    show (Nat.testBit 0 v = true) ↔ _
    rw [Nat.zero_testBit]
    exact ⟨fun g => absurd g (by decide), fun ⟨u, g, _⟩ => absurd g (Nat.not_lt_zero _)⟩
  | i + 1 => by
    rw [qcn_s, Nat.testBit_or, Bool.or_eq_true, qcn_bit κ s v i]
    constructor
    · rintro (⟨u, g1, g2⟩ | g)
      · exact ⟨u, by omega, g2⟩
      · by_cases c : s.testBit i = true
        · rw [if_pos c, Nat.testBit_or, Bool.or_eq_true] at g
          exact ⟨i, by omega, c, g.imp id two_bit.mp⟩
        · rw [if_neg c, Nat.zero_testBit] at g; cases g
    · rintro ⟨u, g1, g2, g3⟩
      by_cases c : u = i
      · subst c
        rw [if_pos g2, Nat.testBit_or, Bool.or_eq_true]
        exact Or.inr (g3.imp id two_bit.mpr)
      · exact Or.inl ⟨u, by omega, g2, g3⟩
theorem qcn_nx {s : Nat} (hs : ∀ v, s.testBit v = true → v < κ 1) : qcn κ s (κ 1) = qnx κ s := by
  apply Nat.eq_of_testBit_eq
  intro v
  rw [Bool.eq_iff_iff, qnx_bit, qcn_bit]
  constructor
  · rintro ⟨u, g1, g2, g3 | g3⟩
    · exact Or.inr ⟨u, g1, g2, g3⟩
    · subst g3; exact Or.inl g2
  · rintro (g | ⟨u, g1, g2, g3⟩)
    · exact ⟨v, hs v g, g, Or.inr rfl⟩
    · exact ⟨u, g1, g2, Or.inl g3⟩
theorem stepFrom_w {W wn L dl pl ld lp : Nat} (w : CF R S nx) (wL : R 14 0 = some L) (wl : LW R S nx L dl pl ld lp) (wW : WW R S nx W) (h : CK I κ L dl pl ld lp) (hw : wn < 5) : Cal l G k 0 0 mX10_stepFrom [.ref W, .int (nI wn)] (I, J, R, S, nx) (fun r μ' => r = .inl (some (.int (nI (κ (61 + wn) ||| 2 ^ wn)))) ∧ ∃ I', μ' = (I', J, R, S, nx) ∧ I' = I) := by
  refine Cal.of rfl (by decide +kernel) (by simp) (Nat.le_of_ble_eq_true rfl) rfl (sX10_stepFrom_0 w wL wW wl (vp_in_nI hw (by decide)) ?_)
  refine ⟨?_, _, rfl, rfl⟩
  rw [nI_clamp (by omega), (h.2.1.2.1 wn hw).2, shl_n (by omega), fa_or]
theorem stepFromAll_w {W s L dl pl ld lp : Nat} (w : CF R S nx) (wL : R 14 0 = some L) (wl : LW R S nx L dl pl ld lp) (wW : WW R S nx W) (h : CK I κ L dl pl ld lp) (h1w : κ 1 ≤ 5) (hs : s < 32) (hv : ∀ v, s.testBit v = true → v < κ 1) : Cal l G (k + 1) 0 0 mX10_stepFromAll [.ref W, .int (nI s)] (I, J, R, S, nx) (fun r μ' => r = .inl (some (.int (nI (qnx κ s)))) ∧ ∃ I', μ' = (I', J, R, S, nx) ∧ I' = I) := by
  have e1 : I L 1 = nI (κ 1) := h.2.1.1.2.1
  rw [← qcn_nx hv]
  refine Cal.of rfl (by decide +kernel) (by simp) (Nat.le_of_ble_eq_true rfl) rfl (sX10_stepFromAll_0 wW ?_)
  refine upto (σ := Unit) (W := fun i _ => hX10_stepFromAll_4 l G k _ W (nI s) (nI (qcn κ s i)) (nI i) (I, J, R, S, nx)) (P := fun _ _ => True) (κ 1) ?_ ?_ (i := 0) (s := ()) (Nat.zero_le _) trivial
  · intro _ _
    have c1 : I L 1 ≤ nI (κ 1) := by rw [e1]; exact nI_le (Nat.le_refl _) (by omega)
    refine sX10_stepFromAll_4 (u1 := 0) (P1 := fun _ _ => True) w wL wW wl ?_ ?_ ?_ ?_ <;> intros <;> (first | exact absurd (by with_reducible assumption) c1 | exact absurd c1 (by with_reducible assumption) | skip)
    exact ⟨rfl, _, rfl, rfl⟩
  · intro i _ hi _ ih
    have c1 : ¬ I L 1 ≤ nI i := by rw [e1]; exact nI_ge hi (by omega)
    have eb := bit_n (s := s) (i := i) (by omega) (by omega)
    have hx := ih () trivial
    refine sX10_stepFromAll_4 (u1 := nI (κ (61 + i) ||| 2 ^ i)) (P1 := fun I I' => I' = I) w wL wW wl ?_ ?_ ?_ ?_ <;> intros <;> (first | exact absurd (by with_reducible assumption) c1 | exact absurd c1 (by with_reducible assumption) | skip)
    · rename_i g; rw [eb] at g
      rw [qcn_s, if_neg g, Nat.or_zero] at hx
      rw [nI_1]; exact hx
    · exact stepFrom_w w wL wl wW h (by omega)
    · rename_i g I1 h1; rw [eb, Decidable.not_not] at g
      subst h1
      rw [qcn_s, if_pos g] at hx
      rw [nI_1, fa_or]; exact hx
def clB (sh : Option Nat) : Nat := match sh with | none => 0 | some s => 2 ^ s
theorem shut_c {a : Nat} {sh : Option Nat} (ha : a < 32) (hs : ∀ s, sh = some s → s < 5) : nI a &&& (nI (clB sh) ^^^ (-1 : Int32)) = nI (qshut sh a) := by
  cases sh with
  | none =>
    show nI a &&& ((0 : Int32) ^^^ (-1 : Int32)) = nI a
    rw [show (0 : Int32) ^^^ (-1 : Int32) = -1 by decide]
    have : ∀ a, a < 32 → nI a &&& (-1 : Int32) = nI a := by decide +kernel
    exact this a ha
  | some s => exact nt_and (by omega) (Nat.pow_lt_pow_right (by decide) (by have := hs s rfl; omega : s < 8))
theorem qmay_0 {kd fr : Nat} {sh : Option Nat} (hs : ∀ s, sh = some s → s < 5 ∧ s ≠ fr) (hf : fr < 5) : qshut sh (2 ^ fr &&& qfe κ kd 0) = qmay κ kd fr sh 0 := by
  unfold qmay
  rw [Nat.and_comm]
  cases sh with
  | none => rfl
  | some s =>
    unfold qshut
    obtain ⟨h5, hne⟩ := hs s rfl
    refine nobit (Nat.and_lt_two_pow (n := 8) _ (Nat.pow_lt_pow_right (by decide) (by omega : fr < 8))) (by omega) ?_
    cases hc : (qfe κ kd 0 &&& 2 ^ fr).testBit s with
    | false => rfl
    | true => rw [Nat.testBit_and, Bool.and_eq_true] at hc; exact absurd (two_bit.mp hc.2) hne
theorem soonestFree_w {kd fr to : Nat} {sh : Option Nat} {L dl pl ld lp : Nat} (w : CF R S nx) (wL : R 14 0 = some L) (wl : LW R S nx L dl pl ld lp) (h : CK I κ L dl pl ld lp) (ho : qok hb pb κ) (hhb : hb < 2 ^ 29) {W : Nat} (wW : WW R S nx W) (ap : AP W 8 L dl pl) (hf : fr < κ 1) (ht : to < κ 1) (hs : ∀ s, sh = some s → s < 5 ∧ s ≠ fr) (hD : WD I κ W kd 60) : Cal l G (k + 2) 0 0 mX10_soonestFree [.ref W, .int (nI fr), .int (nI to), .int (nI (clB sh))] (I, J, R, S, nx) (fun r μ' => r = .inl (some (.int (jP (qway κ kd fr to sh)))) ∧ ∃ I', μ' = (I', J, R, S, nx) ∧ I' = I) := by
  have h1w := ho.1
  have hl0 : 2 ^ fr &&& qfe κ kd 0 < 32 := Nat.lt_of_le_of_lt Nat.and_le_right (qfe_lt ho kd 0)
  refine Cal.of rfl (by decide +kernel) (by simp) (Nat.le_of_ble_eq_true rfl) rfl (sX10_soonestFree_0 wW ?_)
  rw [shl_n (by omega), (hD 0 (by omega)).1, fa_and, shut_c hl0 (fun s e => (hs s e).1), qmay_0 hs (by omega)]
  unfold qway
  obtain ⟨m, hm⟩ : ∃ m, qmay κ kd fr sh = m := ⟨_, rfl⟩
  have hmi : ∀ t, qmay κ kd fr sh t = m t := fun t => congrFun hm t
  have hml : ∀ t, m t < 32 := fun t => by rw [← hmi]; exact qmay_lt ho kd fr sh t
  have hmb : ∀ t v, (m t).testBit v = true → v < κ 1 := fun t v g => by rw [← hmi] at g; exact qmay_bit g
  have hms : ∀ t, m (t + 1) = qshut sh (qnx κ (m t) &&& qfe κ kd (t + 1)) := fun t => by rw [← hmi, ← hmi]; rfl
  rw [hm]
  refine upto (W := fun i (r : Nat) => hX10_soonestFree_19 l G k _ W (nI to) (nI (clB sh)) (nI r) (nI i) (I, J, R, S, nx)) (P := fun i r => (i < 61 → r = m i) ∧ ∀ j, j < i → (fun t => (m t).testBit to) j = false) 61 ?_ ?_ (i := 0) (s := m 0) (Nat.zero_le _) ⟨fun _ => rfl, fun j hj => absurd hj (Nat.not_lt_zero _)⟩
  · intro r ⟨_, hn⟩
    have c1 : (60 : Int32) < nI 61 := by decide
    refine sX10_soonestFree_19 (u1 := 0) (P1 := fun _ _ => True) wW ?_ ?_ ?_ ?_ ?_ ?_ <;> intros <;> (first | exact absurd (by with_reducible assumption) c1 | exact absurd c1 (by with_reducible assumption) | skip)
    refine ⟨?_, _, rfl, rfl⟩
    unfold qfi; rw [first_no hn, if_neg (Nat.lt_irrefl _)]; rfl
  · intro i r hi ⟨er, hn⟩ ih
    have er := er hi
    subst er
    have c1 : ¬ (60 : Int32) < nI i := nI_nlt (b := i) (a := 60) (by omega) (by decide)
    have eb := bit_n (s := m i) (i := to) (by have := hml i; omega) (by omega)
    have el : ((60 : Int32) ≤ nI i) = (60 ≤ i) := propext (nI_leI (a := 60) (by decide) (by omega))
    have nx1 : ¬ (m i).testBit to = true → ∀ j, j < i + 1 → (fun t => (m t).testBit to) j = false := fun g j hj => by
      by_cases c : j = i
      · rw [c]; simpa using g
      · exact hn j (by omega)
    refine sX10_soonestFree_19 (u1 := nI (qnx κ (m i))) (P1 := fun I I' => I' = I) wW ?_ ?_ ?_ ?_ ?_ ?_ <;> intros <;> (first | exact absurd (by with_reducible assumption) c1 | exact absurd c1 (by with_reducible assumption) | skip)
    · rename_i g1 g2; rw [eb] at g1; rw [el] at g2
      rw [nI_1]; exact ih (m i) ⟨fun g => absurd g (by omega), nx1 g1⟩
    · exact stepFromAll_w w wL wl wW h h1w (hml i) (hmb i)
    · rename_i g1 g2 I1 h1; rw [el] at g2
      rw [nI_1]; exact vp_in_nI (by omega) (by decide)
    · rename_i g1 g2 I1 h1; rw [eb] at g1; rw [el] at g2
      subst h1
      have hlt : qnx κ (m i) &&& qfe κ kd (i + 1) < 32 := Nat.lt_of_le_of_lt Nat.and_le_right (qfe_lt ho kd (i + 1))
      rw [nI_1, nI_clamp (by omega), (hD (i + 1) (by omega)).1, fa_and, shut_c hlt (fun s e => (hs s e).1), ← hms]
      exact ih (m (i + 1)) ⟨fun _ => rfl, nx1 g1⟩
    · rename_i g; rw [eb, Decidable.not_not] at g
      refine ⟨?_, _, rfl, rfl⟩
      unfold qfi
      rw [first_eq (p := fun t => (m t).testBit to) hn hi g, if_pos hi]; rfl
def gcl (v : Nat) : Nat := if v = 536870912 then 61 else v
theorem bestGuard_w {kd fr to : Nat} {L dl pl ld lp : Nat} (w : CF R S nx) (wL : R 14 0 = some L) (wl : LW R S nx L dl pl ld lp) (h : CK I κ L dl pl ld lp) (ho : qok hb pb κ) (hhb : hb < 2 ^ 29) {W : Nat} (wW : WW R S nx W) (ap : AP W 8 L dl pl) (hf : fr < κ 1) (ht : to < κ 1) (hD : WD I κ W kd 60) : Cal l G (k + 3) 0 0 mX10_bestGuard [.ref W, .int (nI fr), .int (nI to)] (I, J, R, S, nx) (fun r μ' => r = .inl (some (.int (jP (qguard κ kd fr to)))) ∧ ∃ I', μ' = (I', J, R, S, nx) ∧ I' = I) := by
  have h1w := ho.1
  have e1 : I L 1 = nI (κ 1) := h.2.1.1.2.1
  refine Cal.of rfl (by decide +kernel) (by simp) (Nat.le_of_ble_eq_true rfl) rfl (sX10_bestGuard_0 (u1 := jP (qway κ kd fr to none)) (P1 := fun I I' => I' = I) wW (soonestFree_w (sh := none) w wL wl h ho hhb wW ap hf ht (fun s e => by cases e) hD) ?_ ?_)
  · intro I1 h1 g
    subst h1
    unfold qguard
    cases hq : qway κ kd fr to none with
    | none => rw [hq] at g; exact absurd rfl g
    | some n0 =>
      have hn0 := (qfi_le hq).1
      dsimp only
      obtain ⟨s, hs⟩ : ∃ s, (fun w => qway κ kd fr to (some w)) = s := ⟨_, rfl⟩
      have hsi : ∀ w, qway κ kd fr to (some w) = s w := fun w => congrFun hs w
      have hsl : ∀ i n, s i = some n → n < 61 := fun i n e => by rw [← hsi] at e; exact (qfi_le e).1
      rw [hs]
      -- what is latest so far
      have hgl : ∀ i, (qgd s fr to n0 i).1 < 61 ∨ (qgd s fr to n0 i).1 = 536870912 := by
        intro i
        induction i with
        | zero => exact Or.inl hn0
        | succ i ih =>
          rw [qgd_s]
          split
          · exact ih
          · split
            · cases hc : s i with
              | none => exact Or.inr rfl
              | some n => exact Or.inl (hsl i n hc)
            · exact ih
      refine upto (W := fun i (q : Nat × Option Nat) => hX10_bestGuard_21 l G k _ W (nI fr) (nI to) (nI (gcl q.1)) (jP q.2) (nI i) (I1, J, R, S, nx)) (P := fun i q => q = qgd s fr to n0 i) (κ 1) ?_ ?_ (i := 0) (s := (n0, none)) (Nat.zero_le _) rfl |> fun z => by
        rw [show gcl n0 = n0 by unfold gcl; rw [if_neg (by omega)]] at z; exact z
      · intro q hq
        have c1 : I1 L 1 ≤ nI (κ 1) := by rw [e1]; exact nI_le (Nat.le_refl _) (by omega)
        refine sX10_bestGuard_21 (u1 := 0) (P1 := fun _ _ => True) w wL wW wl ?_ ?_ ?_ ?_ ?_ ?_ <;> intros <;> (first | exact absurd (by with_reducible assumption) c1 | exact absurd c1 (by with_reducible assumption) | skip)
        exact ⟨by rw [hq], _, rfl, rfl⟩
      · intro i q hi hq ih
        have c1 : ¬ I1 L 1 ≤ nI i := by rw [e1]; exact nI_ge hi (by omega)
        have ef : (nI i = nI fr) = (i = fr) := propext (nI_eq (by omega) (by omega))
        have et : (nI i = nI to) = (i = to) := propext (nI_eq (by omega) (by omega))
        have gl := hgl i
        rw [← hq] at gl
        have gb : gcl q.1 ≤ 61 := by unfold gcl; split <;> omega
        have go : ∀ v, v = gcl ((s i).getD 536870912) → ¬ (i = fr ∨ i = to) → hX10_bestGuard_73 l G k (fun r μ' => r = .inl (some (.int (jP (qgd s fr to n0 (κ 1)).2))) ∧ ∃ I', μ' = (I', J, R, S, nx) ∧ I' = I1) W (nI fr) (nI to) (nI (gcl q.1)) (jP q.2) (nI i) (nI v) (I1, J, R, S, nx) := by
          intro v ev ne
          have vl : (s i).getD 536870912 < 61 ∨ (s i).getD 536870912 = 536870912 := by
            cases hc : s i with
            | none => exact Or.inr rfl
            | some n => exact Or.inl (hsl i n hc)
          have vb : v ≤ 61 := by rw [ev]; unfold gcl; split <;> omega
          have ele : (nI v ≤ nI (gcl q.1)) = (v ≤ gcl q.1) := propext (nI_leI (by omega) (by omega))
          have cmp : (q.1 < (s i).getD 536870912) ↔ ¬ v ≤ gcl q.1 := by
            rw [ev]; unfold gcl; split <;> split <;> omega
          refine sX10_bestGuard_73 wW ?_ ?_
          · intro g; rw [ele] at g
            rw [nI_1]; exact ih q (by rw [qgd_s, if_neg ne, ← hq, if_neg (by rw [cmp]; exact fun z => z g)])
          · intro g; rw [ele] at g
            rw [nI_1, ev]; exact ih ((s i).getD 536870912, some i) (by rw [qgd_s, if_neg ne, ← hq, if_pos (cmp.mpr g)])
        refine sX10_bestGuard_21 (u1 := jP (s i)) (P1 := fun I I' => I' = I) w wL wW wl ?_ ?_ ?_ ?_ ?_ ?_ <;> intros <;> (first | exact absurd (by with_reducible assumption) c1 | exact absurd c1 (by with_reducible assumption) | skip)
        · rename_i g; rw [ef] at g
          rw [nI_1]; exact ih q (by rw [qgd_s, if_pos (Or.inl g)]; exact hq)
        · rename_i g; rw [et] at g
          rw [nI_1]; exact ih q (by rw [qgd_s, if_pos (Or.inr g)]; exact hq)
        · rename_i g1 g2; rw [ef] at g1
          rw [← hsi, shl_n (by omega)]
          exact soonestFree_w (sh := some i) w wL wl h ho hhb wW ap hf ht (fun s e => by cases e; exact ⟨by omega, g1⟩) hD
        · rename_i g1 g2 I2 h2 g3; rw [ef] at g1; rw [et] at g2
          subst h2
          cases hc : s i with
          | none => rw [hc] at g3; exact absurd rfl g3
          | some n => exact go n (by rw [hc]; unfold gcl; have := hsl i n hc; rw [if_neg (by show ¬ n = _; omega)]; rfl) (by omega)
        · rename_i g1 g2 I2 h2 g3; rw [ef] at g1; rw [et] at g2
          subst h2
          cases hc : s i with
          | none => exact go 61 (by rw [hc]; rfl) (by omega)
          | some n => rw [hc] at g3; exact absurd g3 (jP_m1 (by have := hsl i n hc; omega))
  · intro I1 h1 g
    subst h1
    refine ⟨?_, _, rfl, rfl⟩
    unfold qguard
    cases hq : qway κ kd fr to none with
    | none => rfl
    | some n => rw [hq] at g; exact absurd g (jP_m1 (by have := (qfi_le hq).1; omega))
end A
