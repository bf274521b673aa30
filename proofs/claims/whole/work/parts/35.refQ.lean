/-! the reference: fire, acts -/
theorem nt_n : ∀ m, m < 256 → nI 255 &&& (nI m ^^^ (-1 : Int32)) = nI (255 ^^^ m) := by decide +kernel
theorem nt_and {s m : Nat} (hs : s < 256) (hm : m < 256) : nI s &&& (nI m ^^^ (-1 : Int32)) = nI (s &&& (255 ^^^ m)) := by
  have h1 : nI s = nI s &&& nI 255 := by rw [fa_and, show 255 = 2 ^ 8 - 1 from rfl, Nat.and_two_pow_sub_one_of_lt_two_pow hs]
  rw [h1, Int32.and_assoc, nt_n m hm, fa_and]
theorem nt_0 {s m : Nat} (hs : s < 256) (hm : m < 256) : (s &&& (255 ^^^ m) = 0 ↔ s &&& m = s) := by
  constructor
  · intro h
    apply Nat.eq_of_testBit_eq
    intro i
    have h1 := congrArg (fun x => Nat.testBit x i) h
    simp only [Nat.testBit_and, Nat.testBit_xor, Nat.zero_testBit] at h1 ⊢
    by_cases c : i < 8
    · have : (255 : Nat).testBit i = true := by
        have : ∀ i, i < 8 → (255 : Nat).testBit i = true := by decide
        exact this i c
      rw [this] at h1
      revert h1
      cases s.testBit i <;> cases m.testBit i <;> simp
    · rw [Nat.testBit_lt_two_pow (Nat.lt_of_lt_of_le hs (Nat.pow_le_pow_right (by decide) (by omega) : 2 ^ 8 ≤ 2 ^ i))]; simp
  · intro h
    apply Nat.eq_of_testBit_eq
    intro i
    have h1 := congrArg (fun x => Nat.testBit x i) h
    simp only [Nat.testBit_and, Nat.testBit_xor, Nat.zero_testBit] at h1 ⊢
    by_cases c : i < 8
    · have : (255 : Nat).testBit i = true := by
        have : ∀ i, i < 8 → (255 : Nat).testBit i = true := by decide
        exact this i c
      rw [this]
      revert h1
      cases s.testBit i <;> cases m.testBit i <;> simp
    · rw [Nat.testBit_lt_two_pow (Nat.lt_of_lt_of_le hs (Nat.pow_le_pow_right (by decide) (by omega) : 2 ^ 8 ≤ 2 ^ i))]; simp
theorem not_in {s m : Nat} (hs : s < 256) (hm : m < 256) : (nI s &&& (nI m ^^^ (-1 : Int32)) = 0) ↔ s &&& m = s := by
  rw [nt_and hs hm, ← nt_0 hs hm]
  have : s &&& (255 ^^^ m) < 256 := Nat.lt_of_le_of_lt Nat.and_le_left hs
  exact nI_eq (b := 0) (by omega) (by decide)
section A
variable {l : Launch} {G : Gh} {k : Nat} {I : Nat → Nat → Int32} {J : Nat → Nat → Int64} {R : Nat → Nat → Option Nat} {S : Nat → Nat × Nat} {nx : Nat} {κ : Nat → Nat} {hb pb : Nat}
/-- free, so many hours ahead, so much warmer -/
def qfw (κ : Nat → Nat) (kd wn : Nat) (wm : Int) : Nat → Bool := fun j => decide (qcd κ kd wn (κ 54 + j) wm = 0)
theorem isLawfulBy_r {kd wn n ls N : Nat} {wm : Int} (w : MW R S nx) (hK : Kn I κ) (ho : qok hb pb κ) (hhb : hb < 2 ^ 29) (hkd : kd < 2 ^ 31) (hn : n + qms κ ls ≤ N) (hls : n + ls < 2 ^ 20) (hN : N ≤ 1024) (hwm : -100 ≤ wm ∧ wm ≤ 100) (hC : laidC I κ wn (qall κ)) (hD : laidD I κ wn (κ 54) N) :
    Cal l G (k + 2) 0 0 mX12_isLawfulBy [.ref 43, .int (nI kd), .int (nI n), .int (nI ls), .int (zI wm)] (I, J, R, S, nx) (fun r μ' => r = .inl (some (.int (if qfree (qfw κ kd wn wm) n (qms κ ls) then 1 else 0))) ∧ ∃ I', μ' = (I', J, R, S, nx) ∧ I' = I) := by
  have h54 : κ 54 ≤ hb := ho.2.2.2.2.2.2.2.2.2.2.1
  refine Cal.of rfl (by decide +kernel) (by simp) (Nat.le_of_ble_eq_true rfl) rfl (sX12_isLawfulBy_0 (u1 := nI (qkind κ kd)) (P1 := fun I I' => I' = I) w (r_ofKind w hK ho hkd).eqI (fun I1 h => ?_))
  subst h
  have hm := ms_n (n := 0) (ls := 0) hK ho
  refine upto (σ := Unit) (W := fun i _ => hX12_isLawfulBy_10 l G k _ (nI n) (nI ls) (zI wm) (nI (qkind κ kd)) (nI (n + i)) (I1, J, R, S, nx)) (P := fun i _ => ∀ j, j < i → qfw κ kd wn wm (n + j) = true) (qms κ ls) ?_ ?_ (i := 0) (s := ()) (Nat.zero_le _) (fun j hj => absurd hj (Nat.not_lt_zero j))
  · intro _ hp2
    have e1 : qfree (qfw κ kd wn wm) n (qms κ ls) = true := qfree_iff.mpr hp2
    rw [e1]
    by_cases h6 : κ 6 = 1
    · have c1 : I1 44 6 = (1 : Int32) := hm.mpr h6
      have c2 : nI n + nI ls ≤ nI (n + qms κ ls) := by rw [nI_add, show qms κ ls = ls by simp [qms, h6]]; exact nI_le (by omega) (by omega)
      refine sX12_isLawfulBy_10 w ?_ ?_ ?_ ?_ ?_ ?_ ?_ ?_ ?_ ?_ <;> intros <;> (first | exact absurd (by with_reducible assumption) c1 | exact absurd c1 (by with_reducible assumption) | exact absurd (by with_reducible assumption) c2 | exact absurd c2 (by with_reducible assumption) | skip)
      exact ⟨rfl, _, rfl, rfl⟩
    · have c1 : ¬ I1 44 6 = (1 : Int32) := fun h => h6 (hm.mp h)
      have c2 : nI n + (1 : Int32) ≤ nI (n + qms κ ls) := by rw [nI_1, show qms κ ls = 1 by simp [qms, h6]]; exact nI_le (by omega) (by omega)
      refine sX12_isLawfulBy_10 w ?_ ?_ ?_ ?_ ?_ ?_ ?_ ?_ ?_ ?_ <;> intros <;> (first | exact absurd (by with_reducible assumption) c1 | exact absurd c1 (by with_reducible assumption) | exact absurd (by with_reducible assumption) c2 | exact absurd c2 (by with_reducible assumption) | skip)
      exact ⟨rfl, _, rfl, rfl⟩
  · intro i _ hi hp2 ih
    have hq := qdeg_le κ wn (κ 54 + (n + i))
    have hk := qkept_le ((qdeg κ wn (κ 54 + (n + i)) : Int) + wm)
    have e1 : v_X12_kept (I1 52 (nI (n + i)).toNatClampNeg + zI wm) = nI (qkept ((qdeg κ wn (κ 54 + (n + i)) : Int) + wm)) := by
      rw [nI_clamp (by omega), hD (n + i) (by omega), nI_z, zI_add, kept_z (by omega)]
    obtain ⟨q1, q2⟩ := cod_at (n := n + i) (c := qkept ((qdeg κ wn (κ 54 + (n + i)) : Int) + wm)) hK hC (by omega) (by omega)
    have e3 : I1 51 ((100 : Int32) * ((I1 44 54 + nI (n + i)) - (I1 44 54 + nI (n + i)) / (24 : Int32) * (24 : Int32)) + v_X12_kept (I1 52 (nI (n + i)).toNatClampNeg + zI wm)).toNatClampNeg &&& nI (qkind κ kd) = nI (qcd κ kd wn (κ 54 + (n + i)) wm) := by
      rw [e1, q2, fa_and]; rfl
    have hlt2 := qcd_lt ho kd wn (κ 54 + (n + i)) wm
    have f1 : nI (qcd κ kd wn (κ 54 + (n + i)) wm) = 0 → ∀ j, j < i + 1 → qfw κ kd wn wm (n + j) = true := by
      intro h0 j hj
      have hz := (nI_eq (b := 0) (by omega) (by decide)).mp h0
      by_cases hji : j = i
      · rw [hji]; unfold qfw; simp [hz]
      · exact hp2 j (by omega)
    have f2 : ¬ nI (qcd κ kd wn (κ 54 + (n + i)) wm) = 0 → qfree (qfw κ kd wn wm) n (qms κ ls) = false := by
      intro h0
      have hpi : ¬ qfw κ kd wn wm (n + i) = true := fun hc => h0 (by unfold qfw at hc; rw [of_decide_eq_true hc]; rfl)
      cases hq : qfree (qfw κ kd wn wm) n (qms κ ls) with
      | false => rfl
      | true => exact absurd (qfree_iff.mp hq i hi) hpi
    by_cases h6 : κ 6 = 1
    · have c1 : I1 44 6 = (1 : Int32) := hm.mpr h6
      have c2 : ¬ nI n + nI ls ≤ nI (n + i) := by rw [show qms κ ls = ls by simp [qms, h6]] at hi; rw [nI_add]; exact nI_ge (by omega) (by omega)
      refine sX12_isLawfulBy_10 w ?_ ?_ ?_ ?_ ?_ ?_ ?_ ?_ ?_ ?_ <;> intros <;> (first | exact absurd (by with_reducible assumption) c1 | exact absurd c1 (by with_reducible assumption) | exact absurd (by with_reducible assumption) c2 | exact absurd c2 (by with_reducible assumption) | skip)
      · exact vp_in_nI (by omega) (by decide)
      · rw [e1]; exact q1
      · rename_i h; rw [e3] at h; rw [nI_1]; exact ih () (f1 h)
      · rename_i h; rw [e3] at h; exact ⟨by rw [f2 h]; rfl, _, rfl, rfl⟩
    · have c1 : ¬ I1 44 6 = (1 : Int32) := fun h => h6 (hm.mp h)
      have c2 : ¬ nI n + (1 : Int32) ≤ nI (n + i) := by rw [show qms κ ls = 1 by simp [qms, h6]] at hi; rw [nI_1]; exact nI_ge (by omega) (by omega)
      refine sX12_isLawfulBy_10 w ?_ ?_ ?_ ?_ ?_ ?_ ?_ ?_ ?_ ?_ <;> intros <;> (first | exact absurd (by with_reducible assumption) c1 | exact absurd c1 (by with_reducible assumption) | exact absurd (by with_reducible assumption) c2 | exact absurd c2 (by with_reducible assumption) | skip)
      · exact vp_in_nI (by omega) (by decide)
      · rw [e1]; exact q1
      · rename_i h; rw [e3] at h; rw [nI_1]; exact ih () (f1 h)
      · rename_i h; rw [e3] at h; exact ⟨by rw [f2 h]; rfl, _, rfl, rfl⟩
/-- lawful, so much warmer -/
def qlb (κ : Nat → Nat) (kd wn n c : Nat) (wm : Int) : Bool := qfree (qfw κ kd wn wm) n c
def qhd (κ : Nat → Nat) (kd wn n c : Nat) : Nat := fa_first (fun d => qlb κ kd wn n c (d : Int) || qlb κ kd wn n c (-(d : Int))) 61
def qheat (κ : Nat → Nat) (kd wn n c : Nat) : Int := if qhd κ kd wn n c < 61 then (if qlb κ kd wn n c (qhd κ kd wn n c : Int) then (qhd κ kd wn n c : Int) else -(qhd κ kd wn n c : Int)) else 99
theorem heatOf_r {kd wn n ls N : Nat} (w : MW R S nx) (hK : Kn I κ) (ho : qok hb pb κ) (hhb : hb < 2 ^ 29) (hkd : kd < 2 ^ 31) (hn : n + qms κ ls ≤ N) (hls : n + ls < 2 ^ 20) (hN : N ≤ 1024) (hC : laidC I κ wn (qall κ)) (hD : laidD I κ wn (κ 54) N) :
    Cal l G (k + 3) 0 0 mX12_heatOf [.ref 43, .int (nI kd), .int (nI n), .int (nI ls)] (I, J, R, S, nx) (fun r μ' => r = .inl (some (.int (zI (qheat κ kd wn n (qms κ ls))))) ∧ ∃ I', μ' = (I', J, R, S, nx) ∧ I' = I) := by
  refine Cal.of rfl (by decide +kernel) (by simp) (Nat.le_of_ble_eq_true rfl) rfl (sX12_heatOf_0 ?_)
  refine upto (σ := Unit) (W := fun i _ => hX12_heatOf_3 l G k _ (nI kd) (nI n) (nI ls) (nI i) (I, J, R, S, nx)) (P := fun i _ => ∀ j, j < i → (fun d : Nat => qlb κ kd wn n (qms κ ls) (d : Int) || qlb κ kd wn n (qms κ ls) (-(d : Int))) j = false) 61 ?_ ?_ (i := 0) (s := ()) (Nat.zero_le _) (fun j hj => absurd hj (Nat.not_lt_zero j))
  · intro _ h
    have c1 : (60 : Int32) < nI 61 := by decide
    refine sX12_heatOf_3 (u1 := 0) (u2 := 0) (P1 := fun _ _ => True) (P2 := fun _ _ => True) w ?_ ?_ ?_ ?_ ?_ ?_ <;> intros <;> (first | exact absurd (by with_reducible assumption) c1 | exact absurd c1 (by with_reducible assumption) | skip)
    refine ⟨?_, _, rfl, rfl⟩
    have e : qhd κ kd wn n (qms κ ls) = 61 := first_no h
    unfold qheat; rw [e]; rfl
  · intro i _ hi h ih
    have c1 : ¬ (60 : Int32) < nI i := nI_nlt (b := i) (a := 60) (by omega) (by decide)
    have en : -nI i = zI (-(i : Int)) := by
      rw [nI_z]; unfold zI; exact (Int32.ofInt_neg _).symm
    refine sX12_heatOf_3 (u1 := if qlb κ kd wn n (qms κ ls) (i : Int) then 1 else 0) (u2 := if qlb κ kd wn n (qms κ ls) (-(i : Int)) then 1 else 0) (P1 := fun I I' => I' = I) (P2 := fun I I' => I' = I) w ?_ ?_ ?_ ?_ ?_ ?_ <;> intros <;> (first | exact absurd (by with_reducible assumption) c1 | exact absurd c1 (by with_reducible assumption) | skip)
    · exact isLawfulBy_r (wm := (i : Int)) w hK ho hhb hkd hn hls hN (by omega) hC hD
    · rename_i I1 h1 _
      subst h1
      rw [en]
      exact isLawfulBy_r (wm := -(i : Int)) w hK ho hhb hkd hn hls hN (by omega) hC hD
    · rename_i I1 h1 u1 I2 h2 u2
      subst h1; subst h2
      rw [ifI] at u1 u2
      rw [nI_1]
      refine ih () (fun j hj => ?_)
      by_cases c : j = i
      · rw [c]; simp [u1, u2]
      · exact h j (by omega)
    · rename_i I1 h1 u1 I2 h2 u2
      subst h1; subst h2
      rw [ifI] at u1
      rw [ifI, Decidable.not_not] at u2
      have e : qhd κ kd wn n (qms κ ls) = i := first_eq h hi (by simp [u2])
      refine ⟨?_, _, rfl, rfl⟩
      unfold qheat; rw [e, if_pos hi, if_neg u1, en]
    · rename_i I1 h1 u1
      subst h1
      rw [ifI, Decidable.not_not] at u1
      have e : qhd κ kd wn n (qms κ ls) = i := first_eq h hi (by simp [u1])
      refine ⟨?_, _, rfl, rfl⟩
      unfold qheat; rw [e, if_pos hi, if_pos u1]; rfl
theorem lays2 {b n : Nat} {I0 I1 I2 : Nat → Nat → Int32} (h1 : Fr [49, 50, 51] I0 I1 ∧ laidC I1 κ b (qall κ)) (h2 : Fr [49, 50, 52] I1 I2 ∧ laidD I2 κ b (κ 54) n) : Fr [49, 50, 51, 52] I0 I2 ∧ laidC I2 κ b (qall κ) ∧ laidD I2 κ b (κ 54) n :=
  ⟨h1.1.tr h2.1 (by decide), fun hr dg a c => by rw [h2.1 51 (by decide)]; exact h1.2 hr dg a c, h2.2⟩
def aHeat (κ : Nat → Nat) (x1 x2 x3 x4 : Int32) : Nat × Int32 := if gD κ x1 x2 x3 x4 = 0 then (0, zI (qheat κ (cN x1) (cN x2) (cN x3) (qms κ (cN x4)))) else (gD κ x1 x2 x3 x4, 0)
theorem heat_r {x1 x2 x3 x4 : Int32} (w : MW R S nx) (hK : Kn I κ) (ho : qok hb pb κ) (hhb : hb < 2 ^ 29) : Cal l G (k + 6) 0 0 mX12_heat [.ref 43, .int x1, .int x2, .int x3, .int x4] (I, J, R, S, nx) (fun r μ' => r = .inl (some (.int ((aHeat κ x1 x2 x3 x4).2))) ∧ ∃ I', μ' = (I', J, R, S, nx) ∧ PU (aHeat κ x1 x2 x3 x4).1 κ I I') := by
  have h54 : κ 54 ≤ hb := ho.2.2.2.2.2.2.2.2.2.2.1
  obtain ⟨o1, o2⟩ := out_n (x1 := x1) (x2 := x2) (x3 := x3) (x4 := x4) hK ho
  by_cases g : gD κ x1 x2 x3 x4 = 0
  · rw [show aHeat κ x1 x2 x3 x4 = (0, zI (qheat κ (cN x1) (cN x2) (cN x3) (qms κ (cN x4)))) by unfold aHeat; rw [if_pos g]]
    dsimp only
    rw [if_pos g] at o1
    rw [g] at o2
    obtain ⟨a, b, c, d, rfl, rfl, rfl, rfl, ha, hb1, hb2, hc, hd1, hd, ea, eb, ec, ed⟩ := gD0 ho g
    rw [ea, eb, ec, ed]
    have hm := qms_le (κ := κ) hd1
    refine Cal.of rfl (by decide +kernel) (by simp) (Nat.le_of_ble_eq_true rfl) rfl (sX12_heat_0 (u3 := zI (qheat κ a b c (qms κ d))) (P1 := fun I I' => Fr [49, 50, 51] I I' ∧ laidC I' κ b (qall κ)) (P2 := fun I I' => Fr [49, 50, 52] I I' ∧ laidD I' κ b (κ 54) (c + d)) (P3 := fun I I' => I' = I) w ?_ ?_ ?_ ?_ ?_) <;> intros <;> (first | exact absurd (by with_reducible assumption) o1 | exact absurd o1 (by with_reducible assumption) | skip)
    · rw [o2, all_n hK.up4 ho]; exact laysCodes_r w hK.up4 ho hb2 (Nat.lt_trans (qall_lt ho) (by decide))
    · rename_i I1 h1
      rw [o2] at h1
      have hK1 := hK.up4.fr h1.1 (by decide)
      rw [hK1.h (by decide), nI_add]
      exact laysDegrees_r (n := c + d) w hK1 ho hhb hb2 (by omega) (by omega)
    · rename_i I1 h1 I2 h2
      rw [o2] at h1
      obtain ⟨hF, hC, hD⟩ := lays2 h1 h2
      exact heatOf_r w (hK.up4.fr hF (by decide)) ho hhb (by omega) (by omega) (by omega) (N := c + d) (by omega) hC hD
    · rename_i I1 h1 I2 h2 I3 h3
      rw [o2] at h1
      subst h3
      obtain ⟨hF, _, _⟩ := lays2 h1 h2
      exact ⟨rfl, _, rfl, PU.ok rfl hF (by decide) (by decide) (hK.up4.fr hF (by decide))⟩
  · rw [show aHeat κ x1 x2 x3 x4 = (gD κ x1 x2 x3 x4, 0) by unfold aHeat; rw [if_neg g]]
    rw [if_neg g] at o1
    have o3 : ¬ v_X12_isDeedOut I x1 x2 x3 x4 = 0 := by rw [o1]; decide
    refine Cal.of rfl (by decide +kernel) (by simp) (Nat.le_of_ble_eq_true rfl) rfl (sX12_heat_0 (u3 := 0) (P1 := fun I I' => True) (P2 := fun I I' => True) (P3 := fun I I' => True) w ?_ ?_ ?_ ?_ ?_) <;> intros <;> (first | exact absurd (by with_reducible assumption) o3 | exact absurd o3 (by with_reducible assumption) | skip)
    rw [o2]
    exact ⟨rfl, _, rfl, PU.fail hK rfl⟩
/-- the first hour that takes the least -/
def qlh (h : Nat → Int) : Nat → Option Nat × Nat
  | 0 => (none, 99)
  | i + 1 => if (h i).natAbs < (qlh h i).2 then (some i, (h i).natAbs) else qlh h i
theorem qlh_s (h : Nat → Int) (i : Nat) : qlh h (i + 1) = if (h i).natAbs < (qlh h i).2 then (some i, (h i).natAbs) else qlh h i := rfl
theorem qlh_le (h : Nat → Int) : ∀ i, (qlh h i).2 ≤ 99
  | 0 => Nat.le_refl _
  | i + 1 => by
    rw [qlh_s]
    have := qlh_le h i
    split
    · show (h i).natAbs ≤ 99; omega
    · exact this
theorem qheat_b (κ : Nat → Nat) (kd wn n c : Nat) : -99 ≤ qheat κ kd wn n c ∧ qheat κ kd wn n c ≤ 99 := by
  unfold qheat
  split
  · split <;> omega
  · omega
def aLeast (κ : Nat → Nat) (x1 x2 x3 : Int32) : Nat × Int32 := if gD κ x1 x2 0 x3 = 0 then (0, jP (qlh (fun n => qheat κ (cN x1) (cN x2) n (qms κ (cN x3))) 201).1) else (gD κ x1 x2 0 x3, 0)
theorem leastHeat_r {x1 x2 x3 : Int32} (w : MW R S nx) (hK : Kn I κ) (ho : qok hb pb κ) (hhb : hb < 2 ^ 29) : Cal l G (k + 6) 0 0 mX12_leastHeat [.ref 43, .int x1, .int x2, .int x3] (I, J, R, S, nx) (fun r μ' => r = .inl (some (.int ((aLeast κ x1 x2 x3).2))) ∧ ∃ I', μ' = (I', J, R, S, nx) ∧ PU (aLeast κ x1 x2 x3).1 κ I I') := by
  have h54 : κ 54 ≤ hb := ho.2.2.2.2.2.2.2.2.2.2.1
  obtain ⟨o1, o2⟩ := out_n (x1 := x1) (x2 := x2) (x3 := 0) (x4 := x3) hK ho
  by_cases g : gD κ x1 x2 0 x3 = 0
  · rw [show aLeast κ x1 x2 x3 = (0, jP (qlh (fun n => qheat κ (cN x1) (cN x2) n (qms κ (cN x3))) 201).1) by unfold aLeast; rw [if_pos g]]
    dsimp only
    rw [if_pos g] at o1
    rw [g] at o2
    obtain ⟨a, b, c, d, rfl, rfl, _, rfl, ha, hb1, hb2, hc, hd1, hd, ea, eb, ec, ed⟩ := gD0 ho g
    rw [ea, eb, ed]
    have hm := qms_le (κ := κ) hd1
    obtain ⟨f, hf⟩ : ∃ f : Nat → Int, (fun n => qheat κ a b n (qms κ d)) = f := ⟨_, rfl⟩
    have hfi : ∀ i, qheat κ a b i (qms κ d) = f i := fun i => congrFun hf i
    rw [hf]
    refine Cal.of rfl (by decide +kernel) (by simp) (Nat.le_of_ble_eq_true rfl) rfl (sX12_leastHeat_0 (P1 := fun I I' => Fr [49, 50, 51] I I' ∧ laidC I' κ b (qall κ)) (P2 := fun I I' => Fr [49, 50, 52] I I' ∧ laidD I' κ b (κ 54) 224) w ?_ ?_ ?_ ?_) <;> intros <;> (first | exact absurd (by with_reducible assumption) o1 | exact absurd o1 (by with_reducible assumption) | skip)
    · rw [o2, all_n hK.up4 ho]; exact laysCodes_r w hK.up4 ho hb2 (Nat.lt_trans (qall_lt ho) (by decide))
    · rename_i I1 h1
      rw [o2] at h1
      have hK1 := hK.up4.fr h1.1 (by decide)
      rw [hK1.h (by decide)]
      exact laysDegrees_r (n := 224) w hK1 ho hhb hb2 (by omega) (by omega)
    · rename_i I1 h1 I2 h2
      rw [o2] at h1
      obtain ⟨hF, hC, hD⟩ := lays2 h1 h2
      have hK2 := hK.up4.fr hF (by decide)
      refine upto (W := fun i (s : Option Nat × Nat) => hX12_leastHeat_47 l G k _ (nI a) (nI d) (jP s.1) (nI s.2) (nI i) (I2, J, R, S, nx)) (P := fun i s => s = qlh f i) 201 ?_ ?_ (i := 0) (s := (none, 99)) (Nat.zero_le _) rfl
      · intro s hs
        have c1 : (200 : Int32) < nI 201 := by decide
        refine sX12_leastHeat_47 (u1 := 0) (P1 := fun _ _ => True) w ?_ ?_ ?_ ?_ <;> intros <;> (first | exact absurd (by with_reducible assumption) c1 | exact absurd c1 (by with_reducible assumption) | skip)
        exact ⟨by rw [hs], _, rfl, PU.ok rfl hF (by decide) (by decide) hK2⟩
      · intro i s hi hs ih
        have c1 : ¬ (200 : Int32) < nI i := nI_nlt (b := i) (a := 200) (by omega) (by decide)
        have hqb := qheat_b κ a b i (qms κ d)
        rw [hfi] at hqb
        have hle := qlh_le f i
        rw [← hs] at hle
        have eabs : (if 0 ≤ zI (f i) then zI (f i) else 0 - zI (f i)) = nI (f i).natAbs := by
          have e0 : (0 ≤ zI (f i)) = (0 ≤ f i) := by
            rw [fa_le, zI_toInt (by omega)]; rfl
          simp only [e0]
          split
          · exact congrArg zI (show f i = ((f i).natAbs : Int) by omega)
          · rw [show (0 : Int32) = zI 0 by decide, zI_sub]; exact congrArg zI (show 0 - f i = ((f i).natAbs : Int) by omega)
        refine sX12_leastHeat_47 (u1 := zI (f i)) (P1 := fun I I' => I' = I) w ?_ ?_ ?_ ?_ <;> intros <;> (first | exact absurd (by with_reducible assumption) c1 | exact absurd c1 (by with_reducible assumption) | skip)
        · rw [← hfi]
          exact heatOf_r w hK2 ho hhb (by omega) (by omega) (by omega) (N := 224) (by omega) hC hD
        · rename_i I3 h3 hl
          subst h3
          rw [eabs, nI_ltI (by omega) (by omega)] at hl
          rw [eabs, nI_1]
          exact ih (some i, (f i).natAbs) (by rw [qlh_s, ← hs, if_pos hl])
        · rename_i I3 h3 hl
          subst h3
          rw [eabs, nI_ltI (by omega) (by omega)] at hl
          rw [nI_1]
          exact ih s (by rw [qlh_s, ← hs, if_neg hl])
  · rw [show aLeast κ x1 x2 x3 = (gD κ x1 x2 0 x3, 0) by unfold aLeast; rw [if_neg g]]
    rw [if_neg g] at o1
    have o3 : ¬ v_X12_isDeedOut I x1 x2 (0 : Int32) x3 = 0 := by rw [o1]; decide
    refine Cal.of rfl (by decide +kernel) (by simp) (Nat.le_of_ble_eq_true rfl) rfl (sX12_leastHeat_0 (P1 := fun I I' => True) (P2 := fun I I' => True) w ?_ ?_ ?_ ?_) <;> intros <;> (first | exact absurd (by with_reducible assumption) o3 | exact absurd o3 (by with_reducible assumption) | skip)
    rw [o2]
    exact ⟨rfl, _, rfl, PU.fail hK rfl⟩
end A
