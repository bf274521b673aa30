/-! the class: hours to come, more -/
theorem qsum_head (g : Nat → Nat) : ∀ n, qsum g (n + 1) = g 0 + qsum (fun j => g (j + 1)) n
  | 0 => by simp [qsum]
  | n + 1 => by rw [qsum_s, qsum_head g n, qsum_s]; omega
/-- a sum of the last c, at k -/
def ckS (f : Nat → Nat) (c k : Nat) : Nat := if k < c then qsum f k else qsum (fun j => f (k - c + j)) c
theorem ckS_lo {f : Nat → Nat} {c k : Nat} (h : k < c) : ckS f c k + f k = ckS f c (k + 1) := by
  unfold ckS
  rw [if_pos h]
  by_cases c1 : k + 1 < c
  · rw [if_pos c1, qsum_s]
  · have : c = k + 1 := by omega
    subst this
    rw [if_neg (by omega), Nat.sub_self]
    simp only [Nat.zero_add]
    rw [qsum_s]
theorem ckS_hi {f : Nat → Nat} {c k : Nat} (h : c ≤ k) : ckS f c k + f k = ckS f c (k + 1) + f (k - c) := by
  unfold ckS
  rw [if_neg (by omega), if_neg (by omega)]
  have h1 := qsum_head (fun j => f (k - c + j)) c
  rw [qsum_s] at h1
  rw [show k - c + c = k by omega, Nat.add_zero] at h1
  rw [h1, Nat.add_comm]
  congr 1
  apply qsum_congr
  intro j _
  congr 1; omega
def ckB (f : Nat → Nat) (c k : Nat) : Nat := if k < c then 0 else qch (fun n => qsum (fun j => f (n + j)) c) (k - c)
def ckL (f : Nat → Nat) (c k : Nat) : Nat := if k < c then 0 else qsum (fun j => f (ckB f c k + j)) c
theorem sub_all {s m : Nat} (hs : s < 256) : (s &&& (255 ^^^ m) = 0) ↔ s &&& m = s := by
  have b255 : ∀ i, i < 8 → (255 : Nat).testBit i = true := by decide
  have hb : ∀ i, s.testBit i = true → i < 8 := fun i hi => by
    rcases Nat.lt_or_ge i 8 with c | c
    · exact c
    · have : s.testBit i = false := Nat.testBit_lt_two_pow (Nat.lt_of_lt_of_le hs (Nat.pow_le_pow_right (by decide) c : 2 ^ 8 ≤ 2 ^ i))
      rw [this] at hi; cases hi
  constructor
  · intro h
    apply Nat.eq_of_testBit_eq
    intro i
    rw [Nat.testBit_and]
    cases c : s.testBit i with
    | false => rfl
    | true =>
      have h2 := congrArg (fun x => x.testBit i) h
      simp only [Nat.testBit_and, Nat.testBit_xor, Nat.zero_testBit] at h2
      rw [c, b255 i (hb i c)] at h2
      cases c2 : m.testBit i with
      | false => rw [c2] at h2; simp at h2
      | true => rfl
  · intro h
    apply Nat.eq_of_testBit_eq
    intro i
    rw [Nat.testBit_and, Nat.testBit_xor, Nat.zero_testBit]
    cases c : s.testBit i with
    | false => rfl
    | true =>
      have h2 := congrArg (fun x => x.testBit i) h
      simp only [Nat.testBit_and] at h2
      rw [c] at h2
      rw [b255 i (hb i c)]
      simp only [Bool.true_and] at h2
      rw [h2]; rfl
section A
variable {l : Launch} {G : Gh} {k : Nat} {I : Nat → Nat → Int32} {J : Nat → Nat → Int64} {R : Nat → Nat → Option Nat} {S : Nat → Nat × Nat} {nx : Nat} {κ : Nat → Nat} {hb pb : Nat}
theorem manyFree_c {kd wn n : Nat} {L dl pl ld lp : Nat} (w : CF R S nx) (wL : R 14 0 = some L) (wl : LW R S nx L dl pl ld lp) (h : CK I κ L dl pl ld lp) (ho : qok hb pb κ) (hhb : hb < 2 ^ 29) {O : Nat} (wO : OW R S nx O) (ap : AP O 5 L dl pl) (hk : kd < 10) (hw : wn < 5) (hn : n ≤ 200) : Cal l G (k + 5) 0 0 mX4_manyFree [.ref O, .int (nI kd), .int (nI wn), .int (nI n)] (I, J, R, S, nx) (fun r μ' => r = .inl (some (.int (nI (fa_cnt (qfa κ kd wn) n)))) ∧ ∃ I', μ' = (I', J, R, S, nx) ∧ Fr [27, 28, 29, O + 1, O + 2] I I' ∧ CK I' κ L dl pl ld lp) := by
  refine Cal.of rfl (by decide +kernel) (by simp) (Nat.le_of_ble_eq_true rfl) rfl (sX4_manyFree_0 (P1 := fun I I' => Fr [27, 28, 29, O + 1, O + 2] I I' ∧ CK I' κ L dl pl ld lp ∧ BR I' κ O kd wn 0 n 0) wO (layOut_c w wL wl h ho hhb wO ap hk hw (by omega)) (fun I1 h1 => ?_))
  have hp := h1.2.2.p ho
  obtain ⟨p, ep⟩ : ∃ p, qfa κ kd wn = p := ⟨_, rfl⟩
  rw [show (fun j => qfw κ kd wn 0 (0 + j)) = p by rw [← ep]; funext j; unfold qfw qfa qfr; rw [Nat.zero_add]] at hp
  rw [ep]
  refine upto (σ := Unit) (W := fun i _ => hX4_manyFree_13 l G k _ O (nI n) (nI (fa_cnt p i)) (nI i) (I1, J, R, S, nx)) (P := fun i _ => True) n ?_ ?_ (i := 0) (s := ()) (Nat.zero_le _) trivial
  · intro _ _
    have c1 : nI n ≤ nI n := nI_le (Nat.le_refl _) (by omega)
    refine sX4_manyFree_13 wO ?_ ?_ ?_ ?_ ?_ <;> intros <;> (first | exact absurd (by with_reducible assumption) c1 | exact absurd c1 (by with_reducible assumption) | skip)
    exact ⟨rfl, _, rfl, h1.1, h1.2.1⟩
  · intro i _ hi _ ih
    have c1 : ¬ nI n ≤ nI i := nI_ge hi (by omega)
    have c2 : ¬ Int32.ofNat 224 ≤ nI i := nI_ge (by omega) (by omega)
    have e1 := hp i hi
    have hx := ih () trivial
    refine sX4_manyFree_13 wO ?_ ?_ ?_ ?_ ?_ <;> intros <;> (first | exact absurd (by with_reducible assumption) c1 | exact absurd c1 (by with_reducible assumption) | exact absurd (by with_reducible assumption) c2 | exact absurd c2 (by with_reducible assumption) | skip)
    · exact vp_in_nI (by omega) (by decide)
    · rename_i g; rw [nI_clamp (by omega), e1] at g
      rw [fa_cnt_no (by simpa using g)] at hx
      rw [nI_1]; exact hx
    · rename_i g; rw [nI_clamp (by omega), e1] at g
      rw [fa_cnt_yes g] at hx
      rw [nI_1, nI_1]; exact hx
theorem longestFree_c {kd wn n q : Nat} {L dl pl ld lp : Nat} (w : CF R S nx) (wL : R 14 0 = some L) (wl : LW R S nx L dl pl ld lp) (h : CK I κ L dl pl ld lp) (ho : qok hb pb κ) (hhb : hb < 2 ^ 29) {O : Nat} (wO : OW R S nx O) (ap : AP O 5 L dl pl) (hk : kd < 10) (hw : wn < 5) (hn : n ≤ 200) (hq : q ≤ 1) : Cal l G (k + 5) 0 0 mX4_longestFree [.ref O, .int (nI kd), .int (nI wn), .int (nI n), .int (nI q)] (I, J, R, S, nx) (fun r μ' => r = .inl (some (.int (if q = 1 then nI (qsp (qfa κ kd wn) n).1 else jP (qsp (qfa κ kd wn) n).2.1))) ∧ ∃ I', μ' = (I', J, R, S, nx) ∧ Fr [27, 28, 29, O + 1, O + 2] I I' ∧ CK I' κ L dl pl ld lp) := by
  refine Cal.of rfl (by decide +kernel) (by simp) (Nat.le_of_ble_eq_true rfl) rfl (sX4_longestFree_0 (P1 := fun I I' => Fr [27, 28, 29, O + 1, O + 2] I I' ∧ CK I' κ L dl pl ld lp ∧ BR I' κ O kd wn 0 n 0) wO (layOut_c w wL wl h ho hhb wO ap hk hw (by omega)) (fun I1 h1 => ?_))
  have hp := h1.2.2.p ho
  obtain ⟨p, ep⟩ : ∃ p, qfa κ kd wn = p := ⟨_, rfl⟩
  rw [show (fun j => qfw κ kd wn 0 (0 + j)) = p by rw [← ep]; funext j; unfold qfw qfa qfr; rw [Nat.zero_add]] at hp
  rw [ep]
  refine upto (W := fun i (s : Nat × Option Nat × Nat) => hX4_longestFree_19 l G k _ O (nI n) (nI q) (nI s.1) (jP s.2.1) (nI s.2.2) (nI i) (I1, J, R, S, nx)) (P := fun i s => s = qsp p i) n ?_ ?_ (i := 0) (s := (0, none, 0)) (Nat.zero_le _) rfl
  · intro s hs
    have c1 : nI n ≤ nI n := nI_le (Nat.le_refl _) (by omega)
    have n0 : (nI q = 0) = (q = 0) := propext (nI_eq (b := 0) (by omega) (by decide))
    refine sX4_longestFree_19 wO ?_ ?_ ?_ ?_ ?_ ?_ ?_ <;> intros <;> (first | exact absurd (by with_reducible assumption) c1 | exact absurd c1 (by with_reducible assumption) | skip)
    · rename_i g; rw [n0] at g
      exact ⟨by rw [hs, if_neg (by omega)], _, rfl, h1.1, h1.2.1⟩
    · rename_i g; rw [n0] at g
      exact ⟨by rw [hs, if_pos (by omega)], _, rfl, h1.1, h1.2.1⟩
  · intro i s hi hs ih
    have c1 : ¬ nI n ≤ nI i := nI_ge hi (by omega)
    have c2 : ¬ Int32.ofNat 224 ≤ nI i := nI_ge (by omega) (by omega)
    have e1 := hp i hi
    have hle := qsp_le p i
    rw [← hs] at hle
    have go : ∀ r, r ≤ i + 1 → r = (if p i then s.2.2 + 1 else 0) → hX4_longestFree_53 l G k (fun r μ' => r = .inl (some (.int (if q = 1 then nI (qsp p n).1 else jP (qsp p n).2.1))) ∧ ∃ I', μ' = (I', J, R, S, nx) ∧ Fr [27, 28, 29, O + 1, O + 2] I I' ∧ CK I' κ L dl pl ld lp) O (nI n) (nI q) (nI s.1) (jP s.2.1) (nI i) (nI r) (I1, J, R, S, nx) := by
      intro r hr er
      have el : (nI r ≤ nI s.1) = (r ≤ s.1) := propext (nI_leI (by omega) (by omega))
      refine sX4_longestFree_53 wO ?_ ?_
      · intro g; rw [el] at g
        rw [nI_1]
        refine ih (s.1, s.2.1, r) ?_
        rw [qsp_s, ← hs, ← er, if_neg (by omega)]
      · intro g; rw [el] at g
        rw [nI_1, pk_sub (by omega)]
        refine ih (r, some (i + 1 - r), r) ?_
        rw [qsp_s, ← hs, ← er, if_pos (by omega)]
    refine sX4_longestFree_19 wO ?_ ?_ ?_ ?_ ?_ ?_ ?_ <;> intros <;> (first | exact absurd (by with_reducible assumption) c1 | exact absurd c1 (by with_reducible assumption) | exact absurd (by with_reducible assumption) c2 | exact absurd c2 (by with_reducible assumption) | skip)
    · exact vp_in_nI (by omega) (by decide)
    · rename_i g; rw [nI_clamp (by omega), e1] at g
      exact go 0 (by omega) (by rw [if_neg g])
    · rename_i g; rw [nI_clamp (by omega), e1] at g
      rw [nI_1]
      exact go (s.2.2 + 1) (by omega) (by rw [if_pos g])
theorem cheapestIn_c {kd wn ls : Nat} {L dl pl ld lp : Nat} (w : CF R S nx) (wL : R 14 0 = some L) (wl : LW R S nx L dl pl ld lp) (h : CK I κ L dl pl ld lp) (ho : qok hb pb κ) (hhb : hb < 2 ^ 29) {O : Nat} (wO : OW R S nx O) (ap : AP O 5 L dl pl) (hk : kd < 10) (hw : wn < 5) (hls : 1 ≤ ls ∧ ls ≤ 24) : Cal l G (k + 5) 0 0 mX4_cheapestIn [.ref O, .int (nI kd), .int (nI wn), .int (nI ls)] (I, J, R, S, nx) (fun r μ' => r = .inl (some (.int (nI (qch (qcs κ kd wn ls) 200)))) ∧ ∃ I', μ' = (I', J, R, S, nx) ∧ Fr [27, 28, 29, O + 1, O + 2, O + 3] I I' ∧ CK I' κ L dl pl ld lp) := by
  have hm := qms_le (κ := κ) hls.1
  have hm1 := qms_1 (κ := κ) hls.1
  obtain ⟨f, hf⟩ : ∃ f, (fun j => qfin κ (qcd κ kd wn (κ 54 + j) 0)) = f := ⟨_, rfl⟩
  have hfi : ∀ j, qfin κ (qcd κ kd wn (κ 54 + j) 0) = f j := fun j => congrFun hf j
  have hfl : ∀ j, f j ≤ 792 := fun j => by rw [← hfi]; exact qfin_le ho _
  obtain ⟨c, hc⟩ : ∃ c, qms κ ls = c := ⟨_, rfl⟩
  have eC : qcs κ kd wn ls = fun n => qsum (fun j => f (n + j)) c := by
    funext n
    unfold qcs qcost
    rw [hc]
    apply qsum_congr
    intro j _
    rw [← hfi, Nat.add_assoc]
  rw [hc] at hm hm1
  rw [eC]
  have hCl : ∀ n, qsum (fun j => f (n + j)) c ≤ 19008 := fun n => Nat.le_trans (qsum_le (c := 792) (fun i _ => hfl _)) (by omega)
  have hSl : ∀ i, ckS f c i ≤ 24 * 792 := fun i => by
    unfold ckS; split
    · exact Nat.le_trans (qsum_le (c := 792) (fun i _ => hfl _)) (by omega)
    · exact hCl _
  have hLl : ∀ i, ckL f c i ≤ 19008 := fun i => by
    unfold ckL; split
    · omega
    · exact hCl _
  refine Cal.of rfl (by decide +kernel) (by simp) (Nat.le_of_ble_eq_true rfl) rfl (sX4_cheapestIn_0 (u1 := nI c) (P1 := fun I I' => I' = I) (P2 := fun I I' => Fr [27, 28, 29, O + 1, O + 2] I I' ∧ CK I' κ L dl pl ld lp ∧ BR I' κ O kd wn 0 (200 + c) 0) w wO (by rw [← hc]; exact measured_c w wL wl h ho hhb) ?_ ?_)
  · intro I1 h1; subst h1; rw [show (200 : Int32) + nI c = nI (200 + c) from nI_add 200 _]; exact layOut_c w wL wl h ho hhb wO ap hk hw (by omega)
  intro I1 h1 I2 h2
  subst h1
  have e200 : (200 : Int32) + nI c = nI (200 + c) := nI_add 200 _
  suffices hgo : hX4_cheapestIn_34 l G k (fun r μ' => r = .inl (some (.int (nI (qch (fun n => qsum (fun j => f (n + j)) c) 200)))) ∧ ∃ I', μ' = (I', J, R, S, nx) ∧ Fr [27, 28, 29, O + 1, O + 2, O + 3] I1 I' ∧ CK I' κ L dl pl ld lp) O (nI c) (nI (ckB f c 0)) (nI (ckL f c 0)) (nI (ckS f c 0)) (nI 0) (I2, J, R, S, nx) by
    rw [show ckB f c 0 = 0 by unfold ckB; rw [if_pos (by omega)], show ckL f c 0 = 0 by unfold ckL; rw [if_pos (by omega)], show ckS f c 0 = 0 by unfold ckS; rw [if_pos (by omega)]; rfl] at hgo
    exact hgo
  refine upto (W := fun i I3 => hX4_cheapestIn_34 l G k _ O (nI c) (nI (ckB f c i)) (nI (ckL f c i)) (nI (ckS f c i)) (nI i) (I3, J, R, S, nx)) (P := fun i I3 => Fr [27, 28, 29, O + 1, O + 2, O + 3] I1 I3 ∧ CK I3 κ L dl pl ld lp ∧ BR I3 κ O kd wn 0 (200 + c) 0 ∧ ∀ j, j < i → I3 (O + 3) j = nI (f j)) (200 + c) ?_ ?_ (i := 0) (Nat.zero_le _) ⟨h2.1.wk (by simp), h2.2.1, h2.2.2, fun j hj => absurd hj (Nat.not_lt_zero _)⟩
  · intro I3 ⟨hF, hK, hB, hf3⟩
    have c1 : (200 : Int32) + nI c ≤ nI (200 + c) := by rw [e200]; exact nI_le (Nat.le_refl _) (by omega)
    refine sX4_cheapestIn_34 (u1 := 0) (P1 := fun _ _ => True) w wL wO wl ?_ ?_ ?_ ?_ ?_ ?_ ?_ ?_ ?_ <;> intros <;> (first | exact absurd (by with_reducible assumption) c1 | exact absurd c1 (by with_reducible assumption) | skip)
    refine ⟨?_, _, rfl, hF, hK⟩
    unfold ckB; rw [if_neg (by omega), Nat.add_sub_cancel]
  · intro i I3 hi ⟨hF, hK, hB, hf3⟩ ih
    have c1 : ¬ (200 : Int32) + nI c ≤ nI i := by rw [e200]; exact nI_ge hi (by omega)
    have c2 : ¬ Int32.ofNat 224 ≤ nI i := nI_ge (by omega) (by omega)
    have hcl := qcd_lt ho kd wn (κ 54 + 0 + i) 0
    have c3 : (nI i < nI c) = (i < c) := propext (nI_ltI (by omega) (by omega))
    have s1 := hSl i
    have s2 := hSl (i + 1)
    have s3 := hfl i
    have s4 := hLl i
    -- behind the sum
    have go : ∀ I4, Fr [27, 28, 29, O + 1, O + 2, O + 3] I1 I4 → CK I4 κ L dl pl ld lp → BR I4 κ O kd wn 0 (200 + c) 0 → (∀ j, j < i + 1 → I4 (O + 3) j = nI (f j)) → hX4_cheapestIn_113 l G k (fun r μ' => r = .inl (some (.int (nI (qch (fun n => qsum (fun j => f (n + j)) c) 200)))) ∧ ∃ I', μ' = (I', J, R, S, nx) ∧ Fr [27, 28, 29, O + 1, O + 2, O + 3] I1 I' ∧ CK I' κ L dl pl ld lp) O (nI c) (nI (ckB f c i)) (nI (ckL f c i)) (nI (ckS f c (i + 1))) (nI i) (I4, J, R, S, nx) := by
      intro I4 g1 g2 g3 g4
      have hx := ih I4 ⟨g1, g2, g3, g4⟩
      have d1 : (nI i = nI c - (1 : Int32)) = (i = c - 1) := by rw [nI_sub1 (by omega)]; exact propext (nI_eq (by omega) (by omega))
      have d2 : (nI (ckL f c i) ≤ nI (ckS f c (i + 1))) = (ckL f c i ≤ ckS f c (i + 1)) := propext (nI_leI (by omega) (by omega))
      refine sX4_cheapestIn_113 wO ?_ ?_ ?_ ?_
      · intro g; rw [d1] at g
        refine sX4_cheapestIn_136 wO ?_
        rw [nI_1, pk_sub (by omega)]
        rw [show ckB f c (i + 1) = i + 1 - c by unfold ckB; rw [if_neg (by omega), show i + 1 - c = 0 by omega]; rfl, show ckL f c (i + 1) = ckS f c (i + 1) by unfold ckL ckS ckB; rw [if_neg (by omega), if_neg (by omega), if_neg (by omega), show i + 1 - c = 0 by omega]; rfl] at hx
        exact hx
      · intro g1 g2; rw [d1] at g1; rw [c3] at g2
        rw [nI_1]
        rw [show ckB f c (i + 1) = ckB f c i by unfold ckB; rw [if_pos (by omega), if_pos g2], show ckL f c (i + 1) = ckL f c i by unfold ckL; rw [if_pos (by omega), if_pos g2]] at hx
        exact hx
      · intro g1 g2 g3; rw [d1] at g1; rw [c3] at g2; rw [d2] at g3
        rw [nI_1]
        have eb : ckB f c (i + 1) = ckB f c i := by
          unfold ckL ckS at g3
          unfold ckB at g3 ⊢
          rw [if_neg (by omega), if_neg (by omega), if_neg (by omega)] at g3
          rw [if_neg (by omega), if_neg (by omega), show i + 1 - c = (i - c) + 1 by omega, qch_s]
          rw [show i + 1 - c = (i - c) + 1 by omega] at g3
          exact if_neg (by omega)
        rw [show ckL f c (i + 1) = ckL f c i by unfold ckL; rw [if_neg (by omega), if_neg (by omega), eb], eb] at hx
        exact hx
      · intro g1 g2 g3; rw [d1] at g1; rw [c3] at g2; rw [d2] at g3
        have eb : ckB f c (i + 1) = i + 1 - c := by
          unfold ckL ckS at g3
          unfold ckB at g3 ⊢
          rw [if_neg (by omega), if_neg (by omega), if_neg (by omega)] at g3
          rw [if_neg (by omega), show i + 1 - c = (i - c) + 1 by omega, qch_s]
          rw [show i + 1 - c = (i - c) + 1 by omega] at g3
          exact if_pos (by omega)
        refine sX4_cheapestIn_136 wO ?_
        rw [nI_1, pk_sub (by omega)]
        rw [show ckL f c (i + 1) = ckS f c (i + 1) by unfold ckL ckS; rw [if_neg (by omega), if_neg (by omega), eb], eb] at hx
        exact hx
    have up : ∀ j, (up2 I3 (O + 3) i (nI (f i))) (O + 3) j = if j = i then nI (f i) else I3 (O + 3) j := fun j => by simp [up2]
    have a1 : Fr [27, 28, 29, O + 1, O + 2, O + 3] I1 (up2 I3 (O + 3) i (nI (f i))) := hF.up (by simp)
    have a2 : CK (up2 I3 (O + 3) i (nI (f i))) κ L dl pl ld lp := hK.dy ap (by omega)
    have a3 : BR (up2 I3 (O + 3) i (nI (f i))) κ O kd wn 0 (200 + c) 0 := fun j hj => by
      rw [← hB j hj]; simp [up2]
    have a4 : ∀ j, j < i + 1 → (up2 I3 (O + 3) i (nI (f i))) (O + 3) j = nI (f j) := fun j hj => by
      rw [up]
      by_cases q : j = i
      · rw [if_pos q, q]
      · rw [if_neg q]; exact hf3 j (by omega)
    refine sX4_cheapestIn_34 (u1 := nI (f i)) (P1 := fun I I' => I' = I) w wL wO wl ?_ ?_ ?_ ?_ ?_ ?_ ?_ ?_ ?_ <;> intros <;> (first | exact absurd (by with_reducible assumption) c1 | exact absurd c1 (by with_reducible assumption) | exact absurd (by with_reducible assumption) c2 | exact absurd c2 (by with_reducible assumption) | skip)
    · exact vp_in_nI (by omega) (by decide)
    · rw [nI_clamp (by omega), hB i hi, ← hfi]
      exact finesOf_c wl hK.2.1 ho.2.1 (by omega)
    · exact vp_in_nI (by omega) (by decide)
    · exact vp_in_nI (by omega) (by decide)
    · rename_i I4 h4 g
      subst h4; rw [c3] at g
      rw [nI_clamp (by omega), up, if_pos rfl, nI_add, ckS_lo g]
      exact go _ a1 a2 a3 a4
    · rename_i I4 h4 g
      rw [c3] at g
      rw [pk_sub (by omega)]; exact vp_in_nI (by omega) (by decide)
    · rename_i I4 h4 g
      subst h4; rw [c3] at g
      rw [pk_sub (by omega : c ≤ i), nI_clamp (by omega), nI_clamp (by omega), up, if_pos rfl, up, if_neg (by omega), hf3 _ (by omega), nI_add, ckS_hi (by omega), ← nI_add, show nI (ckS f c (i + 1)) + nI (f (i - c)) - nI (f (i - c)) = nI (ckS f c (i + 1)) by rw [nI_add, pk_sub (by omega), Nat.add_sub_cancel]]
      exact go _ a1 a2 a3 a4
theorem barredHours_c {wn sm : Nat} {L dl pl ld lp : Nat} (w : CF R S nx) (wL : R 14 0 = some L) (wl : LW R S nx L dl pl ld lp) (h : CK I κ L dl pl ld lp) (ho : qok hb pb κ) (hhb : hb < 2 ^ 29) {O : Nat} (wO : OW R S nx O) (ap : AP O 5 L dl pl) (hw : wn < 5) (hs : sm < 2 ^ 31) (hD : DG I κ O wn 0 24) : Cal l G (k + 3) 0 0 mX4_barredHours [.ref O, .int (nI sm), .int (nI wn)] (I, J, R, S, nx) (fun r μ' => r = .inl (some (.int (nI (fa_cnt (qbp κ wn sm) 24)))) ∧ ∃ I', μ' = (I', J, R, S, nx) ∧ Fr [27, 28, 29] I I' ∧ CK I' κ L dl pl ld lp) := by
  have h54 : κ 54 ≤ hb := ho.2.2.2.2.2.2.2.2.2.2.1
  obtain ⟨p, hp⟩ : ∃ p, qbp κ wn sm = p := ⟨_, rfl⟩
  have hpi : ∀ i, qbp κ wn sm i = p i := fun i => congrFun hp i
  rw [hp]
  refine Cal.of rfl (by decide +kernel) (by simp) (Nat.le_of_ble_eq_true rfl) rfl (sX4_barredHours_0 wO ?_)
  refine upto (W := fun i I2 => hX4_barredHours_5 l G k _ O (nI sm) (nI wn) (nI (fa_cnt p i)) (nI i) (I2, J, R, S, nx)) (P := fun i I2 => Fr [27, 28, 29] I I2 ∧ CK I2 κ L dl pl ld lp) 24 ?_ ?_ (i := 0) (Nat.zero_le _) ⟨Fr.rf, h⟩
  · intro I2 hF
    have c1 : (24 : Int32) ≤ nI 24 := by decide
    refine sX4_barredHours_5 (u1 := 0) (P1 := fun _ _ => True) w wO ?_ ?_ ?_ ?_ ?_ <;> intros <;> (first | exact absurd (by with_reducible assumption) c1 | exact absurd c1 (by with_reducible assumption) | skip)
    exact ⟨rfl, _, rfl, hF⟩
  · intro i I2 hi ⟨hF, hK⟩ ih
    have c1 : ¬ (24 : Int32) ≤ nI i := nI_ge (b := 24) hi (by decide)
    have hq := qdeg_le κ wn (κ 54 + i)
    have e1 : I2 (O + 1) (nI i).toNatClampNeg = nI (qdeg κ wn (κ 54 + i)) := by rw [nI_clamp (by omega), hF (O + 1) (by have := ap.1; simp; omega)]; exact hD i hi
    have hlt := qcode_lt κ wn (qdeg κ wn (κ 54 + i)) (κ 54 + i) sm ho.2.1
    refine sX4_barredHours_5 (u1 := nI (qcode κ wn (qdeg κ wn (κ 54 + i)) (κ 54 + i) sm)) (P1 := fun I I' => Fr [27, 28, 29] I I' ∧ CK I' κ L dl pl ld lp) w wO ?_ ?_ ?_ ?_ ?_ <;> intros <;> (first | exact absurd (by with_reducible assumption) c1 | exact absurd c1 (by with_reducible assumption) | skip)
    · exact vp_in_nI (by omega) (by decide)
    · rw [e1, hK.1.h.1, nI_add]
      exact inForce_c w wL wl hK ho hhb hw (by omega) hq hs
    · rename_i I3 h3 h0
      have hz := (nI_eq (b := 0) (by omega) (by decide)).mp h0
      have hq : p i = false := by rw [← hpi]; unfold qbp; simp [hz]
      have := ih I3 ⟨hF.tr h3.1 (by decide), h3.2⟩
      rw [show fa_cnt p (i + 1) = fa_cnt p i from fa_cnt_no hq] at this
      rw [nI_1]; exact this
    · rename_i I3 h3 h0
      have hq : p i = true := by rw [← hpi]; unfold qbp; simp only [decide_eq_true_eq]; exact fun hz => h0 (by rw [hz]; rfl)
      have := ih I3 ⟨hF.tr h3.1 (by decide), h3.2⟩
      rw [show fa_cnt p (i + 1) = fa_cnt p i + 1 from fa_cnt_yes hq] at this
      rw [nI_1, nI_1]; exact this
theorem qbk_bp (κ : Nat → Nat) (wn kd sm : Nat) : qbk κ wn kd sm = qbp κ wn (sm &&& qkind κ kd) := by
  funext j; unfold qbk qbp; rw [qcode_kd]
theorem nobit {s a : Nat} (hs : s < 256) (ha : a < 8) (h : s.testBit a = false) : s &&& (255 ^^^ 2 ^ a) = s := by
  have hb : ∀ i, s.testBit i = true → i < 8 := fun i hi => by
    rcases Nat.lt_or_ge i 8 with c | c
    · exact c
    · have : s.testBit i = false := Nat.testBit_lt_two_pow (Nat.lt_of_lt_of_le hs (Nat.pow_le_pow_right (by decide) c : 2 ^ 8 ≤ 2 ^ i))
      rw [this] at hi; cases hi
  have b255 : ∀ i, i < 8 → (255 : Nat).testBit i = true := by decide
  apply Nat.eq_of_testBit_eq
  intro i
  rw [Nat.testBit_and, Nat.testBit_xor]
  cases c : s.testBit i with
  | false => rfl
  | true =>
    have hi := hb i c
    have : i ≠ a := fun e => by rw [e, h] at c; cases c
    rw [b255 i hi, Nat.testBit_two_pow_of_ne (Ne.symm this)]; rfl
theorem heaviestIn_c {wn : Nat} {L dl pl ld lp : Nat} (w : CF R S nx) (wL : R 14 0 = some L) (wl : LW R S nx L dl pl ld lp) (h : CK I κ L dl pl ld lp) (ho : qok hb pb κ) (hhb : hb < 2 ^ 29) {O : Nat} (wO : OW R S nx O) (ap : AP O 5 L dl pl) (hw : wn < 5) : Cal l G (k + 4) 0 0 mX4_heaviestIn [.ref O, .int (nI wn)] (I, J, R, S, nx) (fun r μ' => r = .inl (some (.int (jP (qhv (qall κ) (qfew κ wn) (κ 2)).1))) ∧ ∃ I', μ' = (I', J, R, S, nx) ∧ Fr [27, 28, 29, O + 1] I I' ∧ CK I' κ L dl pl ld lp) := by
  have h2 := ho.2.1
  obtain ⟨f, hf⟩ : ∃ f, qfew κ wn = f := ⟨_, rfl⟩
  have hfi : ∀ i, qfew κ wn i = f i := fun i => congrFun hf i
  have hfb : ∀ i, -24 ≤ f i ∧ f i ≤ 24 := fun i => by
    rw [← hfi]; unfold qfew
    have := fa_cnt_le (qbk κ wn (κ (66 + i)) (qall κ)) 24
    have := fa_cnt_le (qbk κ wn (κ (66 + i)) (qall κ &&& (255 ^^^ 2 ^ i))) 24
    omega
  have hal := qall_lt ho
  have hvp : ∀ i, 0 ≤ (qhv (qall κ) f i).2 := fun i => by
    induction i with
    | zero => exact Int.le_refl _
    | succ i ih =>
      rw [qhv_s]; split
      · rename_i c; show 0 ≤ f i; omega
      · exact ih
  rw [hf]
  refine Cal.of rfl (by decide +kernel) (by simp) (Nat.le_of_ble_eq_true rfl) rfl (sX4_heaviestIn_0 (P1 := fun I I' => Fr [27, 28, 29, O + 1] I I' ∧ CK I' κ L dl pl ld lp ∧ DG I' κ O wn 0 24) wO (layDegrees_c (k := k) (ah := 0) (n := 24) w wL wl h ho hhb wO ap hw (by omega) (by omega)) (fun I1 h1 => ?_))
  refine upto (W := fun i (s : (Option Nat × Int) × (Nat → Nat → Int32)) => hX4_heaviestIn_15 l G k _ O (nI wn) (jP s.1.1) (zI s.1.2) (nI i) (s.2, J, R, S, nx)) (P := fun i s => s.1 = qhv (qall κ) f i ∧ Fr [27, 28, 29, O + 1] I s.2 ∧ CK s.2 κ L dl pl ld lp ∧ DG s.2 κ O wn 0 24) (κ 2) ?_ ?_ (i := 0) (s := ((none, 0), I1)) (Nat.zero_le _) ⟨rfl, h1.1, h1.2⟩
  · intro ⟨o, I2⟩ ⟨he, hF, hK, hD⟩
    dsimp only at he hF hK hD ⊢
    have c2 : I2 L 2 ≤ nI (κ 2) := by rw [hK.2.1.1.2.2.1]; exact nI_le (Nat.le_refl _) (by omega)
    refine sX4_heaviestIn_15 (u1 := 0) (u2 := 0) (u3 := 0) (P1 := fun _ _ => True) (P2 := fun _ _ => True) (P3 := fun _ _ => True) w wL wO wl ?_ ?_ ?_ ?_ ?_ ?_ ?_ <;> intros <;> (first | exact absurd (by with_reducible assumption) c2 | exact absurd c2 (by with_reducible assumption) | skip)
    exact ⟨by rw [he], _, rfl, hF, hK⟩
  · intro i ⟨o, I2⟩ hi ⟨he, hF, hK, hD⟩ ih
    dsimp only at he hF hK hD ⊢
    have c2 : ¬ I2 L 2 ≤ nI i := by rw [hK.2.1.1.2.2.1]; exact nI_ge hi (by omega)
    have hkd := (ho.2.2.2.2.2.2.2.2.1 i (by omega)).2.2.1
    have hac := qac_lt ho (κ (66 + i))
    have ob := qhv_b (al := qall κ) hfb i
    have op := hvp i
    rw [← he] at ob op
    have fb := hfb i
    have ea : qbk κ wn (κ (66 + i)) (qall κ) = qbp κ wn (qac κ (κ (66 + i))) := qbk_bp _ _ _ _
    have eb : qbk κ wn (κ (66 + i)) (qall κ &&& (255 ^^^ 2 ^ i)) = qbp κ wn (qac κ (κ (66 + i)) &&& (255 ^^^ 2 ^ i)) := by rw [qbk_bp]; unfold qac; rw [Nat.and_assoc, Nat.and_comm (255 ^^^ 2 ^ i), ← Nat.and_assoc]
    have es : nI (fa_cnt (qbp κ wn (qac κ (κ (66 + i)))) 24) - nI (fa_cnt (qbp κ wn (qac κ (κ (66 + i)) &&& (255 ^^^ 2 ^ i))) 24) = zI (f i) := by rw [nI_z, nI_z, zI_sub, ← hfi, ← ea, ← eb]; rfl
    have elt : (zI (f i) ≤ zI o.2) = (f i ≤ o.2) := by rw [fa_le, zI_toInt (by omega), zI_toInt (by omega)]
    have f0 : (qall κ).testBit i = false → f i = 0 := fun ht => by
      rw [← hfi]; unfold qfew; rw [nobit hal (by omega) ht]; omega
    refine sX4_heaviestIn_15 (u1 := nI (qac κ (κ (66 + i)))) (u2 := nI (fa_cnt (qbp κ wn (qac κ (κ (66 + i)))) 24)) (u3 := nI (fa_cnt (qbp κ wn (qac κ (κ (66 + i)) &&& (255 ^^^ 2 ^ i))) 24)) (P1 := fun I I' => I' = I) (P2 := fun I I' => Fr [27, 28, 29] I I' ∧ CK I' κ L dl pl ld lp) (P3 := fun I I' => Fr [27, 28, 29] I I' ∧ CK I' κ L dl pl ld lp) w wL wO wl ?_ ?_ ?_ ?_ ?_ ?_ ?_ <;> intros <;> (first | exact absurd (by with_reducible assumption) c2 | exact absurd c2 (by with_reducible assumption) | skip)
    · exact vp_in_nI (by omega) (by decide)
    · rw [nI_clamp (by omega), (hK.2.1.2.2.1 i (by omega)).1]
      exact actsOf_c (k := k + 2) w wL wl hK ho hhb (by omega)
    · rename_i I3 h3; subst h3
      exact barredHours_c w wL wl hK ho hhb wO ap hw (by omega) hD
    · rename_i I3 h3 I4 h4; subst h3
      rw [shl_n (by omega), nt_and hac (Nat.pow_lt_pow_right (by decide) (by omega : i < 8))]
      exact barredHours_c w wL wl h4.2 ho hhb wO ap hw (Nat.lt_of_le_of_lt Nat.and_le_left (by omega)) (hD.fr h4.1 (by have := ap.1; simp; omega))
    · rename_i I3 h3 I4 h4 I5 h5 hl; subst h3
      rw [es, elt] at hl
      rw [nI_1]
      have h45 : Fr [27, 28, 29] I3 I5 := h4.1.tr h5.1 (by decide)
      exact ih (o, I5) ⟨by rw [qhv_s, ← he, if_neg (fun h => by omega)], hF.tr h45 (by simp), h5.2, hD.fr h45 (by have := ap.1; simp; omega)⟩
    · rename_i I3 h3 I4 h4 I5 h5 hl; subst h3
      rw [es, elt] at hl
      rw [es, nI_1]
      have h45 : Fr [27, 28, 29] I3 I5 := h4.1.tr h5.1 (by decide)
      have ht : (qall κ).testBit i = true := by
        cases c : (qall κ).testBit i with
        | true => rfl
        | false => have := f0 c; omega
      exact ih ((some i, f i), I5) ⟨by rw [qhv_s, ← he, if_pos ⟨ht, by omega⟩], hF.tr h45 (by simp), h5.2, hD.fr h45 (by have := ap.1; simp; omega)⟩
/-- the cover as bits -/
def cvB (o : Option Nat) : Nat := o.getD 0
def cvN (o : Option Nat) : Nat := match o with | none => 9 | some b => qpop b
theorem coverIn_c {kd wn : Nat} {L dl pl ld lp : Nat} (w : CF R S nx) (wL : R 14 0 = some L) (wl : LW R S nx L dl pl ld lp) (h : CK I κ L dl pl ld lp) (ho : qok hb pb κ) (hhb : hb < 2 ^ 29) {O : Nat} (wO : OW R S nx O) (ap : AP O 5 L dl pl) (hk : kd < 10) (hw : wn < 5) : Cal l G (k + 4) 0 0 mX4_coverIn [.ref O, .int (nI kd), .int (nI wn)] (I, J, R, S, nx) (fun r μ' => r = .inl (some (.int (nI (cvB (qcv κ wn (qsm κ kd) (qsm κ kd)))))) ∧ ∃ I', μ' = (I', J, R, S, nx) ∧ Fr [27, 28, 29, O + 1] I I' ∧ CK I' κ L dl pl ld lp) := by
  have hac := qac_lt ho kd
  have em : qsm κ kd = qac κ kd := Nat.and_comm _ _
  rw [em]
  obtain ⟨m, hm⟩ : ∃ m, qac κ kd = m := ⟨_, rfl⟩
  refine Cal.of rfl (by decide +kernel) (by simp) (Nat.le_of_ble_eq_true rfl) rfl (sX4_coverIn_0 (u1 := nI (qac κ kd)) (P1 := fun I I' => I' = I) (P2 := fun I I' => Fr [27, 28, 29, O + 1] I I' ∧ CK I' κ L dl pl ld lp ∧ DG I' κ O wn 0 24) w wO (actsOf_c (k := k + 2) w wL wl h ho hhb hk) ?_ ?_)
  · intro I1 h1; subst h1; exact layDegrees_c (k := k) (ah := 0) (n := 24) w wL wl h ho hhb wO ap hw (by omega) (by omega)
  intro I1 h1 I2 h2
  subst h1
  rw [hm] at hac ⊢
  have ltm : ∀ a b : Nat, a ≤ 256 → b ≤ 256 → (nI a < nI b) = (a < b) := fun a b h1 h2 => propext (nI_ltI (by omega) (by omega))
  refine upto (W := fun i (s : Option Nat × (Nat → Nat → Int32)) => hX4_coverIn_27 l G k _ O (nI wn) (nI m) (nI (cvB s.1)) (nI (cvN s.1)) (nI (i + 1)) (s.2, J, R, S, nx)) (P := fun i s => s.1 = qcv κ wn m i ∧ Fr [27, 28, 29, O + 1] I1 s.2 ∧ CK s.2 κ L dl pl ld lp ∧ DG s.2 κ O wn 0 24) m ?_ ?_ (i := 0) (s := (none, I2)) (Nat.zero_le _) ⟨rfl, h2.1, h2.2.1, h2.2.2⟩
  · intro ⟨o, I3⟩ ⟨he, hF, hK, hD⟩
    dsimp only at he hF hK hD ⊢
    have c4 : nI m < nI (m + 1) := nI_lt (by omega) (by omega)
    refine sX4_coverIn_27 (u1 := 0) (P1 := fun _ _ => True) wO ?_ ?_ ?_ ?_ ?_ ?_ <;> intros <;> (first | exact absurd (by with_reducible assumption) c4 | exact absurd c4 (by with_reducible assumption) | skip)
    exact ⟨by rw [he], _, rfl, hF, hK⟩
  · intro i ⟨o, I3⟩ hi ⟨he, hF, hK, hD⟩ ih
    dsimp only at he hF hK hD ⊢
    have c4 : ¬ nI m < nI (i + 1) := by rw [ltm _ _ (by omega) (by omega)]; omega
    have eA : (nI (i + 1) &&& (nI m ^^^ (-1 : Int32)) = 0) = ((i + 1) &&& m = i + 1) := by
      rw [nt_and (by omega) hac]
      have hlt : (i + 1) &&& (255 ^^^ m) < 256 := Nat.lt_of_le_of_lt Nat.and_le_left (by omega)
      exact propext ((nI_eq (b := 0) (by omega) (by decide)).trans (sub_all (by omega)))
    have hpl := qpop_le (i + 1) (by omega)
    have hN9 : cvN o ≤ 9 := by
      unfold cvN
      cases o with
      | none => exact Nat.le_refl _
      | some b => have := qcv_le κ wn m i b he.symm; have := qpop_le b (by omega); dsimp only; omega
    have eB : (nI (cvN o) ≤ v_J6_bitCount_0f7a4 (nI (i + 1))) = ¬ (fewer o (i + 1) = true) := by
      rw [cnt_c (i + 1) (by omega), show (nI (cvN o) ≤ nI (qpop (i + 1))) = (cvN o ≤ qpop (i + 1)) from propext (nI_leI (by omega) (by omega))]
      unfold cvN fewer
      cases o with
      | none => simp; omega
      | some b => simp
    have eC : (nI (fa_cnt (qbp κ wn (i + 1)) 24) = (24 : Int32)) = (qcov κ wn (i + 1) = true) := by
      have := fa_cnt_le (qbp κ wn (i + 1)) 24
      unfold qcov; rw [decide_eq_true_eq]
      exact propext (nI_eq (b := 24) (by omega) (by decide))
    refine sX4_coverIn_27 (u1 := nI (fa_cnt (qbp κ wn (i + 1)) 24)) (P1 := fun I I' => Fr [27, 28, 29] I I' ∧ CK I' κ L dl pl ld lp) wO ?_ ?_ ?_ ?_ ?_ ?_ <;> intros <;> (first | exact absurd (by with_reducible assumption) c4 | exact absurd c4 (by with_reducible assumption) | skip)
    · rename_i g; rw [eA] at g
      rw [nI_1]
      exact ih (o, I3) ⟨by rw [qcv_s, ← he, if_neg (fun q => g q.1)], hF, hK, hD⟩
    · rename_i g1 g2; rw [eB] at g2
      rw [nI_1]
      exact ih (o, I3) ⟨by rw [qcv_s, ← he, if_neg (fun q => g2 q.2.1)], hF, hK, hD⟩
    · exact barredHours_c w wL wl hK ho hhb wO ap hw (by omega) hD
    · rename_i g1 g2 I4 h4 g3; rw [eC] at g3
      rw [nI_1]
      exact ih (o, I4) ⟨by rw [qcv_s, ← he, if_neg (fun q => g3 q.2.2)], hF.tr h4.1 (by simp), h4.2, hD.fr h4.1 (by have := ap.1; simp; omega)⟩
    · rename_i g1 g2 I4 h4 g3; rw [eA] at g1; rw [eB, Decidable.not_not] at g2; rw [eC] at g3
      rw [nI_1, cnt_c (i + 1) (by omega)]
      exact ih (some (i + 1), I4) ⟨by rw [qcv_s, ← he, if_pos ⟨g1, g2, g3⟩], hF.tr h4.1 (by simp), h4.2, hD.fr h4.1 (by have := ap.1; simp; omega)⟩
end A
