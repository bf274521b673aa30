/-! the class: told deeds -/
section A
variable {l : Launch} {G : Gh} {k : Nat} {I : Nat → Nat → Int32} {J : Nat → Nat → Int64} {R : Nat → Nat → Option Nat} {S : Nat → Nat × Nat} {nx : Nat} {κ : Nat → Nat} {hb pb : Nat}
theorem lgz {x : Int64} {y : Int64} : (lg_cmp x y < 0) = (x.toInt < y.toInt) ∧ ((0 : Int32) < lg_cmp x y) = (y.toInt < x.toInt) ∧ ((0 : Int32) ≤ lg_cmp x y) = (y.toInt ≤ x.toInt) ∧ (lg_cmp x y = 0) = (x.toInt = y.toInt) := by
  refine ⟨?_, ?_, ?_, ?_⟩
  · simp only [lg_cmp_lt, fa_lt64]
  · simp only [lg_cmp_gt, fa_lt64]
  · simp only [lg_cmp_ge, fa_le64]
  · simp only [lg_cmp_eq, fa_eq64]
theorem isDeed_c {x : Int64} {L dl pl ld lp : Nat} (w : CF R S nx) (wL : R 14 0 = some L) (wl : LW R S nx L dl pl ld lp) (h : CK I κ L dl pl ld lp) (ho : qok hb pb κ) (hhb : hb < 2 ^ 29) : Cal l G k 0 0 mX7_isDeed [.ref 14, .long x] (I, J, R, S, nx) (fun r μ' => r = .inl (some (.int (if qdd κ x.toInt = true then 1 else 0))) ∧ ∃ I', μ' = (I', J, R, S, nx) ∧ I' = I) := by
  have h1 := ho.1
  have a1 : (lg_cmp x (0 : Int64) < 0) = (x.toInt < 0) := lgz.1
  have a2 : ((0 : Int32) < lg_cmp x (9999 : Int64)) = (9999 < x.toInt) := lgz.2.1
  have e1 : (Int32.toInt64 (I L 1)).toInt = (κ 1 : Int) := by rw [h.2.1.1.2.1]; exact n64 (by omega)
  have no : ¬ qdd κ x.toInt = true → ((Sum.inl (some (.int (0 : Int32))) : Res) = .inl (some (.int (if qdd κ x.toInt = true then 1 else 0))) ∧ ∃ I', ((I, J, R, S, nx) : Mem) = (I', J, R, S, nx) ∧ I' = I) := fun g => ⟨by rw [if_neg g], _, rfl, rfl⟩
  by_cases c1 : (0 : Int) ≤ x.toInt ∧ x.toInt ≤ 9999
  · obtain ⟨n, hn, en⟩ : ∃ n, n ≤ 9999 ∧ x = lN n := ⟨x.toInt.toNat, by omega, lN_of c1.1 (by omega)⟩
    have f1 : (x / (100 : Int64)) - (x / (100 : Int64)) / (10 : Int64) * (10 : Int64) = lN (n / 100 % 10) := by
      rw [en, show (100 : Int64) = lN 100 from rfl, show (10 : Int64) = lN 10 from rfl, pk_lDiv (by omega) (by decide) (by decide), pk_lRem (by omega) (by decide) (by decide)]
    have f2 : x - x / (100 : Int64) * (100 : Int64) = lN (n % 100) := by
      rw [en, show (100 : Int64) = lN 100 from rfl, pk_lRem (by omega) (by decide) (by decide)]
    have f3 : x.toInt = (n : Int) := by rw [en, lN_toInt (by omega)]
    have b1 : ((0 : Int32) ≤ lg_cmp ((x / (100 : Int64)) - (x / (100 : Int64)) / (10 : Int64) * (10 : Int64)) (Int32.toInt64 (I L 1))) = (κ 1 ≤ n / 100 % 10) := by rw [lgz.2.2.1, f1, e1, lN_toInt (by omega)]; exact propext (by omega)
    have b2 : (lg_cmp (x - x / (100 : Int64) * (100 : Int64)) (1 : Int64) < 0) = (n % 100 < 1) := by rw [lgz.1, f2, lN_toInt (by omega)]; exact propext (by show ((n % 100 : Nat) : Int) < 1 ↔ _; omega)
    have b3 : ((0 : Int32) < lg_cmp (x - x / (100 : Int64) * (100 : Int64)) (24 : Int64)) = (24 < n % 100) := by rw [lgz.2.1, f2, lN_toInt (by omega)]; exact propext (by show 24 < ((n % 100 : Nat) : Int) ↔ _; omega)
    have hq : qdd κ x.toInt = true ↔ n / 100 % 10 < κ 1 ∧ 1 ≤ n % 100 ∧ n % 100 ≤ 24 := by
      unfold qdd
      rw [decide_eq_true_eq, f3, Int.toNat_natCast]; omega
    refine Cal.of rfl (by decide +kernel) (by simp) (Nat.le_of_ble_eq_true rfl) rfl (sX7_isDeed_0 w wL wl ?_ ?_ ?_ ?_ ?_ ?_)
    · intro g; rw [a1] at g; omega
    · intro _ g; rw [a2] at g; omega
    · intro _ _ g; rw [b1] at g; exact no (fun q => by have := hq.mp q; omega)
    · intro _ _ _ g; rw [b2] at g; exact no (fun q => by have := hq.mp q; omega)
    · intro _ _ _ _ g; rw [b3] at g; exact no (fun q => by have := hq.mp q; omega)
    · intro _ _ g1 g2 g3
      rw [b1] at g1; rw [b2] at g2; rw [b3] at g3
      exact ⟨by rw [if_pos (hq.mpr (by omega))], _, rfl, rfl⟩
  · have nq : ¬ qdd κ x.toInt = true := fun q => by
      unfold qdd at q
      rw [decide_eq_true_eq] at q
      exact c1 ⟨q.1, q.2.1⟩
    refine Cal.of rfl (by decide +kernel) (by simp) (Nat.le_of_ble_eq_true rfl) rfl (sX7_isDeed_0 w wL wl ?_ ?_ ?_ ?_ ?_ ?_)
    · intro _; exact no nq
    · intro _ _; exact no nq
    · intro _ _ _; exact no nq
    · intro _ _ _ _; exact no nq
    · intro _ _ _ _ _; exact no nq
    · intro g1 g2 _ _ _; rw [a1] at g1; rw [a2] at g2; omega
theorem rep_c {a : Nat} (hN : CN I κ) (ho : qok hb pb κ) (ha : a < 31) : (v_X7_isRepealed I (nI a) = 0) = ¬ (κ 53).testBit a = true := by
  have h53 : κ 53 < 256 := ho.2.2.2.2.2.2.2.2.2.1
  unfold v_X7_isRepealed
  rw [hN.h.2.2]
  have e := bit_n (s := κ 53) (i := a) (by omega) ha
  by_cases c : (κ 53).testBit a = true
  · have : ¬ (nI (κ 53) >>> (nI a &&& 31)) &&& (1 : Int32) = 0 := by rw [e]; exact not_not_intro c
    rw [if_neg this]; exact propext ⟨fun g => absurd g (by decide), fun g => absurd c g⟩
  · have : (nI (κ 53) >>> (nI a &&& 31)) &&& (1 : Int32) = 0 := by rw [e]; exact c
    rw [if_pos this]; exact propext ⟨fun _ => c, fun _ => rfl⟩
theorem whyNot_c {x : Int64} {L dl pl ld lp : Nat} (w : CF R S nx) (wL : R 14 0 = some L) (wl : LW R S nx L dl pl ld lp) (h : CK I κ L dl pl ld lp) (ho : qok hb pb κ) (hhb : hb < 2 ^ 29) : Cal l G (k + 1) 0 0 mX7_whyNot [.ref 14, .long x] (I, J, R, S, nx) (fun r μ' => r = .inl (some (.int (nI (qwhy κ x.toInt)))) ∧ ∃ I', μ' = (I', J, R, S, nx) ∧ I' = I) := by
  have h1 := ho.1
  have h2 := ho.2.1
  have e1 : (Int32.toInt64 (I L 1)).toInt = (κ 1 : Int) := by rw [h.2.1.1.2.1]; exact n64 (by omega)
  have e2 : (Int32.toInt64 ((40000 : Int32) + I L 2)).toInt = (40000 + κ 2 : Nat) := by rw [h.2.1.1.2.2.1, show (40000 : Int32) + nI (κ 2) = nI (40000 + κ 2) from nI_add 40000 _]; exact n64 (by omega)
  have a4 : (lg_cmp x (40000 : Int64) < 0) = (x.toInt < 40000) := lgz.1
  have a4' : ((0 : Int32) ≤ lg_cmp x (40000 : Int64)) = (40000 ≤ x.toInt) := lgz.2.2.1
  have a2 : (lg_cmp x (20000 : Int64) < 0) = (x.toInt < 20000) := lgz.1
  have a5 : ((0 : Int32) ≤ lg_cmp x (Int32.toInt64 ((40000 : Int32) + I L 2))) = (((40000 + κ 2 : Nat) : Int) ≤ x.toInt) := by rw [lgz.2.2.1, e2]
  have am : (lg_cmp x (-1 : Int64) = 0) = (x.toInt = -1) := lgz.2.2.2
  -- neither laid on nor repealed
  have p100 : ¬ (20000 ≤ x.toInt ∧ x.toInt < 40000) → ¬ (40000 ≤ x.toInt ∧ x.toInt < 40000 + κ 2) → hX7_whyNot_100 l G k (fun r μ' => r = .inl (some (.int (nI (qwhy κ x.toInt)))) ∧ ∃ I', μ' = (I', J, R, S, nx) ∧ I' = I) x (I, J, R, S, nx) := by
    intro n1 n2
    have hd : qwhy κ x.toInt = if x.toInt = -1 then 0 else if qdd κ x.toInt = true then 0 else 1 := by
      unfold qwhy
      by_cases c0 : x.toInt = -1
      · rw [if_pos c0, if_pos c0]
      · rw [if_neg c0, if_neg c0]
        by_cases c1 : 0 ≤ x.toInt ∧ x.toInt ≤ 9999
        · rw [if_pos c1]
          by_cases c2 : x.toInt.toNat / 100 % 10 < κ 1 ∧ 1 ≤ x.toInt.toNat % 100 ∧ x.toInt.toNat % 100 ≤ 24
          · rw [if_pos c2, if_pos (by unfold qdd; rw [decide_eq_true_eq]; exact ⟨c1.1, c1.2, c2⟩)]
          · rw [if_neg c2, if_neg (fun q => by unfold qdd at q; rw [decide_eq_true_eq] at q; exact c2 q.2.2)]
        · rw [if_neg c1, if_neg (by omega), if_neg n2, if_neg (fun q => by unfold qdd at q; rw [decide_eq_true_eq] at q; exact c1 ⟨q.1, q.2.1⟩)]
    refine sX7_whyNot_100 (u1 := if qdd κ x.toInt = true then 1 else 0) (P1 := fun I I' => I' = I) w ?_ ?_ ?_ ?_
    · intro g; rw [am] at g; exact ⟨by rw [hd, if_pos g]; rfl, _, rfl, rfl⟩
    · intro _; exact isDeed_c w wL wl h ho hhb
    · intro g I1 hI1 hu
      subst hI1
      rw [am] at g; rw [ifI] at hu
      exact ⟨by rw [hd, if_neg g, if_neg hu]; rfl, _, rfl, rfl⟩
    · intro g I1 hI1 hu
      subst hI1
      rw [am] at g; rw [ifI, Decidable.not_not] at hu
      exact ⟨by rw [hd, if_neg g, if_pos hu]; rfl, _, rfl, rfl⟩
  have p42 : ¬ (40000 ≤ x.toInt ∧ x.toInt < 40000 + κ 2) → hX7_whyNot_42 l G k (fun r μ' => r = .inl (some (.int (nI (qwhy κ x.toInt)))) ∧ ∃ I', μ' = (I', J, R, S, nx) ∧ I' = I) x (I, J, R, S, nx) := by
    intro n2
    by_cases c2 : 20000 ≤ x.toInt ∧ x.toInt < 40000
    · obtain ⟨n, hn, en⟩ : ∃ n, (20000 ≤ n ∧ n < 40000) ∧ x = lN n := ⟨x.toInt.toNat, by omega, lN_of (by omega) (by omega)⟩
      have f1 : (x - x / (10000 : Int64) * (10000 : Int64)) / (100 : Int64) = lN (n % 10000 / 100) := by
        rw [en, show (100 : Int64) = lN 100 from rfl, show (10000 : Int64) = lN 10000 from rfl, pk_lRem (by omega) (by decide) (by decide), pk_lDiv (by omega) (by decide) (by decide)]
      have f2 : x - x / (100 : Int64) * (100 : Int64) = lN (n % 100) := by
        rw [en, show (100 : Int64) = lN 100 from rfl, pk_lRem (by omega) (by decide) (by decide)]
      have f3 : x.toInt = (n : Int) := by rw [en, lN_toInt (by omega)]
      have b1 : ((0 : Int32) ≤ lg_cmp ((x - x / (10000 : Int64) * (10000 : Int64)) / (100 : Int64)) (Int32.toInt64 (I L 1))) = (κ 1 ≤ n % 10000 / 100) := by rw [lgz.2.2.1, f1, e1, lN_toInt (by omega)]; exact propext (by omega)
      have b3 : ((0 : Int32) < lg_cmp (x - x / (100 : Int64) * (100 : Int64)) (60 : Int64)) = (60 < n % 100) := by rw [lgz.2.1, f2, lN_toInt (by omega)]; exact propext (by show 60 < ((n % 100 : Nat) : Int) ↔ _; omega)
      have hd : qwhy κ x.toInt = if n % 10000 / 100 < κ 1 ∧ n % 100 ≤ 60 then 0 else 1 := by
        unfold qwhy
        rw [f3, if_neg (by omega), if_neg (by omega), Int.toNat_natCast]
        by_cases c3 : (20000 ≤ (n : Int) ∧ (n : Int) ≤ 20999) ∨ (30000 ≤ (n : Int) ∧ (n : Int) ≤ 30999)
        · rw [if_pos c3]
        · rw [if_neg c3, if_neg (by omega), if_neg (by omega)]
      refine sX7_whyNot_42 w wL wl ?_ ?_ ?_ ?_ ?_
      · intro g; rw [a2] at g; omega
      · intro _ g; rw [a4'] at g; omega
      · intro _ _ g; rw [b1] at g; exact ⟨by rw [hd, if_neg (by omega)]; rfl, _, rfl, rfl⟩
      · intro _ _ _ g; rw [b3] at g; exact ⟨by rw [hd, if_neg (by omega)]; rfl, _, rfl, rfl⟩
      · intro _ _ g1 g2; rw [b1] at g1; rw [b3] at g2; exact ⟨by rw [hd, if_pos (by omega)]; rfl, _, rfl, rfl⟩
    · refine sX7_whyNot_42 w wL wl (fun _ => p100 c2 n2) (fun _ _ => p100 c2 n2) ?_ ?_ ?_
      · intro g1 g2; rw [a2] at g1; rw [a4'] at g2; omega
      · intro g1 g2; rw [a2] at g1; rw [a4'] at g2; omega
      · intro g1 g2; rw [a2] at g1; rw [a4'] at g2; omega
  by_cases c4 : 40000 ≤ x.toInt ∧ x.toInt < 40000 + κ 2
  · obtain ⟨n, hn, en⟩ : ∃ n, (40000 ≤ n ∧ n < 40000 + κ 2) ∧ x = lN n := ⟨x.toInt.toNat, by omega, lN_of (by omega) (by omega)⟩
    have f2 : x.toInt32 - (40000 : Int32) = nI (n - 40000) := by rw [en, lN_i, show (40000 : Int32) = nI 40000 from rfl, pk_sub (by omega)]
    have f3 : x.toInt = (n : Int) := by rw [en, lN_toInt (by omega)]
    have er := rep_c (a := n - 40000) h.1 ho (by omega)
    have hd : qwhy κ x.toInt = if (κ 53).testBit (n - 40000) = true then 2 else 0 := by
      unfold qwhy
      rw [f3, if_neg (by omega), if_neg (by omega), if_neg (by omega), if_pos (by omega), Int.toNat_natCast]
    refine Cal.of rfl (by decide +kernel) (by simp) (Nat.le_of_ble_eq_true rfl) rfl (sX7_whyNot_0 w wL wl ?_ ?_ ?_ ?_)
    · intro g; rw [a4] at g; omega
    · intro _ g; rw [a5] at g; omega
    · intro _ _ g; rw [f2, er] at g; exact ⟨by rw [hd, if_neg g]; rfl, _, rfl, rfl⟩
    · intro _ _ g; rw [f2, er, Decidable.not_not] at g; exact ⟨by rw [hd, if_pos g]; rfl, _, rfl, rfl⟩
  · refine Cal.of rfl (by decide +kernel) (by simp) (Nat.le_of_ble_eq_true rfl) rfl (sX7_whyNot_0 w wL wl (fun _ => p42 c4) (fun _ _ => p42 c4) ?_ ?_)
    · intro g1 g2; rw [a4] at g1; rw [a5] at g2; omega
    · intro g1 g2; rw [a4] at g1; rw [a5] at g2; omega
theorem carryOut_c {x : Int64} {L dl pl ld lp : Nat} (w : CF R S nx) (wL : R 14 0 = some L) (wl : LW R S nx L dl pl ld lp) (h : CK I κ L dl pl ld lp) (ho : qok hb pb κ) (hhb : hb < 2 ^ 29) (hv : qwhy κ x.toInt = 0) : Cal l G (k + 5) 0 0 mX7_carryOut [.ref 14, .long x] (I, J, R, S, nx) (fun r μ' => r = .inl none ∧ ∃ I', μ' = (I', J, R, S, nx) ∧ Fr [25, 27, 28, 29] I I' ∧ CK I' (qdoes κ x.toInt) L dl pl ld lp) := by
  have h1 := ho.1
  have h2 := ho.2.1
  have h53 : κ 53 < 256 := ho.2.2.2.2.2.2.2.2.2.1
  unfold qwhy at hv
  by_cases c0 : x.toInt = -1
  · have ex : x.toInt32 = (-1 : Int32) := by
      rw [show x = (-1 : Int64) from Int64.toInt_inj.mp c0]; rfl
    rw [show qdoes κ x.toInt = qhour κ 1 by unfold qdoes; rw [if_pos c0]]
    refine Cal.of rfl (by decide +kernel) (by simp) (Nat.le_of_ble_eq_true rfl) rfl (sX7_carryOut_0 (u3 := 0) (P1 := fun _ _ => True) (P2 := fun _ _ => True) (P3 := fun _ _ => True) w ?_ ?_ ?_ ?_ ?_ ?_ ?_ ?_) <;> intros <;> (first | exact absurd (by with_reducible assumption) ex | exact absurd ex (by with_reducible assumption) | skip)
    rw [h.1.h.1, nI_1]
    have hF : Fr [25] I (up2 I 25 0 (nI (κ 54 + 1))) := Fr.rf.up (by decide)
    have hN := h.1.up0 (t := 0) (v := κ 54 + 1) (by decide)
    have e0 : 7 + prm 0 = 54 := by decide
    rw [e0] at hN
    exact ⟨rfl, _, rfl, hF.wk (by decide), h.st wl h2 hF hN (fun i hi => by unfold qhour; rw [qset_ne (by omega)])⟩
  · rw [if_neg c0] at hv
    have big : ∀ n : Nat, n < 60000 → x = lN n → x.toInt = (n : Int) ∧ x.toInt32 = nI n ∧ ¬ x.toInt32 = (-1 : Int32) := fun n hn en => ⟨by rw [en, lN_toInt (by omega)], by rw [en, lN_i], by rw [en, lN_i]; exact nI_ne_m1 (by omega)⟩
    by_cases c1 : 0 ≤ x.toInt ∧ x.toInt ≤ 9999
    · rw [if_pos c1] at hv
      obtain ⟨n, hn, en⟩ : ∃ n, n ≤ 9999 ∧ x = lN n := ⟨x.toInt.toNat, by omega, lN_of c1.1 (by omega)⟩
      obtain ⟨f3, f4, f5⟩ := big n (by omega) en
      have d2 : ¬ (20000 : Int32) ≤ x.toInt32 := by rw [f4]; exact nI_ge (b := 20000) (by omega) (by decide)
      rw [f3, Int.toNat_natCast] at hv
      have hv2 : n / 100 % 10 < κ 1 ∧ 1 ≤ n % 100 ∧ n % 100 ≤ 24 := by
        by_cases c : n / 100 % 10 < κ 1 ∧ 1 ≤ n % 100 ∧ n % 100 ≤ 24
        · exact c
        · rw [if_neg c] at hv; cases hv
      rw [show qdoes κ x.toInt = qdeed κ (n / 1000) (n / 100 % 10) (n % 100) by unfold qdoes; rw [if_neg c0, f3, if_pos (by omega), Int.toNat_natCast]]
      have g1 : x.toInt32 / (1000 : Int32) = nI (n / 1000) := by rw [f4]; exact pk_div (d := 1000) (by omega) (by decide) (by decide)
      have g2 : x.toInt32 / (100 : Int32) - x.toInt32 / (100 : Int32) / (10 : Int32) * (10 : Int32) = nI (n / 100 % 10) := by
        rw [f4, show nI n / (100 : Int32) = nI (n / 100) from pk_div (d := 100) (by omega) (by decide) (by decide)]
        exact pk_rem (d := 10) (by omega) (by decide) (by decide)
      have g3 : x.toInt32 - x.toInt32 / (100 : Int32) * (100 : Int32) = nI (n % 100) := by rw [f4]; exact pk_rem (d := 100) (by omega) (by decide) (by decide)
      refine Cal.of rfl (by decide +kernel) (by simp) (Nat.le_of_ble_eq_true rfl) rfl (sX7_carryOut_0 (u3 := nI (qcost κ (n / 1000) (n / 100 % 10) (κ 54) (n % 100))) (P1 := fun _ _ => True) (P2 := fun _ _ => True) (P3 := fun I I' => Fr [25, 27, 28, 29] I I' ∧ CK I' (qdeed κ (n / 1000) (n / 100 % 10) (n % 100)) L dl pl ld lp) w ?_ ?_ ?_ ?_ ?_ ?_ ?_ ?_) <;> intros <;> (first | exact absurd (by with_reducible assumption) f5 | exact absurd f5 (by with_reducible assumption) | exact absurd (by with_reducible assumption) d2 | exact absurd d2 (by with_reducible assumption) | skip)
      · rw [g1, g2, g3]; exact doDeed_c w wL wl h ho hhb (by omega) (by omega) ⟨hv2.2.1, hv2.2.2⟩
      · rename_i I1 q1; exact ⟨rfl, _, rfl, q1⟩
    · rw [if_neg c1] at hv
      by_cases c2 : (20000 ≤ x.toInt ∧ x.toInt ≤ 20999) ∨ (30000 ≤ x.toInt ∧ x.toInt ≤ 30999)
      · rw [if_pos c2] at hv
        obtain ⟨n, hn, en⟩ : ∃ n, ((20000 ≤ n ∧ n ≤ 20999) ∨ (30000 ≤ n ∧ n ≤ 30999)) ∧ x = lN n := ⟨x.toInt.toNat, by omega, lN_of (by omega) (by omega)⟩
        obtain ⟨f3, f4, f5⟩ := big n (by omega) en
        rw [f3, Int.toNat_natCast] at hv
        have hv2 : n % 10000 / 100 < κ 1 ∧ n % 100 ≤ 60 := by
          by_cases c : n % 10000 / 100 < κ 1 ∧ n % 100 ≤ 60
          · exact c
          · rw [if_neg c] at hv; cases hv
        have d2 : (20000 : Int32) ≤ x.toInt32 := by rw [f4]; exact nI_le (a := 20000) (by omega) (by omega)
        have d4 : ¬ (40000 : Int32) ≤ x.toInt32 := by rw [f4]; exact nI_ge (b := 40000) (by omega) (by decide)
        have g1 : (x.toInt32 - x.toInt32 / (10000 : Int32) * (10000 : Int32)) / (100 : Int32) = nI (n % 10000 / 100) := by
          rw [f4, show nI n - nI n / (10000 : Int32) * (10000 : Int32) = nI (n % 10000) from pk_rem (d := 10000) (by omega) (by decide) (by decide)]
          exact pk_div (d := 100) (by omega) (by decide) (by decide)
        have g3 : x.toInt32 - x.toInt32 / (100 : Int32) * (100 : Int32) = nI (n % 100) := by rw [f4]; exact pk_rem (d := 100) (by omega) (by decide) (by decide)
        by_cases c3 : n < 30000
        · have d3 : ¬ (30000 : Int32) ≤ x.toInt32 := by rw [f4]; exact nI_ge (b := 30000) c3 (by decide)
          rw [show qdoes κ x.toInt = qlay κ (7 + 0) (n % 10000 / 100) (n % 100) 6 by unfold qdoes; rw [if_neg c0, f3, if_neg (by omega), if_pos (by omega), if_pos (by omega), Int.toNat_natCast]]
          refine Cal.of rfl (by decide +kernel) (by simp) (Nat.le_of_ble_eq_true rfl) rfl (sX7_carryOut_0 (u3 := 0) (P1 := fun _ _ => True) (P2 := fun I I' => Fr [25] I I' ∧ CK I' (qlay κ (7 + 0) (n % 10000 / 100) (n % 100) 6) L dl pl ld lp) (P3 := fun I I' => True) w ?_ ?_ ?_ ?_ ?_ ?_ ?_ ?_) <;> intros <;> (first | exact absurd (by with_reducible assumption) f5 | exact absurd f5 (by with_reducible assumption) | exact absurd (by with_reducible assumption) d2 | exact absurd d2 (by with_reducible assumption) | exact absurd (by with_reducible assumption) d4 | exact absurd d4 (by with_reducible assumption) | exact absurd (by with_reducible assumption) d3 | exact absurd d3 (by with_reducible assumption) | skip)
          · rw [g1, g3]; exact layOn_c (what := 0) w wL wl h ho hhb (by omega) (Or.inl rfl) (by omega)
          · rename_i I1 q1; exact ⟨rfl, _, rfl, q1.1.wk (by decide), q1.2⟩
        · have d3 : (30000 : Int32) ≤ x.toInt32 := by rw [f4]; exact nI_le (a := 30000) (by omega) (by omega)
          rw [show qdoes κ x.toInt = qlay κ (7 + 15) (n % 10000 / 100) (n % 100) 6 by unfold qdoes; rw [if_neg c0, f3, if_neg (by omega), if_pos (by omega), if_neg (by omega), Int.toNat_natCast]]
          refine Cal.of rfl (by decide +kernel) (by simp) (Nat.le_of_ble_eq_true rfl) rfl (sX7_carryOut_0 (u3 := 0) (P2 := fun _ _ => True) (P1 := fun I I' => Fr [25] I I' ∧ CK I' (qlay κ (7 + 15) (n % 10000 / 100) (n % 100) 6) L dl pl ld lp) (P3 := fun I I' => True) w ?_ ?_ ?_ ?_ ?_ ?_ ?_ ?_) <;> intros <;> (first | exact absurd (by with_reducible assumption) f5 | exact absurd f5 (by with_reducible assumption) | exact absurd (by with_reducible assumption) d2 | exact absurd d2 (by with_reducible assumption) | exact absurd (by with_reducible assumption) d4 | exact absurd d4 (by with_reducible assumption) | exact absurd (by with_reducible assumption) d3 | exact absurd d3 (by with_reducible assumption) | skip)
          · rw [g1, g3]; exact layOn_c (what := 15) w wL wl h ho hhb (by omega) (Or.inr rfl) (by omega)
          · rename_i I1 q1; exact ⟨rfl, _, rfl, q1.1.wk (by decide), q1.2⟩
      · rw [if_neg c2] at hv
        by_cases c4 : 40000 ≤ x.toInt ∧ x.toInt < 40000 + κ 2
        · obtain ⟨n, hn, en⟩ : ∃ n, (40000 ≤ n ∧ n < 40000 + κ 2) ∧ x = lN n := ⟨x.toInt.toNat, by omega, lN_of (by omega) (by omega)⟩
          obtain ⟨f3, f4, f5⟩ := big n (by omega) en
          have d2 : (20000 : Int32) ≤ x.toInt32 := by rw [f4]; exact nI_le (a := 20000) (by omega) (by omega)
          have d4 : (40000 : Int32) ≤ x.toInt32 := by rw [f4]; exact nI_le (a := 40000) (by omega) (by omega)
          have g1 : x.toInt32 - (40000 : Int32) = nI (n - 40000) := by rw [f4, show (40000 : Int32) = nI 40000 from rfl, pk_sub (by omega)]
          rw [show qdoes κ x.toInt = qrep κ (n - 40000) by unfold qdoes; rw [if_neg c0, f3, if_neg (by omega), if_neg (by omega), Int.toNat_natCast]]
          refine Cal.of rfl (by decide +kernel) (by simp) (Nat.le_of_ble_eq_true rfl) rfl (sX7_carryOut_0 (u3 := 0) (P1 := fun _ _ => True) (P2 := fun _ _ => True) (P3 := fun _ _ => True) w ?_ ?_ ?_ ?_ ?_ ?_ ?_ ?_) <;> intros <;> (first | exact absurd (by with_reducible assumption) f5 | exact absurd f5 (by with_reducible assumption) | exact absurd (by with_reducible assumption) d2 | exact absurd d2 (by with_reducible assumption) | exact absurd (by with_reducible assumption) d4 | exact absurd d4 (by with_reducible assumption) | skip)
          rw [h.1.h.2.2, g1, shl_n (by omega), fa_or]
          have hF : Fr [25] I (up2 I 25 2 (nI (κ 53 ||| 2 ^ (n - 40000)))) := Fr.rf.up (by decide)
          have hN := h.1.up0 (t := 2) (v := κ 53 ||| 2 ^ (n - 40000)) (by decide)
          have e0 : 7 + prm 2 = 53 := by decide
          rw [e0] at hN
          exact ⟨rfl, _, rfl, hF.wk (by decide), h.st wl h2 hF hN (fun i hi => by unfold qrep; rw [qset_ne (by omega)])⟩
        · rw [if_neg c4] at hv; cases hv
end A
