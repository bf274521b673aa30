/-! the reference: the wards of the first free way -/
def qfo (s : Nat) : Nat := fa_first (fun i => s.testBit i) 5
theorem bit_lt {s v : Nat} (hs : s < 32) (h : s.testBit v = true) : v < 5 := by
  rcases Nat.lt_or_ge v 5 with c | c
  · exact c
  · rw [Nat.testBit_lt_two_pow (Nat.lt_of_lt_of_le hs (Nat.pow_le_pow_right (by decide) c : 2 ^ 5 ≤ 2 ^ v))] at h; cases h
theorem qfo_in {s v : Nat} (hs : s < 32) (h : s.testBit v = true) : qfo s < 5 ∧ s.testBit (qfo s) = true := by
  have hv := bit_lt hs h
  have hlt : qfo s < 5 := by
    rcases Nat.lt_or_ge (qfo s) 5 with c | c
    · exact c
    · have := fa_first_no (fun i => s.testBit i) 5 v (show v < qfo s by omega)
      rw [h] at this; cases this
  exact ⟨hlt, fa_first_yes (fun i => s.testBit i) 5 hlt⟩
/-- from where the end is reached in time: so many hours ahead of it -/
def qcr (κ : Nat → Nat) (may : Nat → Nat) (n to : Nat) : Nat → Nat
  | 0 => 2 ^ to
  | d + 1 => qnx κ (qcr κ may n to d) &&& may (n - (d + 1))
def qpt (κ : Nat → Nat) (can : Nat → Nat) (fr : Nat) : Nat → Nat
  | 0 => fr
  | i + 1 => qfo (qnx κ (2 ^ qpt κ can fr i) &&& can (i + 1))
section A
variable {l : Launch} {G : Gh} {k : Nat} {I : Nat → Nat → Int32} {J : Nat → Nat → Int64} {R : Nat → Nat → Option Nat} {S : Nat → Nat × Nat} {nx : Nat} {κ : Nat → Nat} {hb pb : Nat}
theorem firstOf_r {s v : Nat} (hs : s < 32) (h : s.testBit v = true) : Cal l G (k + 1) 0 0 mX12_firstOf [.int (nI s)] (I, J, R, S, nx) (fun r μ' => r = .inl (some (.int (nI (qfo s)))) ∧ ∃ I', μ' = (I', J, R, S, nx) ∧ I' = I) := by
  obtain ⟨h1, h2⟩ := qfo_in hs h
  have h3 : ∀ j, j < qfo s → s.testBit j = false := fun j hj => fa_first_no (fun i => s.testBit i) 5 j hj
  refine Cal.of rfl (by decide +kernel) (by simp) (Nat.le_of_ble_eq_true rfl) rfl (sX12_firstOf_0 ?_)
  refine upto (σ := Unit) (W := fun i _ => hX12_firstOf_2 l G k _ (nI s) (nI i) (I, J, R, S, nx)) (P := fun i _ => True) (qfo s) ?_ ?_ (i := 0) (s := ()) (Nat.zero_le _) trivial
  · intro _ _
    have c1 : ¬ v_X12_has (nI s) (nI (qfo s)) = 0 := by rw [has_n (by omega) (by omega), if_pos h2]; decide
    refine sX12_firstOf_2 ?_ ?_ <;> intros <;> (first | exact absurd (by with_reducible assumption) c1 | exact absurd c1 (by with_reducible assumption) | skip)
    exact ⟨rfl, _, rfl, rfl⟩
  · intro i _ hi _ ih
    have c1 : v_X12_has (nI s) (nI i) = 0 := by rw [has_n (by omega) (by omega), h3 i hi]; rfl
    refine sX12_firstOf_2 ?_ ?_ <;> intros <;> (first | exact absurd (by with_reducible assumption) c1 | exact absurd c1 (by with_reducible assumption) | skip)
    rw [nI_1]; exact ih () trivial
theorem qnx_bit (κ : Nat → Nat) (s v : Nat) : (qnx κ s).testBit v = true ↔ (s.testBit v = true ∨ ∃ u, u < κ 1 ∧ s.testBit u = true ∧ (κ (61 + u)).testBit v = true) := qnr_bit κ s v (κ 1)
theorem two_bit {a v : Nat} : (2 ^ a).testBit v = true ↔ v = a := by
  by_cases c : v = a
  · subst c; simp [Nat.testBit_two_pow_self]
  · simp [Nat.testBit_two_pow_of_ne (Ne.symm c), c]
theorem qfe_bit {kd t v : Nat} (h : (qfe κ kd t).testBit v = true) : v < κ 1 := by
  unfold qfe at h
  rw [bset_bit] at h
  simp at h
  exact h.1
theorem qshut_bit {sh : Option Nat} {a v : Nat} (h : (qshut sh a).testBit v = true) : a.testBit v = true := by
  cases sh with
  | none => exact h
  | some s => unfold qshut at h; rw [Nat.testBit_and, Bool.and_eq_true] at h; exact h.1
theorem qmay_bit {kd fr t v : Nat} {sh : Option Nat} (h : (qmay κ kd fr sh t).testBit v = true) : v < κ 1 := by
  cases t with
  | zero => unfold qmay at h; rw [Nat.testBit_and, Bool.and_eq_true] at h; exact qfe_bit h.1
  | succ t => unfold qmay at h; have := qshut_bit h; rw [Nat.testBit_and, Bool.and_eq_true] at this; exact qfe_bit this.2
theorem qmay_s {kd fr t v : Nat} {sh : Option Nat} (h : (qmay κ kd fr sh (t + 1)).testBit v = true) : (qnx κ (qmay κ kd fr sh t)).testBit v = true := by
  unfold qmay at h; have := qshut_bit h; rw [Nat.testBit_and, Bool.and_eq_true] at this; exact this.1
/-- one is there -/
theorem qcr_some {kd fr to n : Nat} (hl : lok κ) (hto : to < κ 1) (hn : (qmay κ kd fr none n).testBit to = true) : ∀ d, d ≤ n → ∃ v, v < κ 1 ∧ (qcr κ (qmay κ kd fr none) n to d).testBit v = true ∧ (qmay κ kd fr none (n - d)).testBit v = true
  | 0, _ => ⟨to, hto, two_bit.mpr rfl, hn⟩
  | d + 1, hd => by
    obtain ⟨v, h1, h2, h3⟩ := qcr_some hl hto hn d (by omega)
    rw [show n - d = n - (d + 1) + 1 by omega] at h3
    have h4 := (qnx_bit κ _ v).mp (qmay_s h3)
    have k1 := hl.1
    rcases h4 with h4 | ⟨u, g1, g2, g3⟩
    · refine ⟨v, h1, ?_, h4⟩
      unfold qcr
      rw [Nat.testBit_and, Bool.and_eq_true]
      exact ⟨(qnx_bit κ _ v).mpr (Or.inl h2), h4⟩
    · refine ⟨u, g1, ?_, g2⟩
      unfold qcr
      rw [Nat.testBit_and, Bool.and_eq_true]
      refine ⟨(qnx_bit κ _ u).mpr (Or.inr ⟨v, h1, h2, ?_⟩), g2⟩
      rw [← hl.2.2.2.2.2.2.2.2.2.2.1 u v (by omega) (by omega)]; exact g3
theorem qcr_bit {kd fr to n d v : Nat} (hto : to < κ 1) (h : (qcr κ (qmay κ kd fr none) n to d).testBit v = true) : v < κ 1 := by
  cases d with
  | zero => rw [two_bit.mp h]; exact hto
  | succ d => unfold qcr at h; rw [Nat.testBit_and, Bool.and_eq_true] at h; exact qmay_bit h.2
theorem qcr_lt (hl : lok κ) {kd fr to n d : Nat} (hto : to < κ 1) : qcr κ (qmay κ kd fr none) n to d < 32 := by
  refine Nat.lt_of_lt_of_le (Nat.lt_pow_two_of_testBit (n := κ 1) _ (fun i hi => ?_)) (Nat.pow_le_pow_right (by decide) hl.1 : 2 ^ κ 1 ≤ 2 ^ 5)
  cases hc : (qcr κ (qmay κ kd fr none) n to d).testBit i with
  | false => rfl
  | true => have := qcr_bit hto hc; omega
/-- a step along -/
theorem qpt_step {kd fr to n i v : Nat} (hl : lok κ) (hto : to < κ 1) (hi : i < n) (hv : v < κ 1) (h : (qcr κ (qmay κ kd fr none) n to (n - i)).testBit v = true) : ∃ u, (qnx κ (2 ^ v) &&& qcr κ (qmay κ kd fr none) n to (n - (i + 1))).testBit u = true := by
  have k1 := hl.1
  rw [show n - i = n - (i + 1) + 1 by omega] at h
  unfold qcr at h
  rw [Nat.testBit_and, Bool.and_eq_true] at h
  rcases (qnx_bit κ _ v).mp h.1 with h4 | ⟨u, g1, g2, g3⟩
  · refine ⟨v, ?_⟩
    rw [Nat.testBit_and, Bool.and_eq_true]
    exact ⟨(qnx_bit κ _ v).mpr (Or.inl (two_bit.mpr rfl)), h4⟩
  · refine ⟨u, ?_⟩
    rw [Nat.testBit_and, Bool.and_eq_true]
    refine ⟨(qnx_bit κ _ u).mpr (Or.inr ⟨v, hv, two_bit.mpr rfl, ?_⟩), g2⟩
    rw [← hl.2.2.2.2.2.2.2.2.2.2.1 u v (by omega) (by omega)]; exact g3
theorem qpt_in {kd fr to n : Nat} (hl : lok κ) (hfr : fr < κ 1) (hto : to < κ 1) (hn : (qmay κ kd fr none n).testBit to = true) : ∀ i, i ≤ n → qpt κ (fun t => qcr κ (qmay κ kd fr none) n to (n - t)) fr i < κ 1 ∧ (qcr κ (qmay κ kd fr none) n to (n - i)).testBit (qpt κ (fun t => qcr κ (qmay κ kd fr none) n to (n - t)) fr i) = true
  | 0, _ => by
    obtain ⟨v, h1, h2, h3⟩ := qcr_some hl hto hn n (Nat.le_refl _)
    rw [Nat.sub_self] at h3
    have : v = fr := by
      unfold qmay at h3
      rw [Nat.testBit_and, Bool.and_eq_true] at h3
      exact two_bit.mp h3.2
    subst this
    exact ⟨hfr, h2⟩
  | i + 1, hi => by
    obtain ⟨h1, h2⟩ := qpt_in hl hfr hto hn i (by omega)
    obtain ⟨u, hu⟩ := qpt_step (i := i) hl hto (by omega) h1 h2
    have hlt : qnx κ (2 ^ qpt κ (fun t => qcr κ (qmay κ kd fr none) n to (n - t)) fr i) &&& qcr κ (qmay κ kd fr none) n to (n - (i + 1)) < 32 := Nat.lt_of_le_of_lt Nat.and_le_right (qcr_lt hl hto)
    obtain ⟨q1, q2⟩ := qfo_in hlt hu
    rw [Nat.testBit_and, Bool.and_eq_true] at q2
    exact ⟨qcr_bit hto q2.2, q2.2⟩
def qat (κ : Nat → Nat) (kd fr to j : Nat) : Option Nat := match qway κ kd fr to none with
  | none => none
  | some n => if n < j then none else some (qpt κ (fun t => qcr κ (qmay κ kd fr none) n to (n - t)) fr j)
def aFreeAt (κ : Nat → Nat) (x1 x2 x3 x4 : Int32) : Nat × Int32 := if gY κ x1 x2 x3 = 0 then (if 0 ≤ x4 then (0, jP (qat κ (cN x1) (cN x2) (cN x3) (cN x4))) else (2, 0)) else (gY κ x1 x2 x3, 0)
theorem freeAt_r {x1 x2 x3 x4 : Int32} (w : MW R S nx) (hK : Kn I κ) (hs : sok hb pb κ) (hhb : hb < 2 ^ 28) : Cal l G (k + 8) 0 0 mX12_freeAt [.ref 43, .int x1, .int x2, .int x3, .int x4] (I, J, R, S, nx) (fun r μ' => r = .inl (some (.int ((aFreeAt κ x1 x2 x3 x4).2))) ∧ ∃ I', μ' = (I', J, R, S, nx) ∧ PU (aFreeAt κ x1 x2 x3 x4).1 κ I I') := by
  have ho := hs.q
  have hl := hs.1
  have h1w := ho.1
  obtain ⟨o1, o2⟩ := way_n (x1 := x1) (x2 := x2) (x3 := x3) hK ho
  have o4 : (w_X12_isWayOut I x1 x2 x3) 43 4 = nI (gY κ x1 x2 x3) := by rw [o2]; simp [up2]
  by_cases g : gY κ x1 x2 x3 = 0
  · rw [if_pos g] at o1
    rw [g] at o2
    have o5 : (w_X12_isWayOut I x1 x2 x3) 43 4 ≤ 0 := by rw [o4, g]; decide
    by_cases g2 : 0 ≤ x4
    · rw [show aFreeAt κ x1 x2 x3 x4 = (0, jP (qat κ (cN x1) (cN x2) (cN x3) (cN x4))) by unfold aFreeAt; rw [if_pos g, if_pos g2]]
      dsimp only
      obtain ⟨a, b, c, rfl, rfl, rfl, ha, hb1, hc1, hb5, hc5, ea, eb, ec⟩ := gY0 ho g
      obtain ⟨d, hd, rfl⟩ := nI_of (x := x4) (fun h => absurd g2 (by rw [fa_le]; rw [fa_lt] at h; omega))
      rw [ea, eb, ec, show cN (nI d) = d from nI_clamp hd]
      unfold qat
      refine Cal.of rfl (by decide +kernel) (by simp) (Nat.le_of_ble_eq_true rfl) rfl (sX12_freeAt_0 (u2 := 0) (u4 := jP (qway κ a b c none)) (P1 := fun I I' => True) (P2 := fun I I' => True) (P3 := fun I I' => Fr [49, 50, 51, 52, 53, 54, 57] I I' ∧ laidW I' κ a (κ 1)) (P4 := fun I I' => Fr [58] I I' ∧ ∀ t, t < 61 → I' 58 t = nI (qmay κ a b none t)) w ?_ ?_ ?_ ?_ ?_ ?_ ?_ ?_ ?_ ?_ ?_ ?_ ?_ ?_ ?_) <;> intros <;> (first | exact absurd (by with_reducible assumption) o1 | exact absurd o1 (by with_reducible assumption) | exact absurd (by with_reducible assumption) g2 | exact absurd g2 (by with_reducible assumption) | exact absurd (by with_reducible assumption) o5 | exact absurd o5 (by with_reducible assumption) | skip)
      · rw [o2]; exact laysWays_r w hK.up4 ho (by omega) (by omega)
      · rename_i I1 h1
        rw [o2] at h1
        exact laysFree_r (sh := none) w (hK.up4.fr h1.1 (by decide)) ho hb5 hc5 (fun s h => by cases h) h1.2
      · rename_i I1 h1 I2 h2 hu
        rw [o2] at h1
        have hF2 := h1.1.tr h2.1 (r3 := [49, 50, 51, 52, 53, 54, 57, 58]) (by decide)
        cases hq : qway κ a b c none with
        | none => exact ⟨rfl, _, rfl, PU.ok rfl hF2 (by decide) (by decide) (hK.up4.fr hF2 (by decide))⟩
        | some n => rw [hq] at hu; exact absurd hu (jP_m1 (by have := (qfi_le hq).1; omega))
      · rename_i I1 h1 I2 h2 hu hle
        cases hq : qway κ a b c none with
        | none => rw [hq] at hu; exact absurd rfl hu
        | some n => exact vp_in_nI (qfi_le hq).1 (by decide)
      · rename_i I1 h1 I2 h2 hu hle
        rw [o2] at h1
        have hF2 := h1.1.tr h2.1 (r3 := [49, 50, 51, 52, 53, 54, 57, 58, 59]) (by decide)
        cases hq : qway κ a b c none with
        | none => rw [hq] at hu; exact absurd rfl hu
        | some n =>
          obtain ⟨hn, hto⟩ := qfi_le hq
          rw [hq, show jP (some n) = nI n from rfl, nI_leI hd (by omega)] at hle
          rw [show jP (some n) = nI n from rfl, shl_n (by omega), nI_clamp (by omega)]
          dsimp only
          rw [if_neg (by omega)]
          obtain ⟨can, hcan⟩ : ∃ can, (fun t => qcr κ (qmay κ a b none) n c (n - t)) = can := ⟨_, rfl⟩
          have hci : ∀ t, qcr κ (qmay κ a b none) n c (n - t) = can t := fun t => congrFun hcan t
          have hpt := qpt_in hl hb1 hc1 hto
          rw [hcan] at hpt ⊢
          have hcl : ∀ t, can t < 32 := fun t => by rw [← hci]; exact qcr_lt hl hc1
          -- back from the end
          have back : ∀ (q : Nat) (I3 : Nat → Nat → Int32), q ≤ n → (Fr [49, 50, 51, 52, 53, 54, 57, 58, 59] (up2 I 43 4 (nI 0)) I3 ∧ (∀ t, t < 61 → I3 58 t = nI (qmay κ a b none t)) ∧ ∀ t, q ≤ t → t ≤ n → I3 59 t = nI (can t)) → hX12_freeAt_74 l G k (fun r μ' => r = .inl (some (.int (jP (some (qpt κ can b d))))) ∧ ∃ I', μ' = (I', J, R, S, nx) ∧ PU 0 κ I I') (nI b) (nI d) (nI q - (1 : Int32)) (I3, J, R, S, nx) := by
            intro q
            induction q with
            | zero =>
              intro I3 _ ⟨hF, hM, hC⟩
              have c1 : nI 0 - (1 : Int32) < 0 := by decide
              refine sX12_freeAt_74 (u1 := 0) (P1 := fun _ _ => True) w ?_ ?_ ?_ ?_ ?_ ?_ <;> intros <;> (first | exact absurd (by with_reducible assumption) c1 | exact absurd c1 (by with_reducible assumption) | skip)
              refine upto (σ := Unit) (W := fun i _ => hX12_freeAt_119 l G k _ (nI d) (nI (qpt κ can b i)) (nI (i + 1)) (I3, J, R, S, nx)) (P := fun i _ => True) d ?_ ?_ (i := 0) (s := ()) (Nat.zero_le _) trivial
              · intro _ _
                have d1 : nI d < nI (d + 1) := nI_lt (by omega) (by omega)
                refine sX12_freeAt_119 (u1 := 0) (u2 := 0) (P1 := fun _ _ => True) (P2 := fun _ _ => True) w ?_ ?_ ?_ ?_ ?_ <;> intros <;> (first | exact absurd (by with_reducible assumption) d1 | exact absurd d1 (by with_reducible assumption) | skip)
                exact ⟨rfl, _, rfl, PU.ok rfl hF (by decide) (by decide) (hK.up4.fr hF (by decide))⟩
              · intro i _ hi _ ih
                have d1 : ¬ nI d < nI (i + 1) := nI_nlt (by omega) (by omega)
                have hK3 := hK.up4.fr hF (by decide)
                obtain ⟨p1, p2⟩ := hpt i (by omega)
                obtain ⟨u, hu2⟩ := qpt_step (i := i) hl hc1 (by omega) p1 p2
                rw [hci] at hu2
                have hlt : qnx κ (2 ^ qpt κ can b i) &&& can (i + 1) < 32 := Nat.lt_of_le_of_lt Nat.and_le_right (hcl _)
                have h2l : 2 ^ qpt κ can b i < 32 := Nat.pow_lt_pow_right (by decide) (by omega : qpt κ can b i < 5)
                have e59 : I3 59 (nI (i + 1)).toNatClampNeg = nI (can (i + 1)) := by rw [nI_clamp (by omega)]; exact hC _ (by omega) (by omega)
                refine sX12_freeAt_119 (u1 := nI (qnx κ (2 ^ qpt κ can b i))) (u2 := nI (qpt κ can b (i + 1))) (P1 := fun I I' => I' = I) (P2 := fun I I' => I' = I) w ?_ ?_ ?_ ?_ ?_ <;> intros <;> (first | exact absurd (by with_reducible assumption) d1 | exact absurd d1 (by with_reducible assumption) | skip)
                · rw [shl_n (by omega)]; exact nextTo_r w hK3 ho h2l
                · exact vp_in_nI (by omega) (by decide)
                · rename_i I4 h4
                  subst h4
                  rw [e59, fa_and]
                  exact firstOf_r hlt hu2
                · rename_i I4 h4 I5 h5
                  subst h4; subst h5
                  rw [nI_1]; exact ih () trivial
            | succ q ih =>
              intro I3 hqn ⟨hF, hM, hC⟩
              have e1 : nI (q + 1) - (1 : Int32) = nI q := nI_pred q
              rw [e1]
              have c1 : ¬ nI q < 0 := nI_pos (by omega)
              have hK3 := hK.up4.fr hF (by decide)
              have e59 : I3 59 (nI q + (1 : Int32)).toNatClampNeg = nI (can (q + 1)) := by rw [nI_1, nI_clamp (by omega)]; exact hC _ (by omega) (by omega)
              refine sX12_freeAt_74 (u1 := nI (qnx κ (can (q + 1)))) (P1 := fun I I' => I' = I) w ?_ ?_ ?_ ?_ ?_ ?_ <;> intros <;> (first | exact absurd (by with_reducible assumption) c1 | exact absurd c1 (by with_reducible assumption) | skip)
              · rw [nI_1]; exact vp_in_nI (by omega) (by decide)
              · rw [e59]; exact nextTo_r w hK3 ho (hcl _)
              · exact vp_in_nI (by omega) (by decide)
              · exact vp_in_nI (by omega) (by decide)
              · rename_i I4 h4
                subst h4
                rw [nI_clamp (by omega), hM q (by omega), fa_and, show nI q + (-1 : Int32) = nI q - (1 : Int32) by rw [← Int32.sub_eq_add_neg]]
                refine ih _ (by omega) ⟨hF.up (by decide), fun t ht => ?_, fun t h1 h2 => ?_⟩
                · have := hM t ht; simpa [up2] using this
                · by_cases ct : t = q
                  · subst ct
                    simp only [up2, if_true]
                    have : can t = qnx κ (can (t + 1)) &&& qmay κ a b none t := by
                      rw [← hci t, ← hci (t + 1), show n - t = n - (t + 1) + 1 by omega]
                      show _ &&& qmay κ a b none (n - (n - (t + 1) + 1)) = _
                      rw [show n - (n - (t + 1) + 1) = t by omega]
                    rw [this]
                  · simp only [up2, if_true, if_neg ct]; exact hC t (by omega) h2
          refine back n _ (Nat.le_refl _) ⟨hF2.up (by decide), fun t ht => ?_, fun t h3 h4 => ?_⟩
          · have := h2.2 t ht; simpa [up2] using this
          · have : t = n := by omega
            subst this
            simp only [up2, if_true]
            rw [← hci, Nat.sub_self]; rfl
      · rename_i I1 h1 I2 h2 hu hle
        rw [o2] at h1
        have hF2 := h1.1.tr h2.1 (r3 := [49, 50, 51, 52, 53, 54, 57, 58]) (by decide)
        cases hq : qway κ a b c none with
        | none => rw [hq] at hu; exact absurd rfl hu
        | some n =>
          have hn := (qfi_le hq).1
          rw [hq, show jP (some n) = nI n from rfl, nI_leI hd (by omega)] at hle
          dsimp only
          rw [if_pos (by omega)]
          exact ⟨rfl, _, rfl, PU.ok rfl hF2 (by decide) (by decide) (hK.up4.fr hF2 (by decide))⟩
    · rw [show aFreeAt κ x1 x2 x3 x4 = (2, 0) by unfold aFreeAt; rw [if_pos g, if_neg g2]]
      refine Cal.of rfl (by decide +kernel) (by simp) (Nat.le_of_ble_eq_true rfl) rfl (sX12_freeAt_0 (u2 := 0) (u4 := 0) (P1 := fun I I' => True) (P2 := fun I I' => True) (P3 := fun I I' => True) (P4 := fun I I' => True) w ?_ ?_ ?_ ?_ ?_ ?_ ?_ ?_ ?_ ?_ ?_ ?_ ?_ ?_ ?_) <;> intros <;> (first | exact absurd (by with_reducible assumption) o1 | exact absurd o1 (by with_reducible assumption) | exact absurd (by with_reducible assumption) g2 | exact absurd g2 (by with_reducible assumption) | skip)
      rw [o2, up2_2]
      exact ⟨rfl, _, rfl, PU.fail hK rfl⟩
  · rw [show aFreeAt κ x1 x2 x3 x4 = (gY κ x1 x2 x3, 0) by unfold aFreeAt; rw [if_neg g]]
    rw [if_neg g] at o1
    have hle := gY_le κ x1 x2 x3
    have o3 : ¬ v_X12_isWayOut I x1 x2 x3 = 0 := by rw [o1]; decide
    have o5 : ¬ (w_X12_isWayOut I x1 x2 x3) 43 4 ≤ 0 := by rw [o4]; exact nI_nle (by omega) (by omega)
    refine Cal.of rfl (by decide +kernel) (by simp) (Nat.le_of_ble_eq_true rfl) rfl (sX12_freeAt_0 (u2 := 0) (u4 := 0) (P1 := fun I I' => True) (P2 := fun I I' => True) (P3 := fun I I' => True) (P4 := fun I I' => True) w ?_ ?_ ?_ ?_ ?_ ?_ ?_ ?_ ?_ ?_ ?_ ?_ ?_ ?_ ?_) <;> intros <;> (first | exact absurd (by with_reducible assumption) o3 | exact absurd o3 (by with_reducible assumption) | exact absurd (by with_reducible assumption) o5 | exact absurd o5 (by with_reducible assumption) | skip)
    rw [o2]
    exact ⟨rfl, _, rfl, PU.fail hK rfl⟩
end A
