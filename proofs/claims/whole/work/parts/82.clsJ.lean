/-! the class: ways, more -/
section A
variable {l : Launch} {G : Gh} {k : Nat} {I : Nat → Nat → Int32} {J : Nat → Nat → Int64} {R : Nat → Nat → Option Nat} {S : Nat → Nat × Nat} {nx : Nat} {κ : Nat → Nat} {hb pb : Nat}
theorem may_qfe {kd fr t v : Nat} {sh : Option Nat} (h : (qmay κ kd fr sh t).testBit v = true) : (qfe κ kd t).testBit v = true := by
  cases t with
  | zero => unfold qmay at h; rw [Nat.testBit_and, Bool.and_eq_true] at h; exact h.1
  | succ t => unfold qmay at h; have := qshut_bit h; rw [Nat.testBit_and, Bool.and_eq_true] at this; exact this.2
theorem may_in {kd fr t v : Nat} (h1 : (qnx κ (qmay κ kd fr none t)).testBit v = true) (h2 : (qfe κ kd (t + 1)).testBit v = true) : (qmay κ kd fr none (t + 1)).testBit v = true := by
  unfold qmay; show Nat.testBit (_ &&& _) v = true
  rw [Nat.testBit_and, h1, h2]; rfl
theorem rc_up {kd fr to n d v : Nat} (hn : (qmay κ kd fr none n).testBit to = true) (hd : d < n) (h1 : (qcr κ (qfe κ kd) n to d).testBit v = true) (h2 : (qnx κ (qmay κ kd fr none (n - (d + 1)))).testBit v = true) : (qmay κ kd fr none (n - d)).testBit v = true := by
  cases d with
  | zero => rw [two_bit.mp h1]; exact hn
  | succ d =>
    unfold qcr at h1
    rw [Nat.testBit_and, Bool.and_eq_true] at h1
    have := h1.2
    rw [show n - (d + 1) = n - (d + 1 + 1) + 1 by omega] at this ⊢
    exact may_in h2 this
theorem rc_can {kd fr to n : Nat} (hl : lok κ) (hto : to < κ 1) (hn : (qmay κ kd fr none n).testBit to = true) : ∀ d, d ≤ n → ∀ v, (qcr κ (qmay κ kd fr none) n to d).testBit v = true ↔ ((qcr κ (qfe κ kd) n to d).testBit v = true ∧ (qmay κ kd fr none (n - d)).testBit v = true)
  | 0, _, v => by
    show ((2 ^ to).testBit v = true) ↔ ((2 ^ to).testBit v = true ∧ _)
    exact ⟨fun g => ⟨g, by rw [two_bit.mp g]; exact hn⟩, fun g => g.1⟩
  | d + 1, hd, v => by
    have ih := rc_can hl hto hn d (by omega)
    have k1 := hl.1
    unfold qcr
    rw [Nat.testBit_and, Nat.testBit_and, Bool.and_eq_true, Bool.and_eq_true]
    constructor
    · rintro ⟨g1, g2⟩
      refine ⟨⟨?_, may_qfe g2⟩, g2⟩
      rcases (qnx_bit κ _ v).mp g1 with q | ⟨u, q1, q2, q3⟩
      · exact (qnx_bit κ _ v).mpr (Or.inl ((ih v).mp q).1)
      · exact (qnx_bit κ _ v).mpr (Or.inr ⟨u, q1, ((ih u).mp q2).1, q3⟩)
    · rintro ⟨⟨g1, g2⟩, g3⟩
      refine ⟨?_, g3⟩
      rcases (qnx_bit κ _ v).mp g1 with q | ⟨u, q1, q2, q3⟩
      · exact (qnx_bit κ _ v).mpr (Or.inl ((ih v).mpr ⟨q, rc_up hn (by omega) q ((qnx_bit κ _ v).mpr (Or.inl g3))⟩))
      · have hv := qmay_bit g3
        refine (qnx_bit κ _ v).mpr (Or.inr ⟨u, q1, (ih u).mpr ⟨q2, rc_up hn (by omega) q2 ((qnx_bit κ _ u).mpr (Or.inr ⟨v, hv, g3, ?_⟩))⟩, q3⟩)
        rw [← hl.2.2.2.2.2.2.2.2.2.2.1 u v (by omega) (by omega)]; exact q3
theorem step_eq {kd fr to n t wn : Nat} (hl : lok κ) (hto : to < κ 1) (hn : (qmay κ kd fr none n).testBit to = true) (ht : t < n) (hw : wn < κ 1) (hm : (qmay κ kd fr none t).testBit wn = true) : qnx κ (2 ^ wn) &&& qcr κ (qfe κ kd) n to (n - (t + 1)) = qnx κ (2 ^ wn) &&& qcr κ (qmay κ kd fr none) n to (n - (t + 1)) := by
  apply Nat.eq_of_testBit_eq
  intro v
  rw [Bool.eq_iff_iff, Nat.testBit_and, Nat.testBit_and, Bool.and_eq_true, Bool.and_eq_true]
  have hr := rc_can hl hto hn (n - (t + 1)) (by omega) v
  constructor
  · rintro ⟨g1, g2⟩
    refine ⟨g1, hr.mpr ⟨g2, rc_up hn (by omega) g2 ?_⟩⟩
    rw [show n - (n - (t + 1) + 1) = t by omega]
    rcases (qnx_bit κ _ v).mp g1 with q | ⟨u, q1, q2, q3⟩
    · rw [two_bit.mp q]; exact (qnx_bit κ _ wn).mpr (Or.inl hm)
    · rw [two_bit.mp q2] at q3; exact (qnx_bit κ _ v).mpr (Or.inr ⟨wn, hw, hm, q3⟩)
  · rintro ⟨g1, g2⟩
    exact ⟨g1, (hr.mp g2).1⟩
theorem rc_bit {kd to n d v : Nat} (hto : to < κ 1) (h : (qcr κ (qfe κ kd) n to d).testBit v = true) : v < κ 1 := by
  cases d with
  | zero => rw [two_bit.mp h]; exact hto
  | succ d => unfold qcr at h; rw [Nat.testBit_and, Bool.and_eq_true] at h; exact qfe_bit h.2
theorem lt32 {s : Nat} (h5 : κ 1 ≤ 5) (h : ∀ v, s.testBit v = true → v < κ 1) : s < 32 := by
  refine Nat.lt_of_lt_of_le (Nat.lt_pow_two_of_testBit (n := κ 1) _ (fun i hi => ?_)) (Nat.pow_le_pow_right (by decide) h5 : 2 ^ κ 1 ≤ 2 ^ 5)
  cases hc : s.testBit i with
  | false => rfl
  | true => have := h i hc; omega
theorem firstOf_w {s v : Nat} (hs : s < 32) (h : s.testBit v = true) : Cal l G k 0 0 mX10_firstOf [.int (nI s)] (I, J, R, S, nx) (fun r μ' => r = .inl (some (.int (nI (qfo s)))) ∧ ∃ I', μ' = (I', J, R, S, nx) ∧ I' = I) := by
  obtain ⟨h1, h2⟩ := qfo_in hs h
  have h3 : ∀ j, j < qfo s → s.testBit j = false := fun j hj => fa_first_no (fun i => s.testBit i) 5 j hj
  refine Cal.of rfl (by decide +kernel) (by simp) (Nat.le_of_ble_eq_true rfl) rfl (sX10_firstOf_0 ?_)
  refine upto (σ := Unit) (W := fun i _ => hX10_firstOf_2 l G k _ 0 (nI s) (nI i) (I, J, R, S, nx)) (P := fun i _ => True) (qfo s) ?_ ?_ (i := 0) (s := ()) (Nat.zero_le _) trivial
  · intro _ _
    have c1 : ¬ ((nI s >>> (nI (qfo s) &&& 31)) &&& (1 : Int32)) = 0 := by rw [bit_n (by omega) (by omega)]; exact not_not_intro h2
    refine sX10_firstOf_2 ?_ ?_ ?_ <;> intros <;> (first | exact absurd (by with_reducible assumption) c1 | exact absurd c1 (by with_reducible assumption) | skip)
    · exact ⟨rfl, _, rfl, rfl⟩
    · exact ⟨rfl, _, rfl, rfl⟩
  · intro i _ hi _ ih
    have c1 : ((nI s >>> (nI i &&& 31)) &&& (1 : Int32)) = 0 := by rw [bit_n (by omega) (by omega), h3 i hi]; decide
    have c2 : ¬ (4 : Int32) ≤ nI i := nI_ge (b := 4) (by omega) (by decide)
    refine sX10_firstOf_2 ?_ ?_ ?_ <;> intros <;> (first | exact absurd (by with_reducible assumption) c1 | exact absurd c1 (by with_reducible assumption) | exact absurd (by with_reducible assumption) c2 | exact absurd c2 (by with_reducible assumption) | skip)
    rw [nI_1]; exact ih () trivial
theorem nI_dec (q : Nat) : nI (q + 1) - (1 : Int32) = nI q := nI_sub1 (by omega)
theorem nI_m (q : Nat) : nI q + (-1 : Int32) = nI q - (1 : Int32) := by rw [Int32.sub_eq_add_neg]
theorem wardOnFirst_w {kd fr to d : Nat} {L dl pl ld lp : Nat} (w : CF R S nx) (wL : R 14 0 = some L) (wl : LW R S nx L dl pl ld lp) (h : CK I κ L dl pl ld lp) (ho : qok hb pb κ) (hhb : hb < 2 ^ 29) {W : Nat} (wW : WW R S nx W) (ap : AP W 8 L dl pl) (hl : lok κ) (hf : fr < κ 1) (ht : to < κ 1) (hd : d < 2 ^ 31) (hD : WD I κ W kd 60) : Cal l G (k + 3) 0 0 mX10_wardOnFirst [.ref W, .int (nI fr), .int (nI to), .int (nI d)] (I, J, R, S, nx) (fun r μ' => r = .inl (some (.int (jP (qat κ kd fr to d)))) ∧ ∃ I', μ' = (I', J, R, S, nx) ∧ Fr [W + 3] I I') := by
  have h1w := ho.1
  have hW := ap.1
  refine Cal.of rfl (by decide +kernel) (by simp) (Nat.le_of_ble_eq_true rfl) rfl (sX10_wardOnFirst_0 (u1 := jP (qway κ kd fr to none)) (P1 := fun I I' => I' = I) wW (soonestFree_w (sh := none) w wL wl h ho hhb wW ap hf ht (fun s e => by cases e) hD) ?_ ?_ ?_ ?_)
  · intro I1 h1 g
    subst h1
    unfold qat
    cases hq : qway κ kd fr to none with
    | none => exact ⟨rfl, _, rfl, Fr.rf⟩
    | some n => rw [hq] at g; exact absurd g (jP_m1 (by have := (qfi_le hq).1; omega))
  · intro I1 h1 g g2
    cases hq : qway κ kd fr to none with
    | none => rw [hq] at g; exact absurd rfl g
    | some n => exact vp_in_nI (qfi_le hq).1 (by decide)
  · intro I1 h1 g g2
    subst h1
    unfold qat
    cases hq : qway κ kd fr to none with
    | none => rw [hq] at g; exact absurd rfl g
    | some n =>
      obtain ⟨hn, hto⟩ := qfi_le hq
      rw [hq, show jP (some n) = nI n from rfl, nI_leI hd (by omega)] at g2
      rw [show jP (some n) = nI n from rfl, shl_n (by omega), nI_clamp (by omega)]
      dsimp only
      rw [if_neg (by omega)]
      obtain ⟨rc, hrc⟩ : ∃ rc, (fun t => qcr κ (qfe κ kd) n to (n - t)) = rc := ⟨_, rfl⟩
      have hri : ∀ t, qcr κ (qfe κ kd) n to (n - t) = rc t := fun t => congrFun hrc t
      obtain ⟨pt, hpt⟩ : ∃ pt, qpt κ (fun t => qcr κ (qmay κ kd fr none) n to (n - t)) fr = pt := ⟨_, rfl⟩
      have hpi := qpt_in hl hf ht hto
      rw [hpt] at hpi ⊢
      have hrb : ∀ t v, (rc t).testBit v = true → v < κ 1 := fun t v g => by rw [← hri] at g; exact rc_bit ht g
      have hrl : ∀ t, rc t < 32 := fun t => lt32 h1w (hrb t)
      have hrs : ∀ t, t < n → rc t = qnx κ (rc (t + 1)) &&& qfe κ kd t := fun t ht => by
        rw [← hri, ← hri, show n - t = n - (t + 1) + 1 by omega]
        show _ &&& qfe κ kd (n - (n - (t + 1) + 1)) = _
        rw [show n - (n - (t + 1) + 1) = t by omega]
      have hstep : ∀ i, i < n → pt (i + 1) = qfo ((κ (61 + pt i) ||| 2 ^ pt i) &&& rc (i + 1)) ∧ ∃ v, ((κ (61 + pt i) ||| 2 ^ pt i) &&& rc (i + 1)).testBit v = true := fun i hi => by
        obtain ⟨p1, p2⟩ := hpi i (by omega)
        have hmi : (qmay κ kd fr none i).testBit (pt i) = true := by
          have := ((rc_can hl ht hto (n - i) (by omega) (pt i)).mp p2).2
          rwa [show n - (n - i) = i by omega] at this
        have es : (κ (61 + pt i) ||| 2 ^ pt i) &&& rc (i + 1) = qnx κ (2 ^ pt i) &&& qcr κ (qmay κ kd fr none) n to (n - (i + 1)) := by
          rw [step_nx p1, ← hri]; exact step_eq hl ht hto hi p1 hmi
        rw [es]
        refine ⟨?_, qpt_step (i := i) hl ht hi p1 p2⟩
        rw [← hpt]; rfl
      have back : ∀ (q : Nat) (I3 : Nat → Nat → Int32), q ≤ n → (Fr [W + 3] I1 I3 ∧ ∀ t, q ≤ t → t ≤ n → I3 (W + 3) t = nI (rc t)) → hX10_wardOnFirst_39 l G k (fun r μ' => r = .inl (some (.int (jP (some (pt d))))) ∧ ∃ I', μ' = (I', J, R, S, nx) ∧ Fr [W + 3] I1 I') W (nI fr) (nI d) (nI q - (1 : Int32)) (I3, J, R, S, nx) := by
        intro q
        induction q with
        | zero =>
          intro I3 _ ⟨hF, hC⟩
          have hK3 := h.df ap (a := W + 3) (by omega) hF
          have c1 : nI 0 - (1 : Int32) < 0 := by decide
          refine sX10_wardOnFirst_39 (u1 := 0) (P1 := fun _ _ => True) wW ?_ ?_ ?_ ?_ ?_ ?_ <;> intros <;> (first | exact absurd (by with_reducible assumption) c1 | exact absurd c1 (by with_reducible assumption) | skip)
          have e0 : pt 0 = fr := by rw [← hpt]; rfl
          suffices hgo : hX10_wardOnFirst_84 l G k (fun r μ' => r = .inl (some (.int (jP (some (pt d))))) ∧ ∃ I', μ' = (I', J, R, S, nx) ∧ Fr [W + 3] I1 I') W (nI d) (nI (pt 0)) (nI (0 + 1)) (I3, J, R, S, nx) by rw [e0] at hgo; exact hgo
          refine upto (σ := Unit) (W := fun i _ => hX10_wardOnFirst_84 l G k _ W (nI d) (nI (pt i)) (nI (i + 1)) (I3, J, R, S, nx)) (P := fun i _ => True) d ?_ ?_ (i := 0) (s := ()) (Nat.zero_le _) trivial
          · intro _ _
            have d1 : nI d < nI (d + 1) := nI_lt (by omega) (by omega)
            refine sX10_wardOnFirst_84 (u1 := 0) (u2 := 0) (P1 := fun _ _ => True) (P2 := fun _ _ => True) wW ?_ ?_ ?_ ?_ ?_ ?_ <;> intros <;> (first | exact absurd (by with_reducible assumption) d1 | exact absurd d1 (by with_reducible assumption) | skip)
            exact ⟨rfl, _, rfl, hF⟩
          · intro i _ hi _ ih
            have d1 : ¬ nI d < nI (i + 1) := nI_nlt (by omega) (by omega)
            have d2 : ¬ Int32.ofNat 61 ≤ nI (i + 1) := nI_ge (by omega) (by omega)
            obtain ⟨p1, p2⟩ := hpi i (by omega)
            obtain ⟨s1, v, s2⟩ := hstep i (by omega)
            refine sX10_wardOnFirst_84 (u1 := nI (κ (61 + pt i) ||| 2 ^ pt i)) (u2 := nI (pt (i + 1))) (P1 := fun I I' => I' = I) (P2 := fun I I' => I' = I) wW ?_ ?_ ?_ ?_ ?_ ?_ <;> intros <;> (first | exact absurd (by with_reducible assumption) d1 | exact absurd d1 (by with_reducible assumption) | exact absurd (by with_reducible assumption) d2 | exact absurd d2 (by with_reducible assumption) | skip)
            · exact stepFrom_w w wL wl wW hK3 (by omega)
            · exact vp_in_nI (by omega) (by decide)
            · rename_i I4 h4
              subst h4
              rw [nI_clamp (by omega), hC (i + 1) (by omega) (by omega), fa_and, s1]
              exact firstOf_w (Nat.lt_of_le_of_lt Nat.and_le_right (hrl _)) s2
            · rename_i I4 h4 I5 h5
              subst h4; subst h5
              rw [nI_1]; exact ih () trivial
        | succ q ih =>
          intro I3 hqn ⟨hF, hC⟩
          have hK3 := h.df ap (a := W + 3) (by omega) hF
          have hD3 := hD.fr hF (by simp) (by simp)
          rw [nI_dec]
          have c1 : ¬ nI q < 0 := by rw [fa_lt, nI_toInt (by omega)]; show ¬ ((q : Int) < 0); omega
          refine sX10_wardOnFirst_39 (u1 := nI (qnx κ (rc (q + 1)))) (P1 := fun I I' => I' = I) wW ?_ ?_ ?_ ?_ ?_ ?_ <;> intros <;> (first | exact absurd (by with_reducible assumption) c1 | exact absurd c1 (by with_reducible assumption) | skip)
          · rw [nI_1]; exact vp_in_nI (by omega) (by decide)
          · rw [nI_1, nI_clamp (by omega), hC (q + 1) (by omega) (by omega)]
            exact stepFromAll_w (k := k + 1) w wL wl wW hK3 h1w (hrl _) (hrb _)
          · exact vp_in_nI (by omega) (by decide)
          · exact vp_in_nI (by omega) (by decide)
          · rename_i I4 h4
            subst h4
            rw [nI_m, nI_clamp (by omega), (hD3 q (by omega)).1, fa_and, ← hrs q (by omega)]
            refine ih _ (by omega) ⟨hF.up (by simp), fun t t1 t2 => ?_⟩
            by_cases c : t = q
            · subst c; simp [up2]
            · simp only [up2, if_true, if_neg c]; exact hC t (by omega) t2
      refine back n _ (Nat.le_refl _) ⟨Fr.rf.up (by simp), fun t t1 t2 => ?_⟩
      have : t = n := by omega
      subst this
      rw [show rc t = 2 ^ to by rw [← hri, Nat.sub_self]; rfl]; simp [up2]
  · intro I1 h1 g g2
    subst h1
    unfold qat
    cases hq : qway κ kd fr to none with
    | none => rw [hq] at g; exact absurd rfl g
    | some n =>
      have hn := (qfi_le hq).1
      rw [hq, show jP (some n) = nI n from rfl, nI_leI hd (by omega)] at g2
      dsimp only
      rw [if_pos (by omega)]
      exact ⟨rfl, _, rfl, Fr.rf⟩
/-- the least of some -/
def qla (f : Nat → Nat) (s : Nat) : Nat → Nat
  | 0 => 536870912
  | i + 1 => if s.testBit i ∧ f i < qla f s i then f i else qla f s i
theorem qla_s (f : Nat → Nat) (s i : Nat) : qla f s (i + 1) = if s.testBit i ∧ f i < qla f s i then f i else qla f s i := rfl
theorem qla_b {f : Nat → Nat} {s : Nat} : ∀ i, qla f s i ≤ 536870912 ∧ (∀ j, j < i → s.testBit j = true → qla f s i ≤ f j) ∧ (qla f s i = 536870912 ∨ ∃ j, j < i ∧ s.testBit j = true ∧ qla f s i = f j)
  | 0 => ⟨Nat.le_refl _, fun j hj => absurd hj (Nat.not_lt_zero _), Or.inl rfl⟩
  | i + 1 => by
    obtain ⟨h1, h2, h3⟩ := qla_b (f := f) (s := s) i
    rw [qla_s]
    by_cases c : s.testBit i = true ∧ f i < qla f s i
    · rw [if_pos c]
      refine ⟨by omega, fun j hj hb => ?_, Or.inr ⟨i, by omega, c.1, rfl⟩⟩
      by_cases e : j = i
      · rw [e]; exact Nat.le_refl _
      · have := h2 j (by omega) hb; omega
    · rw [if_neg c]
      refine ⟨h1, fun j hj hb => ?_, ?_⟩
      · by_cases e : j = i
        · subst e; have : ¬ f j < qla f s j := fun g => c ⟨hb, g⟩; omega
        · exact h2 j (by omega) hb
      · rcases h3 with g | ⟨j, g1, g2⟩
        · exact Or.inl g
        · exact Or.inr ⟨j, by omega, g2⟩
theorem qbm_b {f : Nat → Nat} {wn : Nat} : ∀ i, qbm κ f wn i ≤ f wn ∧ (∀ j, j < i → (κ (61 + wn)).testBit j = true → qbm κ f wn i ≤ f j) ∧ (qbm κ f wn i = f wn ∨ ∃ j, j < i ∧ (κ (61 + wn)).testBit j = true ∧ qbm κ f wn i = f j)
  | 0 => ⟨Nat.le_refl _, fun j hj => absurd hj (Nat.not_lt_zero _), Or.inl rfl⟩
  | i + 1 => by
    obtain ⟨h1, h2, h3⟩ := qbm_b (f := f) (wn := wn) i
    rw [qbm_s]
    by_cases c : (κ (61 + wn)).testBit i = true
    · rw [if_pos c]
      by_cases c2 : f i < qbm κ f wn i
      · rw [if_pos c2]
        refine ⟨by omega, fun j hj hb => ?_, Or.inr ⟨i, by omega, c, rfl⟩⟩
        by_cases e : j = i
        · rw [e]; exact Nat.le_refl _
        · have := h2 j (by omega) hb; omega
      · rw [if_neg c2]
        refine ⟨h1, fun j hj hb => ?_, h3.imp id (fun ⟨j, g1, g2⟩ => ⟨j, by omega, g2⟩)⟩
        by_cases e : j = i
        · rw [e]; omega
        · exact h2 j (by omega) hb
    · rw [if_neg c]
      refine ⟨h1, fun j hj hb => ?_, h3.imp id (fun ⟨j, g1, g2⟩ => ⟨j, by omega, g2⟩)⟩
      by_cases e : j = i
      · rw [e] at hb; exact absurd hb c
      · exact h2 j (by omega) hb
theorem qla_bm {f : Nat → Nat} {wn : Nat} (hw : wn < κ 1) (hf : f wn ≤ 536870912) : qla f (κ (61 + wn) ||| 2 ^ wn) (κ 1) = qbm κ f wn (κ 1) := by
  obtain ⟨a1, a2, a3⟩ := qla_b (f := f) (s := κ (61 + wn) ||| 2 ^ wn) (κ 1)
  obtain ⟨b1, b2, b3⟩ := qbm_b (κ := κ) (f := f) (wn := wn) (κ 1)
  have s1 : (κ (61 + wn) ||| 2 ^ wn).testBit wn = true := by rw [Nat.testBit_or, two_bit.mpr rfl, Bool.or_true]
  have s2 : ∀ j, (κ (61 + wn)).testBit j = true → (κ (61 + wn) ||| 2 ^ wn).testBit j = true := fun j g => by rw [Nat.testBit_or, g, Bool.true_or]
  apply Nat.le_antisymm
  · rcases b3 with g | ⟨j, g1, g2, g3⟩
    · rw [g]; exact a2 wn hw s1
    · rw [g3]; exact a2 j g1 (s2 j g2)
  · rcases a3 with g | ⟨j, g1, g2, g3⟩
    · rw [g]; omega
    · rw [g3]
      rw [Nat.testBit_or, Bool.or_eq_true] at g2
      rcases g2 with q | q
      · exact b2 j g1 q
      · rw [two_bit.mp q]; exact b1
theorem wAns_m {v : Nat} (h : v ≤ 536870912) : (wAns v = (-1 : Int32)) = (v = 536870912) := by
  unfold wAns
  apply propext
  by_cases c : v = 536870912
  · rw [if_pos c]; exact ⟨fun _ => c, fun _ => rfl⟩
  · rw [if_neg c]; exact ⟨fun g => absurd g (nI_nm1 (by omega)), fun g => absurd g c⟩
theorem wAns_n {v : Nat} (h : ¬ v = 536870912) : wAns v = nI v := if_neg h
theorem leastAmong_w {W s L dl pl ld lp : Nat} {f : Nat → Nat} (w : CF R S nx) (wL : R 14 0 = some L) (wl : LW R S nx L dl pl ld lp) (wW : WW R S nx W) (h : CK I κ L dl pl ld lp) (h1w : κ 1 ≤ 5) (hs : s < 32) (hf : ∀ v, f v ≤ 536870912) (h4 : ∀ v, v < κ 1 → I (W + 4) v = wAns (f v)) : Cal l G k 0 0 mX10_leastAmong [.ref W, .int (nI s)] (I, J, R, S, nx) (fun r μ' => r = .inl (some (.int (wAns (qla f s (κ 1))))) ∧ ∃ I', μ' = (I', J, R, S, nx) ∧ I' = I) := by
  have e1 : I L 1 = nI (κ 1) := h.2.1.1.2.1
  refine Cal.of rfl (by decide +kernel) (by simp) (Nat.le_of_ble_eq_true rfl) rfl (sX10_leastAmong_0 wW ?_)
  refine upto (σ := Unit) (W := fun i _ => hX10_leastAmong_4 l G k _ W (nI s) (wAns (qla f s i)) (nI i) (I, J, R, S, nx)) (P := fun _ _ => True) (κ 1) ?_ ?_ (i := 0) (s := ()) (Nat.zero_le _) trivial
  · intro _ _
    have c1 : I L 1 ≤ nI (κ 1) := by rw [e1]; exact nI_le (Nat.le_refl _) (by omega)
    refine sX10_leastAmong_4 w wL wW wl ?_ ?_ ?_ ?_ ?_ ?_ ?_ ?_ <;> intros <;> (first | exact absurd (by with_reducible assumption) c1 | exact absurd c1 (by with_reducible assumption) | skip)
    exact ⟨rfl, _, rfl, rfl⟩
  · intro i _ hi _ ih
    have c1 : ¬ I L 1 ≤ nI i := by rw [e1]; exact nI_ge hi (by omega)
    have eb := bit_n (s := s) (i := i) (by omega) (by omega)
    have hx := ih () trivial
    have hla := (qla_b (f := f) (s := s) i).1
    have hfi := hf i
    have e4 : I (W + 4) (nI i).toNatClampNeg = wAns (f i) := by rw [nI_clamp (by omega)]; exact h4 i hi
    have m1 : (I (W + 4) (nI i).toNatClampNeg = (-1 : Int32)) = (f i = 536870912) := by rw [e4, wAns_m hfi]
    have m2 := wAns_m hla
    have stay : (¬ (s.testBit i = true ∧ f i < qla f s i)) → hX10_leastAmong_4 l G k (fun r μ' => r = .inl (some (.int (wAns (qla f s (κ 1))))) ∧ ∃ I', μ' = (I', J, R, S, nx) ∧ I' = I) W (nI s) (wAns (qla f s i)) (nI i + (1 : Int32)) (I, J, R, S, nx) := fun g => by
      rw [qla_s, if_neg g] at hx; rw [nI_1]; exact hx
    have take : (s.testBit i = true ∧ f i < qla f s i) → hX10_leastAmong_51 l G k (fun r μ' => r = .inl (some (.int (wAns (qla f s (κ 1))))) ∧ ∃ I', μ' = (I', J, R, S, nx) ∧ I' = I) W (nI s) (nI i) (I, J, R, S, nx) := fun g => by
      rw [qla_s, if_pos g] at hx
      refine sX10_leastAmong_51 wW (vp_in_nI (by omega) (by decide)) ?_
      rw [e4, nI_1]; exact hx
    refine sX10_leastAmong_4 w wL wW wl ?_ ?_ ?_ ?_ ?_ ?_ ?_ ?_ <;> intros <;> (first | exact absurd (by with_reducible assumption) c1 | exact absurd c1 (by with_reducible assumption) | skip)
    · rename_i g; rw [eb] at g; exact stay (fun q => g q.1)
    · exact vp_in_nI (by omega) (by decide)
    · rename_i g1 g2; rw [m1] at g2; exact stay (fun q => by omega)
    · rename_i g1 g2 g3; rw [eb, Decidable.not_not] at g1; rw [m1] at g2; rw [m2] at g3
      exact take ⟨g1, by omega⟩
    · exact vp_in_nI (by omega) (by decide)
    · rename_i g1 g2 g3 g4; rw [m1] at g2; rw [m2] at g3
      rw [e4, wAns_n g2, wAns_n g3, nI_leI (by omega) (by omega)] at g4
      exact stay (fun q => by omega)
    · rename_i g1 g2 g3 g4; rw [eb, Decidable.not_not] at g1; rw [m1] at g2; rw [m2] at g3
      rw [e4, wAns_n g2, wAns_n g3, nI_leI (by omega) (by omega)] at g4
      exact take ⟨g1, by omega⟩
theorem qle_b (ho : qok hb pb κ) (kd fr : Nat) : ∀ t wn, t ≤ 60 → qle κ kd fr t wn = 536870912 ∨ qle κ kd fr t wn ≤ 792 * (t + 1)
  | 0, wn, _ => by
    show (if wn = fr then qwf κ kd 0 wn else 536870912) = _ ∨ (if wn = fr then qwf κ kd 0 wn else 536870912) ≤ _
    have : qwf κ kd 0 wn ≤ 792 := qfin_le ho _
    split
    · exact Or.inr (by omega)
    · exact Or.inl rfl
  | t + 1, wn, ht => by
    show (if _ < _ then qbm κ (qle κ kd fr t) wn (κ 1) + qwf κ kd (t + 1) wn else 536870912) = _ ∨ (if _ < _ then qbm κ (qle κ kd fr t) wn (κ 1) + qwf κ kd (t + 1) wn else 536870912) ≤ _
    have hq : qwf κ kd (t + 1) wn ≤ 792 := qfin_le ho _
    split
    · rename_i g
      right
      have hb : qbm κ (qle κ kd fr t) wn (κ 1) = 536870912 ∨ qbm κ (qle κ kd fr t) wn (κ 1) ≤ 792 * (t + 1) := by
        rcases (qbm_b (κ := κ) (f := qle κ kd fr t) (wn := wn) (κ 1)).2.2 with e | ⟨j, _, _, e⟩
        · rw [e]; exact qle_b ho kd fr t wn (by omega)
        · rw [e]; exact qle_b ho kd fr t j (by omega)
      omega
    · exact Or.inl rfl
theorem upC_at {α : Type} {f : Nat → Nat → α} {a0 a v n : Nat} (h : v < n) : upC f a0 a 0 0 n a v = f a0 v := by
  unfold upC; rw [if_pos ⟨rfl, Nat.zero_le _, by omega⟩, Nat.sub_zero, Nat.zero_add]
theorem leastFined_w {kd fr to n : Nat} {L dl pl ld lp : Nat} (w : CF R S nx) (wL : R 14 0 = some L) (wl : LW R S nx L dl pl ld lp) (h : CK I κ L dl pl ld lp) (ho : qok hb pb κ) (hhb : hb < 2 ^ 29) {W : Nat} (wW : WW R S nx W) (ap : AP W 8 L dl pl) (hf : fr < κ 1) (ht : to < κ 1) (hn : n ≤ 60) (hD : WD I κ W kd n) : Cal l G (k + 1) 0 0 mX10_leastFined [.ref W, .int (nI fr), .int (nI to), .int (nI n)] (I, J, R, S, nx) (fun r μ' => r = .inl (some (.int (wAns (qle κ kd fr n to)))) ∧ ∃ I', μ' = (I', J, R, S, nx) ∧ Fr [W + 4, W + 5] I I') := by
  have h1w := ho.1
  have hW := ap.1
  have w4 : S (W + 4) = (100, 5) := (wW.2.2.2 (4, 4, 100, 5) (by decide)).2
  obtain ⟨g, hg⟩ : ∃ g, qle κ kd fr = g := ⟨_, rfl⟩
  have hgl : ∀ t v, g t v ≤ 536870912 := fun t v => by rw [← hg]; exact qle_le ho kd fr t v
  have hgb : ∀ t v, t ≤ 60 → g t v = 536870912 ∨ g t v ≤ 792 * (t + 1) := fun t v ht => by rw [← hg]; exact qle_b ho kd fr t v ht
  have hgs : ∀ t v, g (t + 1) v = if qbm κ (g t) v (κ 1) + qwf κ kd (t + 1) v < 536870912 then qbm κ (g t) v (κ 1) + qwf κ kd (t + 1) v else 536870912 := fun t v => by rw [← hg]; rfl
  have hg0 : ∀ v, g 0 v = if v = fr then qwf κ kd 0 v else 536870912 := fun v => by rw [← hg]; rfl
  have hwl : ∀ t v, qwf κ kd t v ≤ 792 := fun t v => qfin_le ho _
  rw [hg]
  refine Cal.of rfl (by decide +kernel) (by simp) (Nat.le_of_ble_eq_true rfl) rfl (sX10_leastFined_0 (P1 := fun I I' => Fr [W + 4] I I' ∧ ∀ j, j < 5 → I' (W + 4) j = -1) wW (fill_i w4 (Nat.lt_of_lt_of_le (Nat.add_lt_add_left (by decide) _) wW.1) (by decide)) ?_ ?_ ?_)
  · intro I1 h1; exact vp_in_nI (by omega) (by decide)
  · intro I1 h1; exact vp_in_nI (by omega) (by decide)
  intro I1 h1
  have e0 : I1 (W + 1) fr = nI (qwf κ kd 0 fr) := by rw [h1.1 (W + 1) (by simp)]; have := (hD 0 (by omega)).2 fr hf; rwa [Nat.zero_mul, Nat.zero_add] at this
  rw [nI_clamp (by omega), e0]
  refine upto (W := fun i I3 => hX10_leastFined_23 l G k _ W (nI to) (nI n) (nI (i + 1)) (I3, J, R, S, nx)) (P := fun i I3 => Fr [W + 4, W + 5] I I3 ∧ ∀ v, v < κ 1 → I3 (W + 4) v = wAns (g i v)) n ?_ ?_ (i := 0) (Nat.zero_le _) ⟨(h1.1.wk (by simp)).up (by simp), fun v hv => ?_⟩
  · intro I3 ⟨hF, hv⟩
    have c1 : nI n < nI (n + 1) := nI_lt (by omega) (by omega)
    refine sX10_leastFined_23 wW ?_ ?_ ?_ ?_ ?_ <;> intros <;> (first | exact absurd (by with_reducible assumption) c1 | exact absurd c1 (by with_reducible assumption) | skip)
    · exact vp_in_nI (by omega) (by decide)
    · exact ⟨by rw [nI_clamp (by omega), hv to ht], _, rfl, hF⟩
  · intro i I3 hi ⟨hF, hv⟩ ih
    have c1 : ¬ nI n < nI (i + 1) := nI_nlt (by omega) (by omega)
    have c2 : ¬ (60 : Int32) < nI (i + 1) := nI_nlt (b := i + 1) (a := 60) (by omega) (by decide)
    refine sX10_leastFined_23 wW ?_ ?_ ?_ ?_ ?_ <;> intros <;> (first | exact absurd (by with_reducible assumption) c1 | exact absurd c1 (by with_reducible assumption) | exact absurd (by with_reducible assumption) c2 | exact absurd c2 (by with_reducible assumption) | skip)
    refine upto (W := fun j I4 => hX10_leastFined_39 l G k _ W (nI to) (nI n) (nI (i + 1)) (nI j) (I4, J, R, S, nx)) (P := fun j I4 => Fr [W + 4, W + 5] I I4 ∧ (∀ v, v < κ 1 → I4 (W + 4) v = wAns (g i v)) ∧ ∀ v, v < j → I4 (W + 5) v = wAns (g (i + 1) v)) (κ 1) ?_ ?_ (i := 0) (Nat.zero_le _) ⟨hF, hv, fun v hv => absurd hv (Nat.not_lt_zero _)⟩
    · intro I4 ⟨gF, g4, g5⟩
      have hK4 : CK I4 κ L dl pl ld lp := h.ag (fun b hb => gF b (by obtain ⟨a0, a1, a2, a3⟩ := ap; simp; omega))
      have c3 : I4 L 1 ≤ nI (κ 1) := by rw [hK4.2.1.1.2.1]; exact nI_le (Nat.le_refl _) (by omega)
      refine sX10_leastFined_39 (u1 := 0) (u2 := 0) (P1 := fun _ _ => True) (P2 := fun _ _ => True) w wL wW wl ?_ ?_ ?_ ?_ ?_ ?_ ?_ ?_ <;> intros <;> (first | exact absurd (by with_reducible assumption) c3 | exact absurd c3 (by with_reducible assumption) | skip)
      rw [nI_1]
      refine ih _ ⟨fun a ha => ?_, fun v hv => ?_⟩
      · rw [upC_ne (fun e => ha (by rw [e]; simp))]; exact gF a ha
      · rw [upC_at (by omega)]; exact g5 v hv
    · intro j I4 hj ⟨gF, g4, g5⟩ jh
      have hK4 : CK I4 κ L dl pl ld lp := h.ag (fun b hb => gF b (by obtain ⟨a0, a1, a2, a3⟩ := ap; simp; omega))
      have c3 : ¬ I4 L 1 ≤ nI j := by rw [hK4.2.1.1.2.1]; exact nI_ge hj (by omega)
      have hb61 : κ (61 + j) < 32 := (ho.2.2.2.2.2.2.2.1 j (by omega)).2.2.2.2.2.2.2
      have hs32 : κ (61 + j) ||| 2 ^ j < 32 := Nat.or_lt_two_pow (n := 5) hb61 (Nat.pow_lt_pow_right (by decide) (by omega))
      have e5 : nI (i + 1) * (5 : Int32) + nI j = nI ((i + 1) * 5 + j) := by rw [show (5 : Int32) = nI 5 from rfl, pk_mul, nI_add]
      have eq1 : qla (g i) (κ (61 + j) ||| 2 ^ j) (κ 1) = qbm κ (g i) j (κ 1) := qla_bm hj (hgl i j)
      obtain ⟨m, hm⟩ : ∃ m, qbm κ (g i) j (κ 1) = m := ⟨_, rfl⟩
      have hml : m ≤ 536870912 := by rw [← hm]; exact qbm_le (hgl i j) _
      have hmb : m = 536870912 ∨ m ≤ 792 * (i + 1) := by
        rw [← hm]
        rcases (qbm_b (κ := κ) (f := g i) (wn := j) (κ 1)).2.2 with e | ⟨q, _, _, e⟩
        · rw [e]; exact hgb i j (by omega)
        · rw [e]; exact hgb i q (by omega)
      have hgn := hgs i j
      rw [hm] at eq1 hgn
      have hq := hwl (i + 1) j
      have m1 := wAns_m hml
      refine sX10_leastFined_39 (u1 := nI (κ (61 + j) ||| 2 ^ j)) (u2 := wAns m) (P1 := fun I I' => I' = I) (P2 := fun I I' => I' = I) w wL wW wl ?_ ?_ ?_ ?_ ?_ ?_ ?_ ?_ <;> intros <;> (first | exact absurd (by with_reducible assumption) c3 | exact absurd c3 (by with_reducible assumption) | skip)
      · exact stepFrom_w w wL wl wW hK4 (by omega)
      · rename_i I5 h5
        subst h5
        rw [← eq1]
        exact leastAmong_w w wL wl wW hK4 h1w hs32 (hgl i) g4
      · rw [e5]; exact vp_in_nI (by omega) (by decide)
      · exact vp_in_nI (by omega) (by decide)
      · rename_i I5 h5 I6 h6 gm
        subst h5; subst h6
        rw [m1] at gm
        rw [e5, nI_clamp (by omega), nI_clamp (by omega), gF (W + 1) (by simp), (hD (i + 1) (by omega)).2 j hj, wAns_n gm, nI_add, nI_1]
        refine jh _ ⟨gF.up (by simp), fun v hv => ?_, fun v hv => ?_⟩
        · simp only [up2, if_neg (show ¬ W + 4 = W + 5 by omega)]; exact g4 v hv
        · by_cases c : v = j
          · subst c
            rw [if_pos (by omega)] at hgn
            rw [hgn, wAns_n (by omega)]; simp [up2]
          · simp only [up2, if_true, if_neg c]; exact g5 v (by omega)
      · exact vp_in_nI (by omega) (by decide)
      · rename_i I5 h5 I6 h6 gm
        subst h5; subst h6
        rw [m1] at gm
        rw [nI_clamp (by omega), nI_1]
        refine jh _ ⟨gF.up (by simp), fun v hv => ?_, fun v hv => ?_⟩
        · simp only [up2, if_neg (show ¬ W + 4 = W + 5 by omega)]; exact g4 v hv
        · by_cases c : v = j
          · subst c
            rw [if_neg (by omega)] at hgn
            rw [hgn]; simp [up2]; rfl
          · simp only [up2, if_true, if_neg c]; exact g5 v (by omega)
  · rw [hg0]
    have := hwl 0 fr
    by_cases c : v = fr
    · subst c; rw [if_pos rfl, wAns_n (by omega)]; simp [up2]
    · rw [if_neg c]; simp only [up2, if_true, if_neg c]; rw [h1.2 v (by omega)]; rfl
theorem qmb_sum {f : Nat → Nat} {wn : Nat} (hself : (κ (61 + wn)).testBit wn = false) : ∀ i, qsum (fun j => if (κ (61 + wn) ||| 2 ^ wn).testBit j then f j else 0) i + (if wn < i then 0 else f wn) = qmb κ f wn i
  | 0 => by show 0 + _ = f wn; rw [if_neg (Nat.not_lt_zero _), Nat.zero_add]
  | i + 1 => by
    have ih := qmb_sum (f := f) hself i
    rw [qsum_s]
    show _ = qmb κ f wn i + (if (κ (61 + wn)).testBit i then f i else 0)
    rw [← ih]
    by_cases c : i = wn
    · subst c
      rw [if_pos (by rw [Nat.testBit_or, two_bit.mpr rfl, Bool.or_true]), if_pos (show i < i + 1 by omega), if_neg (show ¬ i < i by omega), hself]
      simp
    · have : (κ (61 + wn) ||| 2 ^ wn).testBit i = (κ (61 + wn)).testBit i := by
        rw [Nat.testBit_or, Nat.testBit_two_pow_of_ne (Ne.symm c), Bool.or_false]
      rw [this]
      by_cases c2 : wn < i
      · rw [if_pos c2, if_pos (show wn < i + 1 by omega)]; omega
      · rw [if_neg c2, if_neg (show ¬ wn < i + 1 by omega)]; omega
theorem manyAmong_w {W s L dl pl ld lp : Nat} {f : Nat → Nat} (w : CF R S nx) (wL : R 14 0 = some L) (wl : LW R S nx L dl pl ld lp) (wW : WW R S nx W) (h : CK I κ L dl pl ld lp) (h1w : κ 1 ≤ 5) (hs : s < 32) (h4 : ∀ v, v < κ 1 → J (W + 6) v = lN (f v)) : Cal l G k 0 0 mX10_manyAmong [.ref W, .int (nI s)] (I, J, R, S, nx) (fun r μ' => r = .inl (some (.long (lN (qsum (fun j => if s.testBit j then f j else 0) (κ 1))))) ∧ ∃ I', μ' = (I', J, R, S, nx) ∧ I' = I) := by
  have e1 : I L 1 = nI (κ 1) := h.2.1.1.2.1
  obtain ⟨q, hq⟩ : ∃ q, (fun j => if s.testBit j then f j else 0) = q := ⟨_, rfl⟩
  have hqi : ∀ j, (if s.testBit j then f j else 0) = q j := fun j => congrFun hq j
  rw [hq]
  refine Cal.of rfl (by decide +kernel) (by simp) (Nat.le_of_ble_eq_true rfl) rfl (sX10_manyAmong_0 wW ?_)
  refine upto (σ := Unit) (W := fun i _ => hX10_manyAmong_5 l G k _ W (nI s) (lN (qsum q i)) (nI i) (I, J, R, S, nx)) (P := fun _ _ => True) (κ 1) ?_ ?_ (i := 0) (s := ()) (Nat.zero_le _) trivial
  · intro _ _
    have c1 : I L 1 ≤ nI (κ 1) := by rw [e1]; exact nI_le (Nat.le_refl _) (by omega)
    refine sX10_manyAmong_5 w wL wW wl ?_ ?_ ?_ ?_ <;> intros <;> (first | exact absurd (by with_reducible assumption) c1 | exact absurd c1 (by with_reducible assumption) | skip)
    exact ⟨rfl, _, rfl, rfl⟩
  · intro i _ hi _ ih
    have c1 : ¬ I L 1 ≤ nI i := by rw [e1]; exact nI_ge hi (by omega)
    have eb := bit_n (s := s) (i := i) (by omega) (by omega)
    have hx := ih () trivial
    rw [qsum_s, ← hqi i] at hx
    refine sX10_manyAmong_5 w wL wW wl ?_ ?_ ?_ ?_ <;> intros <;> (first | exact absurd (by with_reducible assumption) c1 | exact absurd c1 (by with_reducible assumption) | skip)
    · rename_i g; rw [eb] at g
      rw [if_neg g, Nat.add_zero] at hx
      rw [nI_1]; exact hx
    · exact vp_in_nI (by omega) (by decide)
    · rename_i g; rw [eb, Decidable.not_not] at g
      rw [if_pos g] at hx
      rw [nI_1, nI_clamp (by omega), h4 i hi, lN_add]; exact hx
theorem qfe_iff {kd t v : Nat} : (qfe κ kd t).testBit v = true ↔ v < κ 1 ∧ qwf κ kd t v = 0 := by
  unfold qfe; rw [bset_bit]; simp
theorem manyFree_w {kd fr to n : Nat} {L dl pl ld lp : Nat} (w : CF R S nx) (wL : R 14 0 = some L) (wl : LW R S nx L dl pl ld lp) (h : CK I κ L dl pl ld lp) (ho : qok hb pb κ) (hhb : hb < 2 ^ 29) {W : Nat} (wW : WW R S nx W) (ap : AP W 8 L dl pl) (hl : lok κ) (hf : fr < κ 1) (ht : to < κ 1) (hn : n ≤ 20) (hD : WD I κ W kd n) : Cal l G (k + 1) 0 0 mX10_manyFree [.ref W, .int (nI fr), .int (nI to), .int (nI n)] (I, J, R, S, nx) (fun r μ' => r = .inl (some (.long (lN (qmn κ kd fr n to)))) ∧ ∃ J', μ' = (I, J', R, S, nx) ∧ ∀ b, b ≠ W + 6 → b ≠ W + 7 → J' b = J b) := by
  have h1w := ho.1
  have hW := ap.1
  have e1 : I L 1 = nI (κ 1) := h.2.1.1.2.1
  have w6 : S (W + 6) = (101, 5) := (wW.2.2.2 (6, 6, 101, 5) (by decide)).2
  obtain ⟨g, hg⟩ : ∃ g, qmn κ kd fr = g := ⟨_, rfl⟩
  have hgs : ∀ t v, g (t + 1) v = if qwf κ kd (t + 1) v = 0 then qmb κ (g t) v (κ 1) else 0 := fun t v => by rw [← hg]; rfl
  have hg0 : ∀ v, g 0 v = if v = fr ∧ qwf κ kd 0 v = 0 then 1 else 0 := fun v => by rw [← hg]; rfl
  rw [hg]
  refine Cal.of rfl (by decide +kernel) (by simp) (Nat.le_of_ble_eq_true rfl) rfl (sX10_manyFree_0 (P1 := fun J J' => (∀ b, b ≠ W + 6 → J' b = J b) ∧ ∀ j, j < 5 → J' (W + 6) j = 0) wW (fill_l w6 (Nat.lt_of_lt_of_le (Nat.add_lt_add_left (by decide) _) wW.1) (by decide)) ?_ ?_)
  · intro J1 h1; exact vp_in_nI (by omega) (by decide)
  intro J1 h1
  have e0 : Int32.toInt64 ((I (W + 2) 0 >>> (nI fr &&& 31)) &&& (1 : Int32)) = lN (g 0 fr) := by
    have hq := qfe_lt ho kd 0
    rw [(hD 0 (by omega)).1, bit_v (by omega) (by omega), hg0]
    by_cases c : qwf κ kd 0 fr = 0
    · rw [if_pos (qfe_iff.mpr ⟨hf, c⟩), if_pos ⟨rfl, c⟩]; decide
    · rw [if_neg (fun q => c (qfe_iff.mp q).2), if_neg (fun q => c q.2)]; decide
  rw [nI_clamp (by omega), e0]
  refine upto (W := fun i (J3 : Nat → Nat → Int64) => hX10_manyFree_28 l G k _ W (nI to) (nI n) (nI (i + 1)) (I, J3, R, S, nx)) (P := fun i J3 => (∀ b, b ≠ W + 6 → b ≠ W + 7 → J3 b = J b) ∧ ∀ v, v < κ 1 → J3 (W + 6) v = lN (g i v)) n ?_ ?_ (i := 0) (Nat.zero_le _) ⟨fun b b1 b2 => ?_, fun v hv => ?_⟩
  · intro J3 ⟨hF, hv⟩
    have c1 : nI n < nI (n + 1) := nI_lt (by omega) (by omega)
    refine sX10_manyFree_28 wW ?_ ?_ ?_ ?_ ?_ <;> intros <;> (first | exact absurd (by with_reducible assumption) c1 | exact absurd c1 (by with_reducible assumption) | skip)
    · exact vp_in_nI (by omega) (by decide)
    · exact ⟨by rw [nI_clamp (by omega), hv to ht], _, rfl, hF⟩
  · intro i J3 hi ⟨hF, hv⟩ ih
    have c1 : ¬ nI n < nI (i + 1) := nI_nlt (by omega) (by omega)
    have c2 : ¬ (60 : Int32) < nI (i + 1) := nI_nlt (b := i + 1) (a := 60) (by omega) (by decide)
    refine sX10_manyFree_28 wW ?_ ?_ ?_ ?_ ?_ <;> intros <;> (first | exact absurd (by with_reducible assumption) c1 | exact absurd c1 (by with_reducible assumption) | exact absurd (by with_reducible assumption) c2 | exact absurd c2 (by with_reducible assumption) | skip)
    refine upto (W := fun j (J4 : Nat → Nat → Int64) => hX10_manyFree_44 l G k _ W (nI to) (nI n) (nI (i + 1)) (nI j) (I, J4, R, S, nx)) (P := fun j J4 => (∀ b, b ≠ W + 6 → b ≠ W + 7 → J4 b = J b) ∧ (∀ v, v < κ 1 → J4 (W + 6) v = lN (g i v)) ∧ ∀ v, v < j → J4 (W + 7) v = lN (g (i + 1) v)) (κ 1) ?_ ?_ (i := 0) (Nat.zero_le _) ⟨hF, hv, fun v hv => absurd hv (Nat.not_lt_zero _)⟩
    · intro J4 ⟨gF, g4, g5⟩
      have c3 : I L 1 ≤ nI (κ 1) := by rw [e1]; exact nI_le (Nat.le_refl _) (by omega)
      refine sX10_manyFree_44 (u1 := 0) (u2 := 0) (P1 := fun _ _ => True) (P2 := fun _ _ => True) w wL wW wl ?_ ?_ ?_ ?_ ?_ ?_ ?_ ?_ <;> intros <;> (first | exact absurd (by with_reducible assumption) c3 | exact absurd c3 (by with_reducible assumption) | skip)
      rw [nI_1]
      refine ih _ ⟨fun b b1 b2 => ?_, fun v hv => ?_⟩
      · rw [upC_ne b1]; exact gF b b1 b2
      · rw [upC_at (by omega)]; exact g5 v hv
    · intro j J4 hj ⟨gF, g4, g5⟩ jh
      have c3 : ¬ I L 1 ≤ nI j := by rw [e1]; exact nI_ge hj (by omega)
      have hb61 : κ (61 + j) < 32 := (ho.2.2.2.2.2.2.2.1 j (by omega)).2.2.2.2.2.2.2
      have hs32 : κ (61 + j) ||| 2 ^ j < 32 := Nat.or_lt_two_pow (n := 5) hb61 (Nat.pow_lt_pow_right (by decide) (by omega))
      have hql := qfe_lt ho kd (i + 1)
      have eb : ((I (W + 2) (nI (i + 1)).toNatClampNeg >>> (nI j &&& 31)) &&& (1 : Int32) = 0) = ¬ qwf κ kd (i + 1) j = 0 := by
        rw [nI_clamp (by omega), (hD (i + 1) (by omega)).1, bit_n (by omega) (by omega)]
        exact propext ⟨fun z q => z (qfe_iff.mpr ⟨hj, q⟩), fun z q => z (qfe_iff.mp q).2⟩
      have hms := qmb_sum (κ := κ) (f := g i) (wn := j) (hl.2.2.2.2.2.2.2.2.2.2.2 j (by omega)) (κ 1)
      rw [if_pos hj, Nat.add_zero] at hms
      have hgn := hgs i j
      refine sX10_manyFree_44 (u1 := nI (κ (61 + j) ||| 2 ^ j)) (u2 := lN (qmb κ (g i) j (κ 1))) (P1 := fun I I' => I' = I) (P2 := fun I I' => I' = I) w wL wW wl ?_ ?_ ?_ ?_ ?_ ?_ ?_ ?_ <;> intros <;> (first | exact absurd (by with_reducible assumption) c3 | exact absurd c3 (by with_reducible assumption) | skip)
      · exact vp_in_nI (by omega) (by decide)
      · exact stepFrom_w w wL wl wW h (by omega)
      · rename_i I5 h5
        subst h5
        rw [← hms]
        exact manyAmong_w w wL wl wW h h1w hs32 g4
      · exact vp_in_nI (by omega) (by decide)
      · rename_i gb I5 h5 I6 h6
        subst h5; subst h6
        rw [eb, Decidable.not_not] at gb
        rw [nI_clamp (by omega), nI_1]
        refine jh _ ⟨fun b b1 b2 => ?_, fun v hv => ?_, fun v hv => ?_⟩
        · funext q; simp only [up2, if_neg b2]; exact congrFun (gF b b1 b2) q
        · simp only [up2, if_neg (show ¬ W + 6 = W + 7 by omega)]; exact g4 v hv
        · by_cases c : v = j
          · subst c
            rw [if_pos gb] at hgn
            rw [hgn]; simp [up2]
          · simp only [up2, if_true, if_neg c]; exact g5 v (by omega)
      · exact vp_in_nI (by omega) (by decide)
      · rename_i gb
        rw [eb] at gb
        rw [nI_clamp (by omega), nI_1]
        refine jh _ ⟨fun b b1 b2 => ?_, fun v hv => ?_, fun v hv => ?_⟩
        · funext q; simp only [up2, if_neg b2]; exact congrFun (gF b b1 b2) q
        · simp only [up2, if_neg (show ¬ W + 6 = W + 7 by omega)]; exact g4 v hv
        · by_cases c : v = j
          · subst c
            rw [if_neg gb] at hgn
            rw [hgn]; simp [up2]; rfl
          · simp only [up2, if_true, if_neg c]; exact g5 v (by omega)
  · funext q; simp only [up2, if_neg b1]; exact congrFun (h1.1 b b1) q
  · by_cases c : v = fr
    · subst c; simp [up2]
    · simp only [up2, if_true, if_neg c]
      rw [h1.2 v (by omega), hg0, if_neg (fun q => c q.1)]; rfl
end A
