/-! the reference: the least fined way, how many free ways -/
def qbm (κ f : Nat → Nat) (wn : Nat) : Nat → Nat
  | 0 => f wn
  | i + 1 => if (κ (61 + wn)).testBit i then (if f i < qbm κ f wn i then f i else qbm κ f wn i) else qbm κ f wn i
theorem qbm_s (κ f : Nat → Nat) (wn i : Nat) : qbm κ f wn (i + 1) = if (κ (61 + wn)).testBit i then (if f i < qbm κ f wn i then f i else qbm κ f wn i) else qbm κ f wn i := rfl
def qle (κ : Nat → Nat) (kd fr : Nat) : Nat → Nat → Nat
  | 0 => fun wn => if wn = fr then qwf κ kd 0 wn else 536870912
  | t + 1 => fun wn => if qbm κ (qle κ kd fr t) wn (κ 1) + qwf κ kd (t + 1) wn < 536870912 then qbm κ (qle κ kd fr t) wn (κ 1) + qwf κ kd (t + 1) wn else 536870912
theorem qbm_le {κ f : Nat → Nat} {wn c : Nat} (h : f wn ≤ c) : ∀ i, qbm κ f wn i ≤ c
  | 0 => h
  | i + 1 => by
    rw [qbm_s]
    have := qbm_le (κ := κ) h i
    split
    · split <;> omega
    · exact this
def qmb (κ f : Nat → Nat) (wn : Nat) : Nat → Nat
  | 0 => f wn
  | i + 1 => qmb κ f wn i + (if (κ (61 + wn)).testBit i then f i else 0)
def qmn (κ : Nat → Nat) (kd fr : Nat) : Nat → Nat → Nat
  | 0 => fun wn => if wn = fr ∧ qwf κ kd 0 wn = 0 then 1 else 0
  | t + 1 => fun wn => if qwf κ kd (t + 1) wn = 0 then qmb κ (qmn κ kd fr t) wn (κ 1) else 0
section A
variable {l : Launch} {G : Gh} {k : Nat} {I : Nat → Nat → Int32} {J : Nat → Nat → Int64} {R : Nat → Nat → Option Nat} {S : Nat → Nat × Nat} {nx : Nat} {κ : Nat → Nat} {hb pb : Nat}
theorem qle_le (ho : qok hb pb κ) (kd fr : Nat) : ∀ t wn, qle κ kd fr t wn ≤ 536870912
  | 0, wn => by
    show (if wn = fr then qwf κ kd 0 wn else 536870912) ≤ _
    have : qwf κ kd 0 wn ≤ 792 := qfin_le ho _
    split <;> omega
  | t + 1, wn => by
    show (if qbm κ (qle κ kd fr t) wn (κ 1) + qwf κ kd (t + 1) wn < 536870912 then qbm κ (qle κ kd fr t) wn (κ 1) + qwf κ kd (t + 1) wn else 536870912) ≤ _
    split <;> omega
theorem leastBeside_r {f : Nat → Nat} {wn : Nat} (w : MW R S nx) (hK : Kn I κ) (ho : qok hb pb κ) (hwn : wn < κ 1) (hf : ∀ v, f v ≤ 536870912) (h60 : ∀ v, v < κ 1 → I 60 v = nI (f v)) : Cal l G (k + 1) 0 0 mX12_leastBeside [.ref 43, .int (nI wn)] (I, J, R, S, nx) (fun r μ' => r = .inl (some (.int (nI (qbm κ f wn (κ 1))))) ∧ ∃ I', μ' = (I', J, R, S, nx) ∧ I' = I) := by
  have h1w := ho.1
  refine Cal.of rfl (by decide +kernel) (by simp) (Nat.le_of_ble_eq_true rfl) rfl (sX12_leastBeside_0 w (vp_in_nI (by omega) (by decide)) ?_)
  rw [nI_clamp (by omega), h60 wn hwn]
  refine upto (σ := Unit) (W := fun i _ => hX12_leastBeside_9 l G k _ (nI wn) (nI (qbm κ f wn i)) (nI i) (I, J, R, S, nx)) (P := fun i _ => True) (κ 1) ?_ ?_ (i := 0) (s := ()) (Nat.zero_le _) trivial
  · intro _ _
    have c1 : v_X12_wards I ≤ nI (κ 1) := by rw [wards_n hK]; exact nI_le (Nat.le_refl _) (by omega)
    refine sX12_leastBeside_9 w ?_ ?_ ?_ ?_ ?_ <;> intros <;> (first | exact absurd (by with_reducible assumption) c1 | exact absurd c1 (by with_reducible assumption) | skip)
    exact ⟨rfl, _, rfl, rfl⟩
  · intro i _ hi _ ih
    have c1 : ¬ v_X12_wards I ≤ nI i := by rw [wards_n hK]; exact nI_ge hi (by omega)
    have e61 : (61 : Int32) + nI wn = nI (61 + wn) := nI_add 61 _
    have hbl : κ (61 + wn) < 32 := (ho.2.2.2.2.2.2.2.1 wn (by omega)).2.2.2.2.2.2.2
    have eh : v_X12_has (I 44 ((61 : Int32) + nI wn).toNatClampNeg) (nI i) = if (κ (61 + wn)).testBit i then 1 else 0 := by
      rw [e61, nI_clamp (by omega), hK _ (by omega)]; exact has_n (by omega) (by omega)
    have hx := ih () trivial
    refine sX12_leastBeside_9 w ?_ ?_ ?_ ?_ ?_ <;> intros <;> (first | exact absurd (by with_reducible assumption) c1 | exact absurd c1 (by with_reducible assumption) | skip)
    · rw [e61]; exact vp_in_nI (by omega) (by decide)
    · rename_i h0
      rw [eh, ifI] at h0
      rw [show qbm κ f wn (i + 1) = qbm κ f wn i by rw [qbm_s, if_neg h0]] at hx
      rw [nI_1]; exact hx
    · exact vp_in_nI (by omega) (by decide)
    · rename_i h0
      rw [eh, ifI, Decidable.not_not] at h0
      have hl1 := hf i
      have hl2 := qbm_le (κ := κ) (hf wn) i
      rw [show qbm κ f wn (i + 1) = if f i < qbm κ f wn i then f i else qbm κ f wn i by rw [qbm_s, if_pos h0]] at hx
      rw [nI_clamp (by omega), h60 i hi, nI_1]
      have e : (if nI (f i) < nI (qbm κ f wn i) then nI (f i) else nI (qbm κ f wn i)) = nI (if f i < qbm κ f wn i then f i else qbm κ f wn i) := by
        simp only [nI_ltI (show f i < 2 ^ 31 by omega) (show qbm κ f wn i < 2 ^ 31 by omega)]; split <;> rfl
      rw [e]; exact hx
def wAns (v : Nat) : Int32 := if v = 536870912 then -1 else nI v
def aWayFine (κ : Nat → Nat) (x1 x2 x3 x4 : Int32) : Nat × Int32 := if gY κ x1 x2 x3 = 0 then (if gR x4 0 60 then (0, wAns (qle κ (cN x1) (cN x2) (cN x4) (cN x3))) else (2, 0)) else (gY κ x1 x2 x3, 0)
theorem wayFine_r {x1 x2 x3 x4 : Int32} (w : MW R S nx) (hK : Kn I κ) (ho : qok hb pb κ) (hhb : hb < 2 ^ 29) : Cal l G (k + 8) 0 0 mX12_wayFine [.ref 43, .int x1, .int x2, .int x3, .int x4] (I, J, R, S, nx) (fun r μ' => r = .inl (some (.int ((aWayFine κ x1 x2 x3 x4).2))) ∧ ∃ I', μ' = (I', J, R, S, nx) ∧ PU (aWayFine κ x1 x2 x3 x4).1 κ I I') := by
  have h1w := ho.1
  obtain ⟨o1, o2⟩ := way_n (x1 := x1) (x2 := x2) (x3 := x3) hK ho
  have o4 : (w_X12_isWayOut I x1 x2 x3) 43 4 = nI (gY κ x1 x2 x3) := by rw [o2]; simp [up2]
  by_cases g : gY κ x1 x2 x3 = 0
  · rw [if_pos g] at o1
    rw [g] at o2
    have o5 : (w_X12_isWayOut I x1 x2 x3) 43 4 ≤ 0 := by rw [o4, g]; decide
    by_cases g2 : gR x4 0 60
    · have c1 : ¬ v_X12_within (Int32.toInt64 x4) (0 : Int64) (60 : Int64) = 0 := cRt g2 (by decide) (by decide)
      rw [show aWayFine κ x1 x2 x3 x4 = (0, wAns (qle κ (cN x1) (cN x2) (cN x4) (cN x3))) by unfold aWayFine; rw [if_pos g, if_pos g2]]
      dsimp only
      obtain ⟨a, b, c, rfl, rfl, rfl, ha, hb1, hc1, hb5, hc5, ea, eb, ec⟩ := gY0 ho g
      obtain ⟨d, rfl, _, hd, ed⟩ := g2.n (by omega)
      rw [ea, eb, ec, ed]
      obtain ⟨f, hf⟩ : ∃ f, qle κ a b = f := ⟨_, rfl⟩
      have hfl : ∀ t v, f t v ≤ 536870912 := fun t v => by rw [← hf]; exact qle_le ho a b t v
      have hf0 : ∀ v, f 0 v = if v = b then qwf κ a 0 v else 536870912 := fun v => by rw [← hf]; rfl
      have hfs : ∀ t v, f (t + 1) v = if qbm κ (f t) v (κ 1) + qwf κ a (t + 1) v < 536870912 then qbm κ (f t) v (κ 1) + qwf κ a (t + 1) v else 536870912 := fun t v => by rw [← hf]; rfl
      have hwl : ∀ t v, qwf κ a t v ≤ 792 := fun t v => qfin_le ho _
      rw [hf]
      refine Cal.of rfl (by decide +kernel) (by simp) (Nat.le_of_ble_eq_true rfl) rfl (sX12_wayFine_0 (P1 := fun I I' => True) (P2 := fun I I' => Fr [49, 50, 51, 52, 53, 54, 57] I I' ∧ laidW I' κ a (κ 1)) w ?_ ?_ ?_ ?_ ?_ ?_ ?_) <;> intros <;> (first | exact absurd (by with_reducible assumption) o1 | exact absurd o1 (by with_reducible assumption) | exact absurd (by with_reducible assumption) c1 | exact absurd c1 (by with_reducible assumption) | exact absurd (by with_reducible assumption) o5 | exact absurd o5 (by with_reducible assumption) | skip)
      · rw [o2]; exact laysWays_r w hK.up4 ho hhb (by omega)
      · rename_i I1 h1
        rw [o2] at h1
        refine upto (W := fun i I2 => hX12_wayFine_45 l G k _ (nI b) (nI c) (nI d) (nI i) (I2, J, R, S, nx)) (P := fun i I2 => Fr [49, 50, 51, 52, 53, 54, 57, 60, 61] (up2 I 43 4 (nI 0)) I2 ∧ laidW I2 κ a (κ 1) ∧ ∀ v, v < i → I2 60 v = nI (f 0 v)) 5 ?_ ?_ (i := 0) (Nat.zero_le _) ⟨h1.1.wk (by decide), h1.2, fun v hv => absurd hv (Nat.not_lt_zero v)⟩
        · intro I2 ⟨hF, hW, h60⟩
          have c2 : (5 : Int32) ≤ nI 5 := by decide
          refine sX12_wayFine_45 w ?_ ?_ ?_ ?_ ?_ ?_ <;> intros <;> (first | exact absurd (by with_reducible assumption) c2 | exact absurd c2 (by with_reducible assumption) | skip)
          refine upto (W := fun t I3 => hX12_wayFine_86 l G k _ (nI c) (nI d) (nI (t + 1)) (I3, J, R, S, nx)) (P := fun t I3 => Fr [49, 50, 51, 52, 53, 54, 57, 60, 61] (up2 I 43 4 (nI 0)) I3 ∧ laidW I3 κ a (κ 1) ∧ ∀ v, v < κ 1 → I3 60 v = nI (f t v)) d ?_ ?_ (i := 0) (Nat.zero_le _) ⟨hF, hW, fun v hv => h60 v (by omega)⟩
          · intro I3 ⟨hF3, hW3, h3⟩
            have c3 : nI d < nI (d + 1) := nI_lt (by omega) (by omega)
            have e60 : I3 60 (nI c).toNatClampNeg = nI (f d c) := by rw [nI_clamp (by omega)]; exact h3 c hc1
            have hl := hfl d c
            have nq : (nI (f d c) = (536870912 : Int32)) = (f d c = 536870912) := propext (nI_eq (b := 536870912) (by omega) (by decide))
            refine sX12_wayFine_86 w ?_ ?_ ?_ ?_ ?_ <;> intros <;> (first | exact absurd (by with_reducible assumption) c3 | exact absurd c3 (by with_reducible assumption) | skip)
            · exact vp_in_nI (by omega) (by decide)
            · exact vp_in_nI (by omega) (by decide)
            · rename_i h0
              rw [e60, nq] at h0
              exact ⟨by unfold wAns; rw [if_neg h0, e60], _, rfl, PU.ok rfl hF3 (by decide) (by decide) (hK.up4.fr hF3 (by decide))⟩
            · rename_i h0
              rw [e60, nq] at h0
              exact ⟨by unfold wAns; rw [if_pos h0], _, rfl, PU.ok rfl hF3 (by decide) (by decide) (hK.up4.fr hF3 (by decide))⟩
          · intro t I3 ht ⟨hF3, hW3, h3⟩ ih
            have c3 : ¬ nI d < nI (t + 1) := nI_nlt (by omega) (by omega)
            refine sX12_wayFine_86 w ?_ ?_ ?_ ?_ ?_ <;> intros <;> (first | exact absurd (by with_reducible assumption) c3 | exact absurd c3 (by with_reducible assumption) | skip)
            refine upto (W := fun i I4 => hX12_wayFine_96 l G k _ (nI c) (nI d) (nI (t + 1)) (nI i) (I4, J, R, S, nx)) (P := fun i I4 => Fr [49, 50, 51, 52, 53, 54, 57, 60, 61] (up2 I 43 4 (nI 0)) I4 ∧ laidW I4 κ a (κ 1) ∧ (∀ v, v < κ 1 → I4 60 v = nI (f t v)) ∧ ∀ v, v < i → I4 61 v = nI (qbm κ (f t) v (κ 1) + qwf κ a (t + 1) v)) (κ 1) ?_ ?_ (i := 0) (Nat.zero_le _) ⟨hF3, hW3, h3, fun v hv => absurd hv (Nat.not_lt_zero v)⟩
            · intro I4 ⟨hF4, hW4, h4, h61⟩
              have hK4 := hK.up4.fr hF4 (by decide)
              have c4 : v_X12_wards I4 ≤ nI (κ 1) := by rw [wards_n hK4]; exact nI_le (Nat.le_refl _) (by omega)
              refine sX12_wayFine_96 (u1 := 0) (P1 := fun _ _ => True) w ?_ ?_ ?_ ?_ ?_ <;> intros <;> (first | exact absurd (by with_reducible assumption) c4 | exact absurd c4 (by with_reducible assumption) | skip)
              refine upto (W := fun i I5 => hX12_wayFine_140 l G k _ (nI c) (nI d) (nI (t + 1)) (nI i) (I5, J, R, S, nx)) (P := fun i I5 => Fr [49, 50, 51, 52, 53, 54, 57, 60, 61] (up2 I 43 4 (nI 0)) I5 ∧ laidW I5 κ a (κ 1) ∧ (∀ v, v < κ 1 → I5 61 v = nI (qbm κ (f t) v (κ 1) + qwf κ a (t + 1) v)) ∧ ∀ v, v < i → I5 60 v = nI (f (t + 1) v)) (κ 1) ?_ ?_ (i := 0) (Nat.zero_le _) ⟨hF4, hW4, h61, fun v hv => absurd hv (Nat.not_lt_zero v)⟩
              · intro I5 ⟨hF5, hW5, _, h5⟩
                have c5 : v_X12_wards I5 ≤ nI (κ 1) := by rw [wards_n (hK.up4.fr hF5 (by decide))]; exact nI_le (Nat.le_refl _) (by omega)
                refine sX12_wayFine_140 w ?_ ?_ ?_ ?_ <;> intros <;> (first | exact absurd (by with_reducible assumption) c5 | exact absurd c5 (by with_reducible assumption) | skip)
                rw [nI_1]; exact ih I5 ⟨hF5, hW5, h5⟩
              · intro i I5 hi ⟨hF5, hW5, h61', h5⟩ ih2
                have c5 : ¬ v_X12_wards I5 ≤ nI i := by rw [wards_n (hK.up4.fr hF5 (by decide))]; exact nI_ge hi (by omega)
                have bl := qbm_le (κ := κ) (hfl t i) (κ 1)
                have wl := hwl (t + 1) i
                refine sX12_wayFine_140 w ?_ ?_ ?_ ?_ <;> intros <;> (first | exact absurd (by with_reducible assumption) c5 | exact absurd c5 (by with_reducible assumption) | skip)
                · exact vp_in_nI (by omega) (by decide)
                · exact vp_in_nI (by omega) (by decide)
                · rw [nI_clamp (by omega), h61' i hi, nI_1]
                  have e : (if nI (qbm κ (f t) i (κ 1) + qwf κ a (t + 1) i) < (536870912 : Int32) then nI (qbm κ (f t) i (κ 1) + qwf κ a (t + 1) i) else (536870912 : Int32)) = nI (f (t + 1) i) := by
                    rw [hfs, show (536870912 : Int32) = nI 536870912 from rfl]
                    simp only [nI_ltI (show qbm κ (f t) i (κ 1) + qwf κ a (t + 1) i < 2 ^ 31 by omega) (show 536870912 < 2 ^ 31 by decide)]
                    split <;> rfl
                  rw [e]
                  refine ih2 _ ⟨hF5.up (by decide), fun q v p1 p2 => ?_, fun v hv => ?_, fun v hv => ?_⟩
                  · have := hW5 q v p1 p2; simpa [up2] using this
                  · have := h61' v hv; simpa [up2] using this
                  · by_cases cv : v = i
                    · subst cv; simp [up2]
                    · simp only [up2, if_true, if_neg cv]; exact h5 v (by omega)
            · intro i I4 hi ⟨hF4, hW4, h4, h61⟩ ih2
              have hK4 := hK.up4.fr hF4 (by decide)
              have c4 : ¬ v_X12_wards I4 ≤ nI i := by rw [wards_n hK4]; exact nI_ge hi (by omega)
              have e1 : (5 : Int32) * nI (t + 1) + nI i = nI (5 * (t + 1) + i) := by rw [show (5 : Int32) = nI 5 from rfl, pk_mul, nI_add]
              refine sX12_wayFine_96 (u1 := nI (qbm κ (f t) i (κ 1))) (P1 := fun I I' => I' = I) w ?_ ?_ ?_ ?_ ?_ <;> intros <;> (first | exact absurd (by with_reducible assumption) c4 | exact absurd c4 (by with_reducible assumption) | skip)
              · exact leastBeside_r w hK4 ho hi (hfl t) h4
              · rw [e1]; exact vp_in_nI (by omega) (by decide)
              · exact vp_in_nI (by omega) (by decide)
              · rename_i I5 h5
                subst h5
                rw [e1, nI_clamp (by omega), nI_clamp (by omega), hW4 (t + 1) i (by omega) hi, nI_add, nI_1]
                refine ih2 _ ⟨hF4.up (by decide), fun q v p1 p2 => ?_, fun v hv => ?_, fun v hv => ?_⟩
                · have := hW4 q v p1 p2; simpa [up2] using this
                · have := h4 v hv; simpa [up2] using this
                · by_cases cv : v = i
                  · subst cv; simp [up2]
                  · simp only [up2, if_true, if_neg cv]; exact h61 v (by omega)
        · intro i I2 hi ⟨hF, hW, h60⟩ ih
          have c2 : ¬ (5 : Int32) ≤ nI i := nI_ge (b := 5) hi (by decide)
          have nb : (nI i = nI b) = (i = b) := propext (nI_eq (by omega) (by omega))
          refine sX12_wayFine_45 w ?_ ?_ ?_ ?_ ?_ ?_ <;> intros <;> (first | exact absurd (by with_reducible assumption) c2 | exact absurd c2 (by with_reducible assumption) | skip)
          · exact vp_in_nI (by omega) (by decide)
          · rename_i h0
            rw [nb] at h0
            rw [nI_clamp (by omega), nI_1]
            refine ih _ ⟨hF.up (by decide), fun q v p1 p2 => ?_, fun v hv => ?_⟩
            · have := hW q v p1 p2; simpa [up2] using this
            · by_cases cv : v = i
              · subst cv; simp only [up2, if_true]; rw [hf0, if_neg h0]; rfl
              · simp only [up2, if_true, if_neg cv]; exact h60 v (by omega)
          · exact vp_in_nI (by omega) (by decide)
          · exact vp_in_nI (by omega) (by decide)
          · rename_i h0
            rw [nb] at h0
            have e57 : I2 57 (nI i).toNatClampNeg = nI (qwf κ a 0 i) := by rw [nI_clamp (by omega)]; have := hW 0 i (by omega) (by omega); rw [Nat.mul_zero, Nat.zero_add] at this; exact this
            rw [e57, nI_clamp (by omega), nI_1]
            refine ih _ ⟨hF.up (by decide), fun q v p1 p2 => ?_, fun v hv => ?_⟩
            · have := hW q v p1 p2; simpa [up2] using this
            · by_cases cv : v = i
              · subst cv; simp only [up2, if_true]; rw [hf0, if_pos h0]
              · simp only [up2, if_true, if_neg cv]; exact h60 v (by omega)
    · have c1 : v_X12_within (Int32.toInt64 x4) (0 : Int64) (60 : Int64) = 0 := cRf g2 (by decide) (by decide)
      rw [show aWayFine κ x1 x2 x3 x4 = (2, 0) by unfold aWayFine; rw [if_pos g, if_neg g2]]
      refine Cal.of rfl (by decide +kernel) (by simp) (Nat.le_of_ble_eq_true rfl) rfl (sX12_wayFine_0 (P1 := fun I I' => True) (P2 := fun I I' => True) w ?_ ?_ ?_ ?_ ?_ ?_ ?_) <;> intros <;> (first | exact absurd (by with_reducible assumption) o1 | exact absurd o1 (by with_reducible assumption) | exact absurd (by with_reducible assumption) c1 | exact absurd c1 (by with_reducible assumption) | skip)
      rw [o2, up2_2]
      exact ⟨rfl, _, rfl, PU.fail hK rfl⟩
  · rw [show aWayFine κ x1 x2 x3 x4 = (gY κ x1 x2 x3, 0) by unfold aWayFine; rw [if_neg g]]
    rw [if_neg g] at o1
    have hle := gY_le κ x1 x2 x3
    have o3 : ¬ v_X12_isWayOut I x1 x2 x3 = 0 := by rw [o1]; decide
    have o5 : ¬ (w_X12_isWayOut I x1 x2 x3) 43 4 ≤ 0 := by rw [o4]; exact nI_nle (by omega) (by omega)
    refine Cal.of rfl (by decide +kernel) (by simp) (Nat.le_of_ble_eq_true rfl) rfl (sX12_wayFine_0 (P1 := fun I I' => True) (P2 := fun I I' => True) w ?_ ?_ ?_ ?_ ?_ ?_ ?_) <;> intros <;> (first | exact absurd (by with_reducible assumption) o3 | exact absurd o3 (by with_reducible assumption) | exact absurd (by with_reducible assumption) o5 | exact absurd o5 (by with_reducible assumption) | skip)
    rw [o2]
    exact ⟨rfl, _, rfl, PU.fail hK rfl⟩
end A
