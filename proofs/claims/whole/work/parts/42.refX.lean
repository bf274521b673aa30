/-! the reference: how many free ways -/
section A
variable {l : Launch} {G : Gh} {k : Nat} {I : Nat → Nat → Int32} {J : Nat → Nat → Int64} {R : Nat → Nat → Option Nat} {S : Nat → Nat × Nat} {nx : Nat} {κ : Nat → Nat} {hb pb : Nat}
def UJ (J J' : Nat → Nat → Int64) : Prop := ∀ a, a ≠ 62 → a ≠ 63 → J' a = J a
theorem UJ.rf : UJ J J := fun _ _ _ => rfl
theorem UJ.up {J' : Nat → Nat → Int64} {a i : Nat} {v : Int64} (h : UJ J J') (ha : a = 62 ∨ a = 63) : UJ J (up2 J' a i v) := by
  intro b h1 h2
  rw [← h b h1 h2]
  funext j
  have : b ≠ a := by omega
  simp [up2, this]
theorem manyBeside_r {f : Nat → Nat} {wn : Nat} (w : MW R S nx) (hK : Kn I κ) (ho : qok hb pb κ) (hwn : wn < κ 1) (h62 : ∀ v, v < κ 1 → J 62 v = lN (f v)) : Cal l G (k + 1) 0 0 mX12_manyBeside [.ref 43, .int (nI wn)] (I, J, R, S, nx) (fun r μ' => r = .inl (some (.long (lN (qmb κ f wn (κ 1))))) ∧ ∃ I', μ' = (I', J, R, S, nx) ∧ I' = I) := by
  have h1w := ho.1
  refine Cal.of rfl (by decide +kernel) (by simp) (Nat.le_of_ble_eq_true rfl) rfl (sX12_manyBeside_0 w (vp_in_nI (by omega) (by decide)) ?_)
  rw [nI_clamp (by omega), h62 wn hwn]
  refine upto (σ := Unit) (W := fun i _ => hX12_manyBeside_10 l G k _ (nI wn) (lN (qmb κ f wn i)) (nI i) (I, J, R, S, nx)) (P := fun i _ => True) (κ 1) ?_ ?_ (i := 0) (s := ()) (Nat.zero_le _) trivial
  · intro _ _
    have c1 : v_X12_wards I ≤ nI (κ 1) := by rw [wards_n hK]; exact nI_le (Nat.le_refl _) (by omega)
    refine sX12_manyBeside_10 w ?_ ?_ ?_ ?_ ?_ <;> intros <;> (first | exact absurd (by with_reducible assumption) c1 | exact absurd c1 (by with_reducible assumption) | skip)
    exact ⟨rfl, _, rfl, rfl⟩
  · intro i _ hi _ ih
    have c1 : ¬ v_X12_wards I ≤ nI i := by rw [wards_n hK]; exact nI_ge hi (by omega)
    have e61 : (61 : Int32) + nI wn = nI (61 + wn) := nI_add 61 _
    have hbl : κ (61 + wn) < 32 := (ho.2.2.2.2.2.2.2.1 wn (by omega)).2.2.2.2.2.2.2
    have eh : v_X12_has (I 44 ((61 : Int32) + nI wn).toNatClampNeg) (nI i) = if (κ (61 + wn)).testBit i then 1 else 0 := by
      rw [e61, nI_clamp (by omega), hK _ (by omega)]; exact has_n (by omega) (by omega)
    have hx := ih () trivial
    refine sX12_manyBeside_10 w ?_ ?_ ?_ ?_ ?_ <;> intros <;> (first | exact absurd (by with_reducible assumption) c1 | exact absurd c1 (by with_reducible assumption) | skip)
    · rw [e61]; exact vp_in_nI (by omega) (by decide)
    · rename_i h0
      rw [eh, ifI] at h0
      rw [show qmb κ f wn (i + 1) = qmb κ f wn i + 0 by show qmb κ f wn i + _ = _; rw [if_neg h0]] at hx
      rw [nI_1, show (0 : Int64) = lN 0 from rfl, lN_add]; exact hx
    · exact vp_in_nI (by omega) (by decide)
    · rename_i h0
      rw [eh, ifI, Decidable.not_not] at h0
      rw [show qmb κ f wn (i + 1) = qmb κ f wn i + f i by show qmb κ f wn i + _ = _; rw [if_pos h0]] at hx
      rw [nI_clamp (by omega), h62 i hi, nI_1, lN_add]; exact hx
def aFreeWays (κ : Nat → Nat) (x1 x2 x3 x4 : Int32) : Nat × Int64 := if gY κ x1 x2 x3 = 0 then (if gR x4 0 20 then (0, lN (qmn κ (cN x1) (cN x2) (cN x4) (cN x3))) else (2, 0)) else (gY κ x1 x2 x3, 0)
theorem freeWays_r {x1 x2 x3 x4 : Int32} (w : MW R S nx) (hK : Kn I κ) (ho : qok hb pb κ) (hhb : hb < 2 ^ 29) : Cal l G (k + 8) 0 0 mX12_freeWays [.ref 43, .int x1, .int x2, .int x3, .int x4] (I, J, R, S, nx) (fun r μ' => r = .inl (some (.long (aFreeWays κ x1 x2 x3 x4).2)) ∧ ∃ I' J', μ' = (I', J', R, S, nx) ∧ PU (aFreeWays κ x1 x2 x3 x4).1 κ I I' ∧ UJ J J') := by
  have h1w := ho.1
  obtain ⟨o1, o2⟩ := way_n (x1 := x1) (x2 := x2) (x3 := x3) hK ho
  have o4 : (w_X12_isWayOut I x1 x2 x3) 43 4 = nI (gY κ x1 x2 x3) := by rw [o2]; simp [up2]
  by_cases g : gY κ x1 x2 x3 = 0
  · rw [if_pos g] at o1
    rw [g] at o2
    have o5 : (w_X12_isWayOut I x1 x2 x3) 43 4 ≤ 0 := by rw [o4, g]; decide
    by_cases g2 : gR x4 0 20
    · have c1 : ¬ v_X12_within (Int32.toInt64 x4) (0 : Int64) (20 : Int64) = 0 := cRt g2 (by decide) (by decide)
      rw [show aFreeWays κ x1 x2 x3 x4 = (0, lN (qmn κ (cN x1) (cN x2) (cN x4) (cN x3))) by unfold aFreeWays; rw [if_pos g, if_pos g2]]
      dsimp only
      obtain ⟨a, b, c, rfl, rfl, rfl, ha, hb1, hc1, hb5, hc5, ea, eb, ec⟩ := gY0 ho g
      obtain ⟨d, rfl, _, hd, ed⟩ := g2.n (by omega)
      rw [ea, eb, ec, ed]
      obtain ⟨f, hf⟩ : ∃ f, qmn κ a b = f := ⟨_, rfl⟩
      have hf0 : ∀ v, f 0 v = if v = b ∧ qwf κ a 0 v = 0 then 1 else 0 := fun v => by rw [← hf]; rfl
      have hfs : ∀ t v, f (t + 1) v = if qwf κ a (t + 1) v = 0 then qmb κ (f t) v (κ 1) else 0 := fun t v => by rw [← hf]; rfl
      have hwl : ∀ t v, qwf κ a t v ≤ 792 := fun t v => qfin_le ho _
      have nz : ∀ t v, (nI (qwf κ a t v) = 0) = (qwf κ a t v = 0) := fun t v => propext (nI_eq (b := 0) (by have := hwl t v; omega) (by decide))
      rw [hf]
      refine Cal.of rfl (by decide +kernel) (by simp) (Nat.le_of_ble_eq_true rfl) rfl (sX12_freeWays_0 (P1 := fun I I' => True) (P2 := fun I I' => Fr [49, 50, 51, 52, 53, 54, 57] I I' ∧ laidW I' κ a (κ 1)) w ?_ ?_ ?_ ?_ ?_ ?_ ?_) <;> intros <;> (first | exact absurd (by with_reducible assumption) o1 | exact absurd o1 (by with_reducible assumption) | exact absurd (by with_reducible assumption) c1 | exact absurd c1 (by with_reducible assumption) | exact absurd (by with_reducible assumption) o5 | exact absurd o5 (by with_reducible assumption) | skip)
      · rw [o2]; exact laysWays_r w hK.up4 ho hhb (by omega)
      · rename_i I1 h1
        rw [o2] at h1
        have hK1 := hK.up4.fr h1.1 (by decide)
        have hW := h1.2
        have c4 : ∀ i, i < κ 1 → ¬ v_X12_wards I1 ≤ nI i := fun i hi => by rw [wards_n hK1]; exact nI_ge hi (by omega)
        have c5 : v_X12_wards I1 ≤ nI (κ 1) := by rw [wards_n hK1]; exact nI_le (Nat.le_refl _) (by omega)
        refine upto (W := fun i J2 => hX12_freeWays_45 l G k _ (nI b) (nI c) (nI d) (nI i) (I1, J2, R, S, nx)) (P := fun i J2 => UJ J J2 ∧ ∀ v, v < i → J2 62 v = lN (f 0 v)) 5 ?_ ?_ (i := 0) (Nat.zero_le _) ⟨UJ.rf, fun v hv => absurd hv (Nat.not_lt_zero v)⟩
        · intro J2 ⟨hJ, h62⟩
          have c2 : (5 : Int32) ≤ nI 5 := by decide
          refine sX12_freeWays_45 w ?_ ?_ ?_ ?_ ?_ ?_ ?_ ?_ <;> intros <;> (first | exact absurd (by with_reducible assumption) c2 | exact absurd c2 (by with_reducible assumption) | skip)
          refine upto (W := fun t J3 => hX12_freeWays_88 l G k _ (nI c) (nI d) (nI (t + 1)) (I1, J3, R, S, nx)) (P := fun t J3 => UJ J J3 ∧ ∀ v, v < κ 1 → J3 62 v = lN (f t v)) d ?_ ?_ (i := 0) (Nat.zero_le _) ⟨hJ, fun v hv => h62 v (by omega)⟩
          · intro J3 ⟨hJ3, h3⟩
            have c3 : nI d < nI (d + 1) := nI_lt (by omega) (by omega)
            refine sX12_freeWays_88 w ?_ ?_ ?_ <;> intros <;> (first | exact absurd (by with_reducible assumption) c3 | exact absurd c3 (by with_reducible assumption) | skip)
            · exact vp_in_nI (by omega) (by decide)
            · refine ⟨?_, I1, J3, rfl, PU.ok rfl h1.1 (by decide) (by decide) hK1, hJ3⟩
              rw [nI_clamp (by omega), h3 c hc1]
          · intro t J3 ht ⟨hJ3, h3⟩ ih
            have c3 : ¬ nI d < nI (t + 1) := nI_nlt (by omega) (by omega)
            refine sX12_freeWays_88 w ?_ ?_ ?_ <;> intros <;> (first | exact absurd (by with_reducible assumption) c3 | exact absurd c3 (by with_reducible assumption) | skip)
            refine upto (W := fun i J4 => hX12_freeWays_98 l G k _ (nI c) (nI d) (nI (t + 1)) (nI i) (I1, J4, R, S, nx)) (P := fun i J4 => UJ J J4 ∧ (∀ v, v < κ 1 → J4 62 v = lN (f t v)) ∧ ∀ v, v < i → J4 63 v = lN (f (t + 1) v)) (κ 1) ?_ ?_ (i := 0) (Nat.zero_le _) ⟨hJ3, h3, fun v hv => absurd hv (Nat.not_lt_zero v)⟩
            · intro J4 ⟨hJ4, h4, h63⟩
              refine sX12_freeWays_98 (u1 := 0) (P1 := fun _ _ => True) w ?_ ?_ ?_ ?_ ?_ ?_ ?_ <;> intros <;> (first | exact absurd (by with_reducible assumption) c5 | exact absurd c5 (by with_reducible assumption) | skip)
              refine upto (W := fun i J5 => hX12_freeWays_148 l G k _ (nI c) (nI d) (nI (t + 1)) (nI i) (I1, J5, R, S, nx)) (P := fun i J5 => UJ J J5 ∧ (∀ v, v < κ 1 → J5 63 v = lN (f (t + 1) v)) ∧ ∀ v, v < i → J5 62 v = lN (f (t + 1) v)) (κ 1) ?_ ?_ (i := 0) (Nat.zero_le _) ⟨hJ4, h63, fun v hv => absurd hv (Nat.not_lt_zero v)⟩
              · intro J5 ⟨hJ5, _, h5⟩
                refine sX12_freeWays_148 w ?_ ?_ ?_ ?_ <;> intros <;> (first | exact absurd (by with_reducible assumption) c5 | exact absurd c5 (by with_reducible assumption) | skip)
                rw [nI_1]; exact ih J5 ⟨hJ5, h5⟩
              · intro i J5 hi ⟨hJ5, h63', h5⟩ ih2
                have d4 := c4 i hi
                refine sX12_freeWays_148 w ?_ ?_ ?_ ?_ <;> intros <;> (first | exact absurd (by with_reducible assumption) d4 | exact absurd d4 (by with_reducible assumption) | skip)
                · exact vp_in_nI (by omega) (by decide)
                · exact vp_in_nI (by omega) (by decide)
                · rw [nI_clamp (by omega), h63' i hi, nI_1]
                  refine ih2 _ ⟨hJ5.up (Or.inl rfl), fun v hv => ?_, fun v hv => ?_⟩
                  · have := h63' v hv; simpa [up2] using this
                  · by_cases cv : v = i
                    · subst cv; simp [up2]
                    · simp only [up2, if_true, if_neg cv]; exact h5 v (by omega)
            · intro i J4 hi ⟨hJ4, h4, h63⟩ ih2
              have d4 := c4 i hi
              have e1 : (5 : Int32) * nI (t + 1) + nI i = nI (5 * (t + 1) + i) := by rw [show (5 : Int32) = nI 5 from rfl, pk_mul, nI_add]
              have e57 : I1 57 ((5 : Int32) * nI (t + 1) + nI i).toNatClampNeg = nI (qwf κ a (t + 1) i) := by rw [e1, nI_clamp (by omega)]; exact hW (t + 1) i (by omega) hi
              have fin : ∀ v0, v0 = f (t + 1) i → UJ J (up2 J4 63 i (lN v0)) ∧ (∀ v, v < κ 1 → up2 J4 63 i (lN v0) 62 v = lN (f t v)) ∧ ∀ v, v < i + 1 → up2 J4 63 i (lN v0) 63 v = lN (f (t + 1) v) := by
                intro v0 hv0
                refine ⟨hJ4.up (Or.inr rfl), fun v hv => ?_, fun v hv => ?_⟩
                · have := h4 v hv; simpa [up2] using this
                · by_cases cv : v = i
                  · subst cv; simp [up2, hv0]
                  · simp only [up2, if_true, if_neg cv]; exact h63 v (by omega)
              refine sX12_freeWays_98 (u1 := lN (qmb κ (f t) i (κ 1))) (P1 := fun I I' => I' = I) w ?_ ?_ ?_ ?_ ?_ ?_ ?_ <;> intros <;> (first | exact absurd (by with_reducible assumption) d4 | exact absurd d4 (by with_reducible assumption) | skip)
              · rw [e1]; exact vp_in_nI (by omega) (by decide)
              · exact vp_in_nI (by omega) (by decide)
              · rename_i h0
                rw [e57, nz] at h0
                rw [nI_clamp (by omega), nI_1]
                exact ih2 _ (fin 0 (by rw [hfs, if_neg h0]))
              · exact manyBeside_r w hK1 ho hi h4
              · exact vp_in_nI (by omega) (by decide)
              · rename_i h0 I5 h5
                subst h5
                rw [e57, nz] at h0
                rw [nI_clamp (by omega), nI_1]
                exact ih2 _ (fin _ (by rw [hfs, if_pos h0]))
        · intro i J2 hi ⟨hJ, h62⟩ ih
          have c2 : ¬ (5 : Int32) ≤ nI i := nI_ge (b := 5) hi (by decide)
          have nb : (nI i = nI b) = (i = b) := propext (nI_eq (by omega) (by omega))
          have e57 : i < κ 1 → I1 57 (nI i).toNatClampNeg = nI (qwf κ a 0 i) := fun hi1 => by rw [nI_clamp (by omega)]; have := hW 0 i (by omega) hi1; rw [Nat.mul_zero, Nat.zero_add] at this; exact this
          have fin : ∀ v0 : Nat, v0 = f 0 i → UJ J (up2 J2 62 i (lN v0)) ∧ ∀ v, v < i + 1 → up2 J2 62 i (lN v0) 62 v = lN (f 0 v) := by
            intro v0 hv0
            refine ⟨hJ.up (Or.inl rfl), fun v hv => ?_⟩
            by_cases cv : v = i
            · subst cv; simp [up2, hv0]
            · simp only [up2, if_true, if_neg cv]; exact h62 v (by omega)
          refine sX12_freeWays_45 w ?_ ?_ ?_ ?_ ?_ ?_ ?_ ?_ <;> intros <;> (first | exact absurd (by with_reducible assumption) c2 | exact absurd c2 (by with_reducible assumption) | skip)
          · exact vp_in_nI (by omega) (by decide)
          · rename_i h0
            rw [nb] at h0
            rw [nI_clamp (by omega), nI_1]
            exact ih _ (fin 0 (by rw [hf0, if_neg (fun h => h0 h.1)]))
          · exact vp_in_nI (by omega) (by decide)
          · exact vp_in_nI (by omega) (by decide)
          · rename_i h0 hz
            rw [nb] at h0
            rw [e57 (by omega), nz] at hz
            rw [nI_clamp (by omega), nI_1]
            exact ih _ (fin 0 (by rw [hf0, if_neg (fun h => hz h.2)]))
          · exact vp_in_nI (by omega) (by decide)
          · rename_i h0 hz
            rw [nb] at h0
            rw [e57 (by omega), nz] at hz
            rw [nI_clamp (by omega), nI_1]
            exact ih _ (fin 1 (by rw [hf0, if_pos ⟨h0, hz⟩]))
    · have c1 : v_X12_within (Int32.toInt64 x4) (0 : Int64) (20 : Int64) = 0 := cRf g2 (by decide) (by decide)
      rw [show aFreeWays κ x1 x2 x3 x4 = (2, 0) by unfold aFreeWays; rw [if_pos g, if_neg g2]]
      refine Cal.of rfl (by decide +kernel) (by simp) (Nat.le_of_ble_eq_true rfl) rfl (sX12_freeWays_0 (P1 := fun I I' => True) (P2 := fun I I' => True) w ?_ ?_ ?_ ?_ ?_ ?_ ?_) <;> intros <;> (first | exact absurd (by with_reducible assumption) o1 | exact absurd o1 (by with_reducible assumption) | exact absurd (by with_reducible assumption) c1 | exact absurd c1 (by with_reducible assumption) | skip)
      rw [o2, up2_2]
      exact ⟨rfl, _, J, rfl, PU.fail hK rfl, UJ.rf⟩
  · rw [show aFreeWays κ x1 x2 x3 x4 = (gY κ x1 x2 x3, 0) by unfold aFreeWays; rw [if_neg g]]
    rw [if_neg g] at o1
    have hle := gY_le κ x1 x2 x3
    have o3 : ¬ v_X12_isWayOut I x1 x2 x3 = 0 := by rw [o1]; decide
    have o5 : ¬ (w_X12_isWayOut I x1 x2 x3) 43 4 ≤ 0 := by rw [o4]; exact nI_nle (by omega) (by omega)
    refine Cal.of rfl (by decide +kernel) (by simp) (Nat.le_of_ble_eq_true rfl) rfl (sX12_freeWays_0 (P1 := fun I I' => True) (P2 := fun I I' => True) w ?_ ?_ ?_ ?_ ?_ ?_ ?_) <;> intros <;> (first | exact absurd (by with_reducible assumption) o3 | exact absurd o3 (by with_reducible assumption) | exact absurd (by with_reducible assumption) o5 | exact absurd o5 (by with_reducible assumption) | skip)
    rw [o2]
    exact ⟨rfl, _, J, rfl, PU.fail hK rfl, UJ.rf⟩
end A
