/-! the reference: free ways, guards -/
section A
variable {l : Launch} {G : Gh} {k : Nat} {I : Nat → Nat → Int32} {J : Nat → Nat → Int64} {R : Nat → Nat → Option Nat} {S : Nat → Nat × Nat} {nx : Nat} {κ : Nat → Nat} {hb pb : Nat}
def gY (κ : Nat → Nat) (x1 x2 x3 : Int32) : Nat := if gL x2 (κ 1) ∧ gL x3 (κ 1) then (if gR x1 0 9 then 0 else 2) else 1
theorem way_n {x1 x2 x3 : Int32} (hK : Kn I κ) (ho : qok hb pb κ) : v_X12_isWayOut I x1 x2 x3 = (if gY κ x1 x2 x3 = 0 then 0 else 1) ∧ w_X12_isWayOut I x1 x2 x3 = up2 I 43 4 (nI (gY κ x1 x2 x3)) := by
  unfold v_X12_isWayOut w_X12_isWayOut
  have e1 := gW0 (x := x2) hK ho
  have e2 := gW0 (x := x3) hK ho
  have e3 : (v_X12_isKind x1 = 0) = ¬ gR x1 0 9 := gR0 (by decide) (by decide)
  simp only [e1, e2, e3]
  by_cases g1 : gL x2 (κ 1)
  · rw [if_neg (not_not_intro g1), if_neg (not_not_intro g1)]
    by_cases g2 : gL x3 (κ 1)
    · rw [if_neg (not_not_intro g2), if_neg (not_not_intro g2)]
      by_cases g3 : gR x1 0 9
      · rw [if_neg (not_not_intro g3), if_neg (not_not_intro g3), show gY κ x1 x2 x3 = 0 by unfold gY; rw [if_pos ⟨g1, g2⟩, if_pos g3]]; exact ⟨rfl, rfl⟩
      · rw [if_pos g3, if_pos g3, show gY κ x1 x2 x3 = 2 by unfold gY; rw [if_pos ⟨g1, g2⟩, if_neg g3]]; exact ⟨rfl, rfl⟩
    · rw [if_pos g2, if_pos g2, show gY κ x1 x2 x3 = 1 by unfold gY; rw [if_neg (fun h => g2 h.2)]]; exact ⟨rfl, rfl⟩
  · rw [if_pos g1, if_pos g1, show gY κ x1 x2 x3 = 1 by unfold gY; rw [if_neg (fun h => g1 h.1)]]; exact ⟨rfl, rfl⟩
theorem gY0 {x1 x2 x3 : Int32} (ho : qok hb pb κ) (h : gY κ x1 x2 x3 = 0) : ∃ a b c, x1 = nI a ∧ x2 = nI b ∧ x3 = nI c ∧ a ≤ 9 ∧ b < κ 1 ∧ c < κ 1 ∧ b < 5 ∧ c < 5 ∧ cN x1 = a ∧ cN x2 = b ∧ cN x3 = c := by
  have h1 := ho.1
  unfold gY at h
  split at h
  · rename_i g1
    split at h
    · rename_i g2
      obtain ⟨b, rfl, hb2, eb⟩ := g1.1.n (by omega)
      obtain ⟨c, rfl, hc2, ec⟩ := g1.2.n (by omega)
      obtain ⟨a, rfl, _, ha, ea⟩ := g2.n (by omega)
      exact ⟨a, b, c, rfl, rfl, rfl, ha, hb2, hc2, by omega, by omega, ea, eb, ec⟩
    · cases h
  · cases h
theorem gY_le (κ : Nat → Nat) (x1 x2 x3 : Int32) : gY κ x1 x2 x3 ≤ 2 := by
  unfold gY
  split
  · split <;> omega
  · omega
def aFreeWay (κ : Nat → Nat) (x1 x2 x3 : Int32) : Nat × Int32 := if gY κ x1 x2 x3 = 0 then (0, jP (qway κ (cN x1) (cN x2) (cN x3) none)) else (gY κ x1 x2 x3, 0)
theorem freeWay_r {x1 x2 x3 : Int32} (w : MW R S nx) (hK : Kn I κ) (ho : qok hb pb κ) (hhb : hb < 2 ^ 29) : Cal l G (k + 8) 0 0 mX12_freeWay [.ref 43, .int x1, .int x2, .int x3] (I, J, R, S, nx) (fun r μ' => r = .inl (some (.int ((aFreeWay κ x1 x2 x3).2))) ∧ ∃ I', μ' = (I', J, R, S, nx) ∧ PU (aFreeWay κ x1 x2 x3).1 κ I I') := by
  obtain ⟨o1, o2⟩ := way_n (x1 := x1) (x2 := x2) (x3 := x3) hK ho
  by_cases g : gY κ x1 x2 x3 = 0
  · rw [show aFreeWay κ x1 x2 x3 = (0, jP (qway κ (cN x1) (cN x2) (cN x3) none)) by unfold aFreeWay; rw [if_pos g]]
    dsimp only
    rw [if_pos g] at o1
    rw [g] at o2
    obtain ⟨a, b, c, rfl, rfl, rfl, ha, hb1, hc1, hb5, hc5, ea, eb, ec⟩ := gY0 ho g
    rw [ea, eb, ec]
    obtain ⟨v, hv⟩ : ∃ v, jP (qway κ a b c none) = v := ⟨_, rfl⟩
    rw [hv]
    refine Cal.of rfl (by decide +kernel) (by simp) (Nat.le_of_ble_eq_true rfl) rfl (sX12_freeWay_0 (u2 := v) (P1 := fun I I' => Fr [49, 50, 51, 52, 53, 54, 57] I I' ∧ laidW I' κ a (κ 1)) (P2 := fun I I' => Fr [58] I I') w ?_ ?_ ?_ ?_) <;> intros <;> (first | exact absurd (by with_reducible assumption) o1 | exact absurd o1 (by with_reducible assumption) | skip)
    · rw [o2]; exact laysWays_r w hK.up4 ho hhb (by omega)
    · rename_i I1 h1
      rw [o2] at h1
      rw [← hv]
      exact (laysFree_r (sh := none) w (hK.up4.fr h1.1 (by decide)) ho hb5 hc5 (fun s h => by cases h) h1.2).mono (fun r μ' ⟨e, I', e2, h3, _⟩ => ⟨e, I', e2, h3⟩)
    · rename_i I1 h1 I2 h2
      rw [o2] at h1
      have hF := h1.1.tr h2 (r3 := [49, 50, 51, 52, 53, 54, 57, 58]) (by decide)
      exact ⟨rfl, _, rfl, PU.ok rfl hF (by decide) (by decide) (hK.up4.fr hF (by decide))⟩
  · rw [show aFreeWay κ x1 x2 x3 = (gY κ x1 x2 x3, 0) by unfold aFreeWay; rw [if_neg g]]
    rw [if_neg g] at o1
    have o3 : ¬ v_X12_isWayOut I x1 x2 x3 = 0 := by rw [o1]; decide
    refine Cal.of rfl (by decide +kernel) (by simp) (Nat.le_of_ble_eq_true rfl) rfl (sX12_freeWay_0 (u2 := 0) (P1 := fun I I' => True) (P2 := fun I I' => True) w ?_ ?_ ?_ ?_) <;> intros <;> (first | exact absurd (by with_reducible assumption) o3 | exact absurd o3 (by with_reducible assumption) | skip)
    rw [o2]
    exact ⟨rfl, _, rfl, PU.fail hK rfl⟩
/-! guards -/
def qgd (s : Nat → Option Nat) (fr to n0 : Nat) : Nat → Nat × Option Nat
  | 0 => (n0, none)
  | i + 1 => if i = fr ∨ i = to then qgd s fr to n0 i else if (qgd s fr to n0 i).1 < (s i).getD 536870912 then ((s i).getD 536870912, some i) else qgd s fr to n0 i
theorem qgd_s (s : Nat → Option Nat) (fr to n0 i : Nat) : qgd s fr to n0 (i + 1) = if i = fr ∨ i = to then qgd s fr to n0 i else if (qgd s fr to n0 i).1 < (s i).getD 536870912 then ((s i).getD 536870912, some i) else qgd s fr to n0 i := rfl
theorem qfi_le {p : Nat → Bool} {n i : Nat} (h : qfi p n = some i) : i < n ∧ p i = true := by
  unfold qfi at h
  split at h
  · rename_i c
    have := Option.some.inj h
    subst this
    exact ⟨c, fa_first_yes p n c⟩
  · cases h
theorem gD_le {s : Nat → Option Nat} (hs : ∀ i n, s i = some n → n < 61) (i : Nat) : (s i).getD 536870912 ≤ 536870912 := by
  cases h : s i with
  | none => exact Nat.le_refl _
  | some n => have := hs i n h; show n ≤ _; omega
theorem qgd_le {s : Nat → Option Nat} {fr to n0 : Nat} (hs : ∀ i n, s i = some n → n < 61) (h0 : n0 < 61) : ∀ i, (qgd s fr to n0 i).1 ≤ 536870912
  | 0 => by show n0 ≤ _; omega
  | i + 1 => by
    rw [qgd_s]
    split
    · exact qgd_le hs h0 i
    · split
      · exact gD_le hs i
      · exact qgd_le hs h0 i
def qguard (κ : Nat → Nat) (kd fr to : Nat) : Option Nat := match qway κ kd fr to none with
  | none => none
  | some n0 => (qgd (fun w => qway κ kd fr to (some w)) fr to n0 (κ 1)).2
def aGuard (κ : Nat → Nat) (x1 x2 x3 : Int32) : Nat × Int32 := if gY κ x1 x2 x3 = 0 then (if x2 = x3 then (2, 0) else (0, jP (qguard κ (cN x1) (cN x2) (cN x3)))) else (gY κ x1 x2 x3, 0)
theorem jP_m1 {n : Nat} (h : n < 2 ^ 31) : ¬ jP (some n) = (-1 : Int32) := by
  rw [show jP (some n) = nI n from rfl, fa_eq, nI_toInt (by omega), show (-1 : Int32).toInt = -1 by decide]; omega
theorem guard_r {x1 x2 x3 : Int32} (w : MW R S nx) (hK : Kn I κ) (ho : qok hb pb κ) (hhb : hb < 2 ^ 29) : Cal l G (k + 8) 0 0 mX12_guard [.ref 43, .int x1, .int x2, .int x3] (I, J, R, S, nx) (fun r μ' => r = .inl (some (.int ((aGuard κ x1 x2 x3).2))) ∧ ∃ I', μ' = (I', J, R, S, nx) ∧ PU (aGuard κ x1 x2 x3).1 κ I I') := by
  have h1w := ho.1
  obtain ⟨o1, o2⟩ := way_n (x1 := x1) (x2 := x2) (x3 := x3) hK ho
  have o4 : (w_X12_isWayOut I x1 x2 x3) 43 4 = nI (gY κ x1 x2 x3) := by rw [o2]; simp [up2]
  by_cases g : gY κ x1 x2 x3 = 0
  · rw [if_pos g] at o1
    rw [g] at o2
    have o5 : (w_X12_isWayOut I x1 x2 x3) 43 4 ≤ 0 := by rw [o4, g]; decide
    by_cases g2 : x2 = x3
    · rw [show aGuard κ x1 x2 x3 = (2, 0) by unfold aGuard; rw [if_pos g, if_pos g2]]
      refine Cal.of rfl (by decide +kernel) (by simp) (Nat.le_of_ble_eq_true rfl) rfl (sX12_guard_0 (u2 := 0) (u4 := 0) (P1 := fun I I' => True) (P2 := fun I I' => True) (P3 := fun I I' => True) (P4 := fun I I' => True) w ?_ ?_ ?_ ?_ ?_ ?_ ?_ ?_ ?_) <;> intros <;> (first | exact absurd (by with_reducible assumption) o1 | exact absurd o1 (by with_reducible assumption) | exact absurd (by with_reducible assumption) g2 | exact absurd g2 (by with_reducible assumption) | skip)
      rw [o2, up2_2]
      exact ⟨rfl, _, rfl, PU.fail hK rfl⟩
    · rw [show aGuard κ x1 x2 x3 = (0, jP (qguard κ (cN x1) (cN x2) (cN x3))) by unfold aGuard; rw [if_pos g, if_neg g2]]
      dsimp only
      obtain ⟨a, b, c, rfl, rfl, rfl, ha, hb1, hc1, hb5, hc5, ea, eb, ec⟩ := gY0 ho g
      rw [ea, eb, ec]
      have hbc : b ≠ c := fun h => g2 (by rw [h])
      refine Cal.of rfl (by decide +kernel) (by simp) (Nat.le_of_ble_eq_true rfl) rfl (sX12_guard_0 (u2 := 0) (u4 := jP (qway κ a b c none)) (P1 := fun I I' => True) (P2 := fun I I' => True) (P3 := fun I I' => Fr [49, 50, 51, 52, 53, 54, 57] I I' ∧ laidW I' κ a (κ 1)) (P4 := fun I I' => Fr [58] I I') w ?_ ?_ ?_ ?_ ?_ ?_ ?_ ?_ ?_) <;> intros <;> (first | exact absurd (by with_reducible assumption) o1 | exact absurd o1 (by with_reducible assumption) | exact absurd (by with_reducible assumption) g2 | exact absurd g2 (by with_reducible assumption) | exact absurd (by with_reducible assumption) o5 | exact absurd o5 (by with_reducible assumption) | skip)
      · rw [o2]; exact laysWays_r w hK.up4 ho hhb (by omega)
      · rename_i I1 h1
        rw [o2] at h1
        exact (laysFree_r (sh := none) w (hK.up4.fr h1.1 (by decide)) ho hb5 hc5 (fun s h => by cases h) h1.2).mono (fun r μ' ⟨e, I', e2, h3, _⟩ => ⟨e, I', e2, h3⟩)
      · rename_i I1 h1 I2 h2
        rw [o2] at h1
        have hF2 := h1.1.tr h2 (r3 := [49, 50, 51, 52, 53, 54, 57, 58]) (by decide)
        unfold qguard
        obtain ⟨s, hs⟩ : ∃ s, (fun w => qway κ a b c (some w)) = s := ⟨_, rfl⟩
        have hsi : ∀ i, qway κ a b c (some i) = s i := fun i => congrFun hs i
        have hsl : ∀ i n, s i = some n → n < 61 := fun i n h => by rw [← hsi] at h; exact (qfi_le h).1
        rw [hs]
        cases hq : qway κ a b c none with
        | none =>
          have c1 : jP none = (-1 : Int32) := rfl
          refine sX12_guard_49 (u1 := 0) (P1 := fun _ _ => True) w ?_ ?_ ?_ ?_ ?_ ?_ ?_ <;> intros <;> (first | exact absurd (by with_reducible assumption) c1 | exact absurd c1 (by with_reducible assumption) | skip)
          · exact ⟨rfl, _, rfl, PU.ok rfl hF2 (by decide) (by decide) (hK.up4.fr hF2 (by decide))⟩
          · exact ⟨rfl, _, rfl, PU.ok rfl hF2 (by decide) (by decide) (hK.up4.fr hF2 (by decide))⟩
        | some n0 =>
          have hn0 := (qfi_le hq).1
          refine upto (W := fun i (t : (Nat × Option Nat) × (Nat → Nat → Int32)) => hX12_guard_49 l G k _ (nI b) (nI c) (nI t.1.1) (jP t.1.2) (nI i) (t.2, J, R, S, nx)) (P := fun i t => t.1 = qgd s b c n0 i ∧ Fr [49, 50, 51, 52, 53, 54, 57, 58] (up2 I 43 4 (nI 0)) t.2 ∧ laidW t.2 κ a (κ 1)) (κ 1) ?_ ?_ (i := 0) (s := ((n0, none), I2)) (Nat.zero_le _) ⟨rfl, hF2, fun t wn p q => by show I2 57 _ = _; rw [h2 57 (by decide)]; exact h1.2 t wn p q⟩
          · intro ⟨o, I3⟩ ⟨he, hF, hW⟩
            dsimp only at he hF hW ⊢
            have hK3 := hK.up4.fr hF (by decide)
            have c1 : v_X12_wards I3 ≤ nI (κ 1) := by rw [wards_n hK3]; exact nI_le (Nat.le_refl _) (by omega)
            refine sX12_guard_49 (u1 := 0) (P1 := fun _ _ => True) w ?_ ?_ ?_ ?_ ?_ ?_ ?_ <;> intros <;> (first | exact absurd (by with_reducible assumption) c1 | exact absurd c1 (by with_reducible assumption) | skip)
            exact ⟨by rw [he], _, rfl, PU.ok rfl hF (by decide) (by decide) hK3⟩
          · intro i ⟨o, I3⟩ hi ⟨he, hF, hW⟩ ih
            dsimp only at he hF hW ⊢
            have hK3 := hK.up4.fr hF (by decide)
            have c1 : ¬ v_X12_wards I3 ≤ nI i := by rw [wards_n hK3]; exact nI_ge hi (by omega)
            have ol := qgd_le (fr := b) (to := c) hsl hn0 i
            rw [← he] at ol
            have c2 : ¬ nI o.1 = (-1 : Int32) := jP_m1 (by omega)
            have nb : (nI i = nI b) = (i = b) := propext (nI_eq (by omega) (by omega))
            have nc : (nI i = nI c) = (i = c) := propext (nI_eq (by omega) (by omega))
            by_cases e1 : i = b
            · have c3 : nI i = nI b := nb.mpr e1
              refine sX12_guard_49 (u1 := 0) (P1 := fun _ _ => True) w ?_ ?_ ?_ ?_ ?_ ?_ ?_ <;> intros <;> (first | exact absurd (by with_reducible assumption) c1 | exact absurd c1 (by with_reducible assumption) | exact absurd (by with_reducible assumption) c2 | exact absurd c2 (by with_reducible assumption) | exact absurd (by with_reducible assumption) c3 | exact absurd c3 (by with_reducible assumption) | skip)
              rw [nI_1]
              exact ih (o, I3) ⟨by rw [qgd_s, ← he, if_pos (Or.inl e1)], hF, hW⟩
            · have c3 : ¬ nI i = nI b := fun h => e1 (nb.mp h)
              by_cases e2 : i = c
              · have c4 : nI i = nI c := nc.mpr e2
                refine sX12_guard_49 (u1 := 0) (P1 := fun _ _ => True) w ?_ ?_ ?_ ?_ ?_ ?_ ?_ <;> intros <;> (first | exact absurd (by with_reducible assumption) c1 | exact absurd c1 (by with_reducible assumption) | exact absurd (by with_reducible assumption) c2 | exact absurd c2 (by with_reducible assumption) | exact absurd (by with_reducible assumption) c3 | exact absurd c3 (by with_reducible assumption) | exact absurd (by with_reducible assumption) c4 | exact absurd c4 (by with_reducible assumption) | skip)
                rw [nI_1]
                exact ih (o, I3) ⟨by rw [qgd_s, ← he, if_pos (Or.inr e2)], hF, hW⟩
              · have c4 : ¬ nI i = nI c := fun h => e2 (nc.mp h)
                have hne : ¬ (i = b ∨ i = c) := fun h => h.elim e1 e2
                have gl := gD_le hsl i
                have go : ∀ I4, Fr [58] I3 I4 → hX12_guard_103 l G k (fun r μ' => r = .inl (some (.int (jP (qgd s b c n0 (κ 1)).2))) ∧ ∃ I', μ' = (I', J, R, S, nx) ∧ PU 0 κ I I') (nI b) (nI c) (nI o.1) (jP o.2) (nI i) (nI ((s i).getD 536870912)) (I4, J, R, S, nx) := by
                  intro I4 h4
                  have hF4 : Fr [49, 50, 51, 52, 53, 54, 57, 58] (up2 I 43 4 (nI 0)) I4 := hF.tr h4 (by decide)
                  have hW4 : laidW I4 κ a (κ 1) := fun t wn p q => by rw [h4 57 (by decide)]; exact hW t wn p q
                  refine sX12_guard_103 (fun h => ?_) (fun h => ?_)
                  · rw [nI_ltI (by omega) (by omega)] at h
                    rw [nI_1]
                    exact ih (((s i).getD 536870912, some i), I4) ⟨by rw [qgd_s, ← he, if_neg hne, if_pos h], hF4, hW4⟩
                  · rw [nI_ltI (by omega) (by omega)] at h
                    rw [nI_1]
                    exact ih (o, I4) ⟨by rw [qgd_s, ← he, if_neg hne, if_neg h], hF4, hW4⟩
                refine sX12_guard_49 (u1 := jP (s i)) (P1 := fun I I' => Fr [58] I I') w ?_ ?_ ?_ ?_ ?_ ?_ ?_ <;> intros <;> (first | exact absurd (by with_reducible assumption) c1 | exact absurd c1 (by with_reducible assumption) | exact absurd (by with_reducible assumption) c2 | exact absurd c2 (by with_reducible assumption) | exact absurd (by with_reducible assumption) c3 | exact absurd c3 (by with_reducible assumption) | exact absurd (by with_reducible assumption) c4 | exact absurd c4 (by with_reducible assumption) | skip)
                · rw [← hsi]
                  exact (laysFree_r (sh := some i) w hK3 ho hb5 hc5 (fun s h => by cases h; omega) hW).mono (fun r μ' ⟨e, I', e2, h3, _⟩ => ⟨e, I', e2, h3⟩)
                · rename_i I4 h4 hu
                  cases hsi2 : s i with
                  | none => rw [hsi2] at hu; exact absurd rfl hu
                  | some n => have := go I4 h4; rw [hsi2] at this; exact this
                · rename_i I4 h4 hu
                  cases hsi2 : s i with
                  | none => have := go I4 h4; rw [hsi2] at this; exact this
                  | some n => rw [hsi2] at hu; exact absurd hu (jP_m1 (by have := hsl i n hsi2; omega))
  · rw [show aGuard κ x1 x2 x3 = (gY κ x1 x2 x3, 0) by unfold aGuard; rw [if_neg g]]
    rw [if_neg g] at o1
    have hle := gY_le κ x1 x2 x3
    have o3 : ¬ v_X12_isWayOut I x1 x2 x3 = 0 := by rw [o1]; decide
    have o5 : ¬ (w_X12_isWayOut I x1 x2 x3) 43 4 ≤ 0 := by rw [o4]; exact nI_nle (by omega) (by omega)
    refine Cal.of rfl (by decide +kernel) (by simp) (Nat.le_of_ble_eq_true rfl) rfl (sX12_guard_0 (u2 := 0) (u4 := 0) (P1 := fun I I' => True) (P2 := fun I I' => True) (P3 := fun I I' => True) (P4 := fun I I' => True) w ?_ ?_ ?_ ?_ ?_ ?_ ?_ ?_ ?_) <;> intros <;> (first | exact absurd (by with_reducible assumption) o3 | exact absurd o3 (by with_reducible assumption) | exact absurd (by with_reducible assumption) o5 | exact absurd o5 (by with_reducible assumption) | skip)
    rw [o2]
    exact ⟨rfl, _, rfl, PU.fail hK rfl⟩
end A
