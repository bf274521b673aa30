/-! the reference: covers, widening, the heaviest act -/
section A
variable {l : Launch} {G : Gh} {k : Nat} {I : Nat → Nat → Int32} {J : Nat → Nat → Int64} {R : Nat → Nat → Option Nat} {S : Nat → Nat × Nat} {nx : Nat} {κ : Nat → Nat} {hb pb : Nat}
/-- in how many hours of the day to come some acts bar by themselves -/
def qbp (κ : Nat → Nat) (wn some : Nat) : Nat → Bool := fun j => decide (qcode κ wn (qdeg κ wn (κ 54 + j)) (κ 54 + j) some ≠ 0)
def qcov (κ : Nat → Nat) (wn some : Nat) : Bool := decide (fa_cnt (qbp κ wn some) 24 = 24)
theorem isCovered_r {wn sm : Nat} (w : MW R S nx) (hK : Kn I κ) (ho : qok hb pb κ) (hhb : hb < 2 ^ 29) (hw : wn < 5) (hs : sm < 2 ^ 31) (hD : laidD I κ wn (κ 54) 24) : Cal l G (k + 5) 0 0 mX12_isCovered [.ref 43, .int (nI wn), .int (nI sm)] (I, J, R, S, nx) (fun r μ' => r = .inl (some (.int (if qcov κ wn sm then 1 else 0))) ∧ ∃ I', μ' = (I', J, R, S, nx) ∧ Fr [49, 50] I I') := by
  have h54 : κ 54 ≤ hb := ho.2.2.2.2.2.2.2.2.2.2.1
  refine Cal.of rfl (by decide +kernel) (by simp) (Nat.le_of_ble_eq_true rfl) rfl (sX12_isCovered_0 ?_)
  refine upto (W := fun i I1 => hX12_isCovered_2 l G k _ (nI wn) (nI sm) (nI i) (I1, J, R, S, nx)) (P := fun i I1 => Fr [49, 50] I I1 ∧ ∀ j, j < i → qbp κ wn sm j = true) 24 ?_ ?_ (i := 0) (Nat.zero_le _) ⟨Fr.rf, fun j hj => absurd hj (Nat.not_lt_zero j)⟩
  · intro I1 ⟨hF, h⟩
    have c1 : (24 : Int32) ≤ nI 24 := by decide
    refine sX12_isCovered_2 (u1 := 0) (P1 := fun _ _ => True) w ?_ ?_ ?_ ?_ ?_ <;> intros <;> (first | exact absurd (by with_reducible assumption) c1 | exact absurd c1 (by with_reducible assumption) | skip)
    have e : qcov κ wn sm = true := by unfold qcov; simp only [decide_eq_true_eq]; exact cnt_all.mpr h
    exact ⟨by rw [e]; rfl, _, rfl, hF⟩
  · intro i I1 hi ⟨hF, h⟩ ih
    have hK1 := hK.fr hF (by decide)
    have c1 : ¬ (24 : Int32) ≤ nI i := nI_ge (b := 24) hi (by decide)
    have hq := qdeg_le κ wn (κ 54 + i)
    have e52 : I1 52 (nI i).toNatClampNeg = nI (qdeg κ wn (κ 54 + i)) := by rw [nI_clamp (by omega), hF 52 (by decide)]; exact hD i hi
    have hlt := qcode_lt κ wn (qdeg κ wn (κ 54 + i)) (κ 54 + i) sm ho.2.1
    refine sX12_isCovered_2 (u1 := nI (qcode κ wn (qdeg κ wn (κ 54 + i)) (κ 54 + i) sm)) (P1 := fun I I' => Fr [49, 50] I I') w ?_ ?_ ?_ ?_ ?_ <;> intros <;> (first | exact absurd (by with_reducible assumption) c1 | exact absurd c1 (by with_reducible assumption) | skip)
    · exact vp_in_nI (by omega) (by decide)
    · rw [e52, hK1.h (by decide), nI_add]
      exact codeAt_r w hK1 ho hw (by omega) (by omega) hs
    · rename_i I2 h2 h0
      rw [nI_1]
      refine ih I2 ⟨hF.tr h2 (by decide), fun j hj => ?_⟩
      by_cases c : j = i
      · rw [c]; unfold qbp; simp only [decide_eq_true_eq]
        exact fun hz => h0 (by rw [hz]; rfl)
      · exact h j (by omega)
    · rename_i I2 h2 h0
      have hz := (nI_eq (b := 0) (by omega) (by decide)).mp h0
      have e : qcov κ wn sm = false := by
        unfold qcov
        simp only [decide_eq_false_iff_not]
        intro hc
        have := cnt_all.mp hc i hi
        unfold qbp at this
        simp [hz] at this
      exact ⟨by rw [e]; rfl, _, rfl, hF.tr h2 (by decide)⟩
def fewer (o : Option Nat) (s : Nat) : Bool := match o with | none => true | some b => decide (qpop s < qpop b)
/-- the least cover, of the sets up to one -/
def qcv (κ : Nat → Nat) (wn sm : Nat) : Nat → Option Nat
  | 0 => none
  | i + 1 => if (i + 1) &&& sm = i + 1 ∧ fewer (qcv κ wn sm i) (i + 1) = true ∧ qcov κ wn (i + 1) = true then some (i + 1) else qcv κ wn sm i
theorem qcv_s (κ : Nat → Nat) (wn sm i : Nat) : qcv κ wn sm (i + 1) = if (i + 1) &&& sm = i + 1 ∧ fewer (qcv κ wn sm i) (i + 1) = true ∧ qcov κ wn (i + 1) = true then some (i + 1) else qcv κ wn sm i := rfl
theorem qcv_le (κ : Nat → Nat) (wn sm : Nat) : ∀ i b, qcv κ wn sm i = some b → b ≤ i
  | 0, b, h => by cases h
  | i + 1, b, h => by
    rw [qcv_s] at h
    split at h
    · have := Option.some.inj h; omega
    · have := qcv_le κ wn sm i b h; omega
def cAns (o : Option Nat) (what : Nat) : Int32 := match o with | none => -1 | some b => if what = 1 then nI b else nI (qpop b)
def qsm (κ : Nat → Nat) (kd : Nat) : Nat := qkind κ kd &&& qall κ
def aCover (κ : Nat → Nat) (x1 x2 x3 : Int32) : Nat × Int32 := if gL x2 (κ 1) then (if gR x1 0 9 ∧ gR x3 0 1 then (0, cAns (qcv κ (cN x2) (qsm κ (cN x1)) (qsm κ (cN x1))) (cN x3)) else (2, 0)) else (1, 0)
theorem cover_r {x1 x2 x3 : Int32} (w : MW R S nx) (hK : Kn I κ) (ho : qok hb pb κ) (hhb : hb < 2 ^ 29) : Cal l G (k + 6) 0 0 mX12_cover [.ref 43, .int x1, .int x2, .int x3] (I, J, R, S, nx) (fun r μ' => r = .inl (some (.int ((aCover κ x1 x2 x3).2))) ∧ ∃ I', μ' = (I', J, R, S, nx) ∧ PU (aCover κ x1 x2 x3).1 κ I I') := by
  have h1w := ho.1
  have h54 : κ 54 ≤ hb := ho.2.2.2.2.2.2.2.2.2.2.1
  have k1 : (v_X12_isKind x1 = 0) = ¬ gR x1 0 9 := gR0 (by decide) (by decide)
  by_cases g1 : gL x2 (κ 1)
  · have c1 := cWt hK ho g1
    by_cases g2 : gR x1 0 9
    · have c2 : ¬ v_X12_isKind x1 = 0 := by rw [k1]; exact fun h => h g2
      by_cases g3 : gR x3 0 1
      · have c3 : ¬ v_X12_within (Int32.toInt64 x3) (0 : Int64) (1 : Int64) = 0 := cRt g3 (by decide) (by decide)
        rw [show aCover κ x1 x2 x3 = (0, cAns (qcv κ (cN x2) (qsm κ (cN x1)) (qsm κ (cN x1))) (cN x3)) by unfold aCover; rw [if_pos g1, if_pos ⟨g2, g3⟩]]
        dsimp only
        obtain ⟨b, rfl, hb, eb⟩ := g1.n (by omega)
        obtain ⟨a, rfl, _, ha, ea⟩ := g2.n (by omega)
        obtain ⟨c, rfl, _, hc, ec⟩ := g3.n (by omega)
        rw [ea, eb, ec]
        refine Cal.of rfl (by decide +kernel) (by simp) (Nat.le_of_ble_eq_true rfl) rfl (sX12_cover_0 (u2 := nI (qkind κ a)) (P1 := fun I I' => Fr [49, 50, 52] I I' ∧ laidD I' κ b (κ 54) 24) (P2 := fun I I' => I' = I) w ?_ ?_ ?_ ?_ ?_ ?_) <;> intros <;> (first | exact absurd (by with_reducible assumption) c1 | exact absurd c1 (by with_reducible assumption) | exact absurd (by with_reducible assumption) c2 | exact absurd c2 (by with_reducible assumption) | exact absurd (by with_reducible assumption) c3 | exact absurd c3 (by with_reducible assumption) | skip)
        · rw [hK.h (by decide)]; exact laysDegrees_r (n := 24) w hK.up4 ho hhb (by omega) (by omega) (by omega)
        · rename_i I1 h1
          exact (r_ofKind w (hK.up4.fr h1.1 (by decide)) ho (by omega)).eqI
        · rename_i I1 h1 I2 h2
          subst h2
          have hK2 := hK.up4.fr h1.1 (by decide)
          rw [all_n hK2 ho, fa_and]
          have hsm : qsm κ a < 256 := Nat.and_lt_two_pow (n := 8) _ (qall_lt ho)
          obtain ⟨m, hm⟩ : ∃ m, qsm κ a = m := ⟨_, rfl⟩
          rw [show qkind κ a &&& qall κ = m from hm, hm]
          rw [hm] at hsm
          refine upto (W := fun i (s : Option Nat × (Nat → Nat → Int32)) => hX12_cover_80 l G k _ (nI b) (nI c) (nI m) (jP s.1) (nI (i + 1)) (s.2, J, R, S, nx)) (P := fun i s => s.1 = qcv κ b m i ∧ Fr [49, 50, 52] (up2 I 43 4 (0 : Int32)) s.2 ∧ laidD s.2 κ b (κ 54) 24) m ?_ ?_ (i := 0) (s := (none, I2)) (Nat.zero_le _) ⟨rfl, h1.1, h1.2⟩
          · intro ⟨o, I3⟩ ⟨he, hF, hD⟩
            dsimp only at he hF hD ⊢
            have c4 : nI m < nI (m + 1) := nI_lt (by omega) (by omega)
            rw [← he]
            cases o with
            | none =>
              have c5 : jP none = (-1 : Int32) := rfl
              refine sX12_cover_80 (u1 := 0) (u2 := 0) (u3 := 0) (u4 := 0) (u5 := 0) (P1 := fun _ _ => True) (P2 := fun _ _ => True) (P3 := fun _ _ => True) (P4 := fun _ _ => True) (P5 := fun _ _ => True) w ?_ ?_ ?_ ?_ ?_ ?_ ?_ ?_ ?_ ?_ ?_ ?_ ?_ ?_ <;> intros <;> (first | exact absurd (by with_reducible assumption) c4 | exact absurd c4 (by with_reducible assumption) | exact absurd (by with_reducible assumption) c5 | exact absurd c5 (by with_reducible assumption) | skip)
              exact ⟨rfl, _, rfl, PU.ok rfl hF (by decide) (by decide) (hK.up4.fr hF (by decide))⟩
            | some q =>
              have hq := qcv_le κ b m m q he.symm
              have c5 : ¬ jP (some q) = (-1 : Int32) := by rw [show jP (some q) = nI q from rfl, fa_eq, nI_toInt (by omega), show (-1 : Int32).toInt = -1 by decide]; omega
              have n1 : (nI c = (1 : Int32)) = (c = 1) := propext (nI_eq (b := 1) (by omega) (by decide))
              by_cases hc1 : c = 1
              · have c6 : nI c = (1 : Int32) := n1.mpr hc1
                refine sX12_cover_80 (u1 := 0) (u2 := 0) (u3 := 0) (u4 := 0) (u5 := 0) (P1 := fun _ _ => True) (P2 := fun _ _ => True) (P3 := fun _ _ => True) (P4 := fun _ _ => True) (P5 := fun _ _ => True) w ?_ ?_ ?_ ?_ ?_ ?_ ?_ ?_ ?_ ?_ ?_ ?_ ?_ ?_ <;> intros <;> (first | exact absurd (by with_reducible assumption) c4 | exact absurd c4 (by with_reducible assumption) | exact absurd (by with_reducible assumption) c5 | exact absurd c5 (by with_reducible assumption) | exact absurd (by with_reducible assumption) c6 | exact absurd c6 (by with_reducible assumption) | skip)
                exact ⟨by unfold cAns; simp [hc1]; rfl, _, rfl, PU.ok rfl hF (by decide) (by decide) (hK.up4.fr hF (by decide))⟩
              · have c6 : ¬ nI c = (1 : Int32) := fun h => hc1 (n1.mp h)
                refine sX12_cover_80 (u1 := nI (qpop q)) (u2 := 0) (u3 := 0) (u4 := 0) (u5 := 0) (P1 := fun I I' => I' = I) (P2 := fun _ _ => True) (P3 := fun _ _ => True) (P4 := fun _ _ => True) (P5 := fun _ _ => True) w ?_ ?_ ?_ ?_ ?_ ?_ ?_ ?_ ?_ ?_ ?_ ?_ ?_ ?_ <;> intros <;> (first | exact absurd (by with_reducible assumption) c4 | exact absurd c4 (by with_reducible assumption) | exact absurd (by with_reducible assumption) c5 | exact absurd c5 (by with_reducible assumption) | exact absurd (by with_reducible assumption) c6 | exact absurd c6 (by with_reducible assumption) | skip)
                · exact (r_size (by omega)).eqI
                · rename_i I4 h4
                  subst h4
                  exact ⟨by unfold cAns; simp [hc1], _, rfl, PU.ok rfl hF (by decide) (by decide) (hK.up4.fr hF (by decide))⟩
          · intro i ⟨o, I3⟩ hi ⟨he, hF, hD⟩ ih
            dsimp only at he hF hD ⊢
            have hK3 := hK.up4.fr hF (by decide)
            have c4 : ¬ nI m < nI (i + 1) := nI_nlt (b := i + 1) (a := m) (by omega) (by omega)
            have nin := not_in (s := i + 1) (m := m) (by omega) hsm
            have lD : ∀ I4, Fr [49, 50] I3 I4 → Fr [49, 50, 52] (up2 I 43 4 (0 : Int32)) I4 ∧ laidD I4 κ b (κ 54) 24 := fun I4 h => ⟨hF.tr h (by decide), fun q hq => by rw [h 52 (by decide)]; exact hD q hq⟩
            have cv := isCovered_r (l := l) (G := G) (k := k) (J := J) (sm := i + 1) w hK3 ho hhb (show b < 5 by omega) (by omega) hD
            by_cases h5 : (i + 1) &&& m = i + 1
            · have c5 : nI (i + 1) &&& (nI m ^^^ (-1 : Int32)) = 0 := nin.mpr h5
              cases o with
              | none =>
                have c6 : jP none = (-1 : Int32) := rfl
                refine sX12_cover_80 (u1 := 0) (u2 := if qcov κ b (i + 1) then 1 else 0) (u3 := 0) (u4 := 0) (u5 := 0) (P1 := fun _ _ => True) (P2 := fun I I' => Fr [49, 50] I I') (P3 := fun _ _ => True) (P4 := fun _ _ => True) (P5 := fun _ _ => True) w ?_ ?_ ?_ ?_ ?_ ?_ ?_ ?_ ?_ ?_ ?_ ?_ ?_ ?_ <;> intros <;> (first | exact absurd (by with_reducible assumption) c4 | exact absurd c4 (by with_reducible assumption) | exact absurd (by with_reducible assumption) c5 | exact absurd c5 (by with_reducible assumption) | exact absurd (by with_reducible assumption) c6 | exact absurd c6 (by with_reducible assumption) | skip)
                · exact cv
                · rename_i I4 h4 h0
                  rw [ifI] at h0
                  rw [nI_1]
                  exact ih (none, I4) ⟨by rw [qcv_s, ← he, if_neg (fun h => h0 h.2.2)], lD I4 h4⟩
                · rename_i I4 h4 h0
                  rw [ifI, Decidable.not_not] at h0
                  rw [nI_1]
                  exact ih (some (i + 1), I4) ⟨by rw [qcv_s, ← he, if_pos ⟨h5, rfl, h0⟩], lD I4 h4⟩
              | some q =>
                have hq := qcv_le κ b m i q he.symm
                have c6 : ¬ jP (some q) = (-1 : Int32) := by rw [show jP (some q) = nI q from rfl, fa_eq, nI_toInt (by omega), show (-1 : Int32).toInt = -1 by decide]; omega
                have p1 := qpop_le (i + 1) (by omega)
                have p2 := qpop_le q (by omega)
                refine sX12_cover_80 (u1 := 0) (u2 := 0) (u3 := nI (qpop (i + 1))) (u4 := nI (qpop q)) (u5 := if qcov κ b (i + 1) then 1 else 0) (P1 := fun _ _ => True) (P2 := fun _ _ => True) (P3 := fun I I' => I' = I) (P4 := fun I I' => I' = I) (P5 := fun I I' => Fr [49, 50] I I') w ?_ ?_ ?_ ?_ ?_ ?_ ?_ ?_ ?_ ?_ ?_ ?_ ?_ ?_ <;> intros <;> (first | exact absurd (by with_reducible assumption) c4 | exact absurd c4 (by with_reducible assumption) | exact absurd (by with_reducible assumption) c5 | exact absurd c5 (by with_reducible assumption) | exact absurd (by with_reducible assumption) c6 | exact absurd c6 (by with_reducible assumption) | skip)
                · exact (r_size (by omega)).eqI
                · rename_i I4 h4; subst h4; exact (r_size (by omega)).eqI
                · rename_i I4 h4 I5 h5' hle
                  subst h4; subst h5'
                  rw [nI_leI (by omega) (by omega)] at hle
                  rw [nI_1]
                  exact ih (some q, I5) ⟨by rw [qcv_s, ← he, if_neg (fun h => by have : qpop (i + 1) < qpop q := of_decide_eq_true h.2.1; omega)], hF, hD⟩
                · rename_i I4 h4 I5 h5' hle; subst h4; subst h5'; exact cv
                · rename_i I4 h4 I5 h5' hle I6 h6 h0
                  subst h4; subst h5'
                  rw [ifI] at h0
                  rw [nI_1]
                  exact ih (some q, I6) ⟨by rw [qcv_s, ← he, if_neg (fun h => h0 h.2.2)], lD I6 h6⟩
                · rename_i I4 h4 I5 h5' hle I6 h6 h0
                  subst h4; subst h5'
                  rw [ifI, Decidable.not_not] at h0
                  rw [nI_leI (by omega) (by omega)] at hle
                  rw [nI_1]
                  exact ih (some (i + 1), I6) ⟨by rw [qcv_s, ← he, if_pos ⟨h5, decide_eq_true (show qpop (i + 1) < qpop q by omega), h0⟩], lD I6 h6⟩
            · have c5 : ¬ nI (i + 1) &&& (nI m ^^^ (-1 : Int32)) = 0 := fun h => h5 (nin.mp h)
              refine sX12_cover_80 (u1 := 0) (u2 := 0) (u3 := 0) (u4 := 0) (u5 := 0) (P1 := fun _ _ => True) (P2 := fun _ _ => True) (P3 := fun _ _ => True) (P4 := fun _ _ => True) (P5 := fun _ _ => True) w ?_ ?_ ?_ ?_ ?_ ?_ ?_ ?_ ?_ ?_ ?_ ?_ ?_ ?_ <;> intros <;> (first | exact absurd (by with_reducible assumption) c4 | exact absurd c4 (by with_reducible assumption) | exact absurd (by with_reducible assumption) c5 | exact absurd c5 (by with_reducible assumption) | skip)
              rw [nI_1]
              exact ih (o, I3) ⟨by rw [qcv_s, ← he, if_neg (fun h => h5 h.1)], hF, hD⟩
      · have c3 : v_X12_within (Int32.toInt64 x3) (0 : Int64) (1 : Int64) = 0 := cRf g3 (by decide) (by decide)
        rw [show aCover κ x1 x2 x3 = (2, 0) by unfold aCover; rw [if_pos g1, if_neg (fun h => g3 h.2)]]
        refine Cal.of rfl (by decide +kernel) (by simp) (Nat.le_of_ble_eq_true rfl) rfl (sX12_cover_0 (u2 := 0) (P1 := fun I I' => True) (P2 := fun I I' => True) w ?_ ?_ ?_ ?_ ?_ ?_) <;> intros <;> (first | exact absurd (by with_reducible assumption) c1 | exact absurd c1 (by with_reducible assumption) | exact absurd (by with_reducible assumption) c2 | exact absurd c2 (by with_reducible assumption) | exact absurd (by with_reducible assumption) c3 | exact absurd c3 (by with_reducible assumption) | skip)
        exact ⟨rfl, _, rfl, PU.fail hK rfl⟩
    · have c2 : v_X12_isKind x1 = 0 := by rw [k1]; exact g2
      rw [show aCover κ x1 x2 x3 = (2, 0) by unfold aCover; rw [if_pos g1, if_neg (fun h => g2 h.1)]]
      refine Cal.of rfl (by decide +kernel) (by simp) (Nat.le_of_ble_eq_true rfl) rfl (sX12_cover_0 (u2 := 0) (P1 := fun I I' => True) (P2 := fun I I' => True) w ?_ ?_ ?_ ?_ ?_ ?_) <;> intros <;> (first | exact absurd (by with_reducible assumption) c1 | exact absurd c1 (by with_reducible assumption) | exact absurd (by with_reducible assumption) c2 | exact absurd c2 (by with_reducible assumption) | skip)
      exact ⟨rfl, _, rfl, PU.fail hK rfl⟩
  · have c1 := cWf hK ho g1
    rw [show aCover κ x1 x2 x3 = (1, 0) by unfold aCover; rw [if_neg g1]]
    refine Cal.of rfl (by decide +kernel) (by simp) (Nat.le_of_ble_eq_true rfl) rfl (sX12_cover_0 (u2 := 0) (P1 := fun I I' => True) (P2 := fun I I' => True) w ?_ ?_ ?_ ?_ ?_ ?_) <;> intros <;> (first | exact absurd (by with_reducible assumption) c1 | exact absurd c1 (by with_reducible assumption) | skip)
    exact ⟨rfl, _, rfl, PU.fail hK rfl⟩
end A
