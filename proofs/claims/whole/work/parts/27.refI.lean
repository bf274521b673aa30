/-! the reference: deeds of state -/
section A
variable {l : Launch} {G : Gh} {k : Nat} {I : Nat → Nat → Int32} {J : Nat → Nat → Int64} {R : Nat → Nat → Option Nat} {S : Nat → Nat × Nat} {nx : Nat} {κ : Nat → Nat} {hb pb : Nat}
theorem cWt {x : Int32} (hK : Kn I κ) (ho : qok hb pb κ) (h : gL x (κ 1)) : ¬ v_X12_isWard I (Int32.toInt64 x) = 0 := by rw [gW0 hK ho]; exact fun g => g h
theorem cWf {x : Int32} (hK : Kn I κ) (ho : qok hb pb κ) (h : ¬ gL x (κ 1)) : v_X12_isWard I (Int32.toInt64 x) = 0 := by rw [gW0 hK ho]; exact h
theorem cAt {x : Int32} (hK : Kn I κ) (ho : qok hb pb κ) (h : gL x (κ 2)) : ¬ v_X12_isAct I (Int32.toInt64 x) = 0 := by rw [gA0 hK ho]; exact fun g => g h
theorem cAf {x : Int32} (hK : Kn I κ) (ho : qok hb pb κ) (h : ¬ gL x (κ 2)) : v_X12_isAct I (Int32.toInt64 x) = 0 := by rw [gA0 hK ho]; exact h
theorem cRt {x : Int32} {a b : Nat} (h : gR x a b) (ha : a < 2 ^ 31) (hb : b < 2 ^ 31) : ¬ v_X12_within (Int32.toInt64 x) (lN a) (lN b) = 0 := by rw [gR0 ha hb]; exact fun g => g h
theorem cRf {x : Int32} {a b : Nat} (h : ¬ gR x a b) (ha : a < 2 ^ 31) (hb : b < 2 ^ 31) : v_X12_within (Int32.toInt64 x) (lN a) (lN b) = 0 := by rw [gR0 ha hb]; exact h
theorem Kn.up4 {v : Int32} (h : Kn I κ) : Kn (up2 I 43 4 v) κ := h.up43
def aDegree (κ : Nat → Nat) (x y : Int32) : Nat × Int32 := if gL x (κ 1) then (if gR y 0 999 then (0, nI (qdeg κ (cN x) (κ 54 + cN y))) else (2, 0)) else (1, 0)
theorem degree_r {x y : Int32} (w : MW R S nx) (hK : Kn I κ) (ho : qok hb pb κ) (hhb : hb < 2 ^ 29) : Cal l G (k + 4) 0 0 mX12_degree [.ref 43, .int x, .int y] (I, J, R, S, nx) (fun r μ' => r = .inl (some (.int ((aDegree κ x y).2))) ∧ ∃ I', μ' = (I', J, R, S, nx) ∧ PU (aDegree κ x y).1 κ I I') := by
  have h54 : κ 54 ≤ hb := ho.2.2.2.2.2.2.2.2.2.2.1
  have h1w := ho.1
  by_cases g1 : gL x (κ 1)
  · have c1 := cWt hK ho g1
    by_cases g2 : gR y 0 999
    · have c2 : ¬ v_X12_within (Int32.toInt64 y) (0 : Int64) (999 : Int64) = 0 := cRt g2 (by decide) (by decide)
      rw [show aDegree κ x y = (0, nI (qdeg κ (cN x) (κ 54 + cN y))) by unfold aDegree; rw [if_pos g1, if_pos g2]]
      obtain ⟨a, rfl, ha, ea⟩ := g1.n (by omega)
      obtain ⟨b, rfl, _, hb2, eb⟩ := g2.n (by omega)
      rw [ea, eb]
      refine Cal.of rfl (by decide +kernel) (by simp) (Nat.le_of_ble_eq_true rfl) rfl (sX12_degree_0 (u1 := nI (qdeg κ a (κ 54 + b))) (P1 := fun I I' => Fr [49, 50] I I') w ?_ ?_ ?_ ?_) <;> intros <;> (first | exact absurd (by with_reducible assumption) c1 | exact absurd c1 (by with_reducible assumption) | exact absurd (by with_reducible assumption) c2 | exact absurd c2 (by with_reducible assumption) | skip)
      · rw [hK.h (by decide), nI_add]; exact r_degreeIn w hK.up4 ho hhb (by omega) (by omega)
      · rename_i h; exact ⟨rfl, _, rfl, PU.ok rfl h (by decide) (by decide) (hK.up4.fr h (by decide))⟩
    · have c2 : v_X12_within (Int32.toInt64 y) (0 : Int64) (999 : Int64) = 0 := cRf g2 (by decide) (by decide)
      rw [show aDegree κ x y = (2, 0) by unfold aDegree; rw [if_pos g1, if_neg g2]]
      refine Cal.of rfl (by decide +kernel) (by simp) (Nat.le_of_ble_eq_true rfl) rfl (sX12_degree_0 (u1 := 0) (P1 := fun I I' => True) w ?_ ?_ ?_ ?_) <;> intros <;> (first | exact absurd (by with_reducible assumption) c1 | exact absurd c1 (by with_reducible assumption) | exact absurd (by with_reducible assumption) c2 | exact absurd c2 (by with_reducible assumption) | skip)
      exact ⟨rfl, _, rfl, PU.fail hK rfl⟩
  · have c1 := cWf hK ho g1
    rw [show aDegree κ x y = (1, 0) by unfold aDegree; rw [if_neg g1]]
    refine Cal.of rfl (by decide +kernel) (by simp) (Nat.le_of_ble_eq_true rfl) rfl (sX12_degree_0 (u1 := 0) (P1 := fun I I' => True) w ?_ ?_ ?_ ?_) <;> intros <;> (first | exact absurd (by with_reducible assumption) c1 | exact absurd c1 (by with_reducible assumption) | skip)
    exact ⟨rfl, _, rfl, PU.fail hK rfl⟩
def aCode (κ : Nat → Nat) (x y : Int32) : Nat × Int32 := if gL x (κ 1) then (if gR y 0 999 then (0, nI (qcode κ (cN x) (qdeg κ (cN x) (κ 54 + cN y)) (κ 54 + cN y) (qall κ))) else (2, 0)) else (1, 0)
theorem code_r {x y : Int32} (w : MW R S nx) (hK : Kn I κ) (ho : qok hb pb κ) (hhb : hb < 2 ^ 29) : Cal l G (k + 6) 0 0 mX12_code [.ref 43, .int x, .int y] (I, J, R, S, nx) (fun r μ' => r = .inl (some (.int ((aCode κ x y).2))) ∧ ∃ I', μ' = (I', J, R, S, nx) ∧ PU (aCode κ x y).1 κ I I') := by
  have h54 : κ 54 ≤ hb := ho.2.2.2.2.2.2.2.2.2.2.1
  have h1w := ho.1
  by_cases g1 : gL x (κ 1)
  · have c1 := cWt hK ho g1
    by_cases g2 : gR y 0 999
    · have c2 : ¬ v_X12_within (Int32.toInt64 y) (0 : Int64) (999 : Int64) = 0 := cRt g2 (by decide) (by decide)
      rw [show aCode κ x y = (0, nI (qcode κ (cN x) (qdeg κ (cN x) (κ 54 + cN y)) (κ 54 + cN y) (qall κ))) by unfold aCode; rw [if_pos g1, if_pos g2]]
      obtain ⟨a, rfl, ha, ea⟩ := g1.n (by omega)
      obtain ⟨b, rfl, _, hb2, eb⟩ := g2.n (by omega)
      rw [ea, eb]
      refine Cal.of rfl (by decide +kernel) (by simp) (Nat.le_of_ble_eq_true rfl) rfl (sX12_code_0 (u1 := nI (qcode κ a (qdeg κ a (κ 54 + b)) (κ 54 + b) (qall κ))) (P1 := fun I I' => Fr [49, 50] I I') w ?_ ?_ ?_ ?_) <;> intros <;> (first | exact absurd (by with_reducible assumption) c1 | exact absurd c1 (by with_reducible assumption) | exact absurd (by with_reducible assumption) c2 | exact absurd c2 (by with_reducible assumption) | skip)
      · rw [hK.h (by decide), nI_add]; exact codeIn_r w hK.up4 ho hhb (by omega) (by omega)
      · rename_i h; exact ⟨rfl, _, rfl, PU.ok rfl h (by decide) (by decide) (hK.up4.fr h (by decide))⟩
    · have c2 : v_X12_within (Int32.toInt64 y) (0 : Int64) (999 : Int64) = 0 := cRf g2 (by decide) (by decide)
      rw [show aCode κ x y = (2, 0) by unfold aCode; rw [if_pos g1, if_neg g2]]
      refine Cal.of rfl (by decide +kernel) (by simp) (Nat.le_of_ble_eq_true rfl) rfl (sX12_code_0 (u1 := 0) (P1 := fun I I' => True) w ?_ ?_ ?_ ?_) <;> intros <;> (first | exact absurd (by with_reducible assumption) c1 | exact absurd c1 (by with_reducible assumption) | exact absurd (by with_reducible assumption) c2 | exact absurd c2 (by with_reducible assumption) | skip)
      exact ⟨rfl, _, rfl, PU.fail hK rfl⟩
  · have c1 := cWf hK ho g1
    rw [show aCode κ x y = (1, 0) by unfold aCode; rw [if_neg g1]]
    refine Cal.of rfl (by decide +kernel) (by simp) (Nat.le_of_ble_eq_true rfl) rfl (sX12_code_0 (u1 := 0) (P1 := fun I I' => True) w ?_ ?_ ?_ ?_) <;> intros <;> (first | exact absurd (by with_reducible assumption) c1 | exact absurd c1 (by with_reducible assumption) | skip)
    exact ⟨rfl, _, rfl, PU.fail hK rfl⟩
/-! a deed asked: kind, ward, hour, how long -/
def gD (κ : Nat → Nat) (x1 x2 x3 x4 : Int32) : Nat := if gL x2 (κ 1) then (if gR x1 0 9 ∧ gR x3 0 999 ∧ gR x4 1 24 then 0 else 2) else 1
theorem out_n {x1 x2 x3 x4 : Int32} (hK : Kn I κ) (ho : qok hb pb κ) : v_X12_isDeedOut I x1 x2 x3 x4 = (if gD κ x1 x2 x3 x4 = 0 then 0 else 1) ∧ w_X12_isDeedOut I x1 x2 x3 x4 = up2 I 43 4 (nI (gD κ x1 x2 x3 x4)) := by
  unfold v_X12_isDeedOut w_X12_isDeedOut
  have e1 := gW0 (x := x2) hK ho
  have e2 : (v_X12_isKind x1 = 0) = ¬ gR x1 0 9 := gR0 (by decide) (by decide)
  have e3 : (v_X12_within (Int32.toInt64 x3) (0 : Int64) (999 : Int64) = 0) = ¬ gR x3 0 999 := gR0 (by decide) (by decide)
  have e4 : (v_X12_isLong x4 = 0) = ¬ gR x4 1 24 := gR0 (by decide) (by decide)
  simp only [e1, e2, e3, e4]
  by_cases g1 : gL x2 (κ 1)
  · rw [if_neg (not_not_intro g1), if_neg (not_not_intro g1)]
    by_cases g2 : gR x1 0 9
    · rw [if_neg (not_not_intro g2), if_neg (not_not_intro g2)]
      by_cases g3 : gR x3 0 999
      · rw [if_neg (not_not_intro g3), if_neg (not_not_intro g3)]
        by_cases g4 : gR x4 1 24
        · rw [if_neg (not_not_intro g4), if_neg (not_not_intro g4), show gD κ x1 x2 x3 x4 = 0 by unfold gD; rw [if_pos g1, if_pos ⟨g2, g3, g4⟩]]; exact ⟨rfl, rfl⟩
        · rw [if_pos g4, if_pos g4, show gD κ x1 x2 x3 x4 = 2 by unfold gD; rw [if_pos g1, if_neg (fun h => g4 h.2.2)]]; exact ⟨rfl, rfl⟩
      · rw [if_pos g3, if_pos g3, show gD κ x1 x2 x3 x4 = 2 by unfold gD; rw [if_pos g1, if_neg (fun h => g3 h.2.1)]]; exact ⟨rfl, rfl⟩
    · rw [if_pos g2, if_pos g2, show gD κ x1 x2 x3 x4 = 2 by unfold gD; rw [if_pos g1, if_neg (fun h => g2 h.1)]]; exact ⟨rfl, rfl⟩
  · rw [if_pos g1, if_pos g1, show gD κ x1 x2 x3 x4 = 1 by unfold gD; rw [if_neg g1]]; exact ⟨rfl, rfl⟩
theorem gD0 {x1 x2 x3 x4 : Int32} (ho : qok hb pb κ) (h : gD κ x1 x2 x3 x4 = 0) : ∃ a b c d, x1 = nI a ∧ x2 = nI b ∧ x3 = nI c ∧ x4 = nI d ∧ a ≤ 9 ∧ b < κ 1 ∧ b < 5 ∧ c ≤ 999 ∧ 1 ≤ d ∧ d ≤ 24 ∧ cN x1 = a ∧ cN x2 = b ∧ cN x3 = c ∧ cN x4 = d := by
  unfold gD at h
  split at h
  · rename_i g1
    split at h
    · rename_i g2
      obtain ⟨b, rfl, hb2, eb⟩ := g1.n (by have := ho.1; omega)
      obtain ⟨a, rfl, _, ha, ea⟩ := g2.1.n (by omega)
      obtain ⟨c, rfl, _, hc, ec⟩ := g2.2.1.n (by omega)
      obtain ⟨d, rfl, hd1, hd, ed⟩ := g2.2.2.n (by omega)
      exact ⟨a, b, c, d, rfl, rfl, rfl, rfl, ha, hb2, by have := ho.1; omega, hc, hd1, hd, ea, eb, ec, ed⟩
    · cases h
  · cases h
theorem qms_le {ls : Nat} (h : 1 ≤ ls) : qms κ ls ≤ ls := by unfold qms; split <;> omega
def aFine (κ : Nat → Nat) (x1 x2 x3 x4 : Int32) : Nat × Int32 := if gD κ x1 x2 x3 x4 = 0 then (0, nI (qcost κ (cN x1) (cN x2) (κ 54 + cN x3) (cN x4))) else (gD κ x1 x2 x3 x4, 0)
theorem fine_r {x1 x2 x3 x4 : Int32} (w : MW R S nx) (hK : Kn I κ) (ho : qok hb pb κ) (hhb : hb < 2 ^ 29) : Cal l G (k + 7) 0 0 mX12_fine [.ref 43, .int x1, .int x2, .int x3, .int x4] (I, J, R, S, nx) (fun r μ' => r = .inl (some (.int ((aFine κ x1 x2 x3 x4).2))) ∧ ∃ I', μ' = (I', J, R, S, nx) ∧ PU (aFine κ x1 x2 x3 x4).1 κ I I') := by
  have h54 : κ 54 ≤ hb := ho.2.2.2.2.2.2.2.2.2.2.1
  obtain ⟨o1, o2⟩ := out_n (x1 := x1) (x2 := x2) (x3 := x3) (x4 := x4) hK ho
  by_cases g : gD κ x1 x2 x3 x4 = 0
  · rw [show aFine κ x1 x2 x3 x4 = (0, nI (qcost κ (cN x1) (cN x2) (κ 54 + cN x3) (cN x4))) by unfold aFine; rw [if_pos g]]
    rw [if_pos g] at o1
    rw [g] at o2
    obtain ⟨a, b, c, d, rfl, rfl, rfl, rfl, ha, hb1, hb2, hc, hd1, hd, ea, eb, ec, ed⟩ := gD0 ho g
    rw [ea, eb, ec, ed]
    have hm := qms_le (κ := κ) hd1
    refine Cal.of rfl (by decide +kernel) (by simp) (Nat.le_of_ble_eq_true rfl) rfl (sX12_fine_0 (u2 := nI (qcost κ a b (κ 54 + c) d)) (P1 := fun I I' => Fr [49, 50, 51, 52, 53, 54] I I' ∧ laidR I' κ 0 a b (κ 54) (c + d) 0) (P2 := fun I I' => I' = I) w ?_ ?_ ?_ ?_) <;> intros <;> (first | exact absurd (by with_reducible assumption) o1 | exact absurd o1 (by with_reducible assumption) | skip)
    · rw [o2, nI_add]
      exact (laysHours_r (row := 0) w hK.up4 ho hhb hb2 (by omega) (by omega) (by omega)).mono (fun r μ' ⟨e, I', e2, h1, _, _, h4, _⟩ => ⟨e, I', e2, h1, h4⟩)
    · rename_i I1 hp
      rw [o2] at hp
      have := fineOf_r (l := l) (G := G) (k := k + 6) (J := J) (row := 0) (n := c) (ls := d) (N := c + d) (f := fun j => qfin κ (qcd κ a b (κ 54 + j) 0)) w (hK.up4.fr hp.1 (by decide)) ho (by omega) (by omega) (by omega) (by omega) (fun j hj => (hp.2 j hj).1)
      simp only [← Nat.add_assoc] at this
      exact this
    · rename_i I1 hp I2 h2
      subst h2
      rw [o2] at hp
      exact ⟨rfl, _, rfl, PU.ok rfl hp.1 (by decide) (by decide) (hK.up4.fr hp.1 (by decide))⟩
  · rw [show aFine κ x1 x2 x3 x4 = (gD κ x1 x2 x3 x4, 0) by unfold aFine; rw [if_neg g]]
    rw [if_neg g] at o1
    have o3 : ¬ v_X12_isDeedOut I x1 x2 x3 x4 = 0 := by rw [o1]; decide
    refine Cal.of rfl (by decide +kernel) (by simp) (Nat.le_of_ble_eq_true rfl) rfl (sX12_fine_0 (u2 := 0) (P1 := fun I I' => True) (P2 := fun I I' => True) w ?_ ?_ ?_ ?_) <;> intros <;> (first | exact absurd (by with_reducible assumption) o3 | exact absurd o3 (by with_reducible assumption) | skip)
    rw [o2]
    exact ⟨rfl, _, rfl, PU.fail hK rfl⟩
/-- whether nothing bars a kind in an hour -/
def qfr (κ : Nat → Nat) (kd wn : Nat) (h : Nat) : Bool := decide (qcd κ kd wn h 0 = 0)
def aLawful (κ : Nat → Nat) (x1 x2 x3 x4 : Int32) : Nat × Int32 := if gD κ x1 x2 x3 x4 = 0 then (0, if qfree (qfr κ (cN x1) (cN x2)) (κ 54 + cN x3) (qms κ (cN x4)) then 1 else 0) else (gD κ x1 x2 x3 x4, 0)
theorem qfree_sh {p : Nat → Bool} {h n c : Nat} : qfree (fun j => p (h + j)) n c = qfree p (h + n) c := by
  unfold qfree; simp only [Nat.add_assoc]
theorem laidR.bar {row kd wn fr n : Nat} (h : laidR I κ row kd wn fr n 0) : ∀ j, j < n → I 54 (1024 * row + j) = if (fun j => qfr κ kd wn (fr + j)) j then 0 else 1 := by
  intro j hj
  rw [(h j hj).2]
  unfold qfr
  by_cases c : qcd κ kd wn (fr + j) 0 = 0
  · simp [c]
  · simp [c]
theorem nb_if {p : Prop} [Decidable p] : narrow .boolean (.int (if p then 1 else 0)) = .int (if p then 1 else 0) := by split <;> rfl
theorem lawful_r {x1 x2 x3 x4 : Int32} (w : MW R S nx) (hK : Kn I κ) (ho : qok hb pb κ) (hhb : hb < 2 ^ 29) : Cal l G (k + 7) 0 0 mX12_lawful [.ref 43, .int x1, .int x2, .int x3, .int x4] (I, J, R, S, nx) (fun r μ' => r = .inl (some (.int ((aLawful κ x1 x2 x3 x4).2))) ∧ ∃ I', μ' = (I', J, R, S, nx) ∧ PU (aLawful κ x1 x2 x3 x4).1 κ I I') := by
  have h54 : κ 54 ≤ hb := ho.2.2.2.2.2.2.2.2.2.2.1
  obtain ⟨o1, o2⟩ := out_n (x1 := x1) (x2 := x2) (x3 := x3) (x4 := x4) hK ho
  by_cases g : gD κ x1 x2 x3 x4 = 0
  · rw [show aLawful κ x1 x2 x3 x4 = (0, if qfree (qfr κ (cN x1) (cN x2)) (κ 54 + cN x3) (qms κ (cN x4)) then 1 else 0) by unfold aLawful; rw [if_pos g]]
    rw [if_pos g] at o1
    rw [g] at o2
    obtain ⟨a, b, c, d, rfl, rfl, rfl, rfl, ha, hb1, hb2, hc, hd1, hd, ea, eb, ec, ed⟩ := gD0 ho g
    rw [ea, eb, ec, ed]
    have hm := qms_le (κ := κ) hd1
    refine Cal.of rfl (by decide +kernel) (by simp) (Nat.le_of_ble_eq_true rfl) rfl (sX12_lawful_0 (u2 := if qfree (qfr κ a b) (κ 54 + c) (qms κ d) then 1 else 0) (P1 := fun I I' => Fr [49, 50, 51, 52, 53, 54] I I' ∧ laidR I' κ 0 a b (κ 54) (c + d) 0) (P2 := fun I I' => I' = I) w ?_ ?_ ?_ ?_ ?_) <;> intros <;> (first | exact absurd (by with_reducible assumption) o1 | exact absurd o1 (by with_reducible assumption) | skip)
    · rw [o2, nI_add]
      exact (laysHours_r (row := 0) w hK.up4 ho hhb hb2 (by omega) (by omega) (by omega)).mono (fun r μ' ⟨e, I', e2, h1, _, _, h4, _⟩ => ⟨e, I', e2, h1, h4⟩)
    · rename_i I1 hp
      rw [o2] at hp
      have := isLawful_r (l := l) (G := G) (k := k + 6) (J := J) (row := 0) (n := c) (ls := d) (N := c + d) w (hK.up4.fr hp.1 (by decide)) ho (by omega) (by omega) (by omega) (by omega) hp.2.bar
      rw [qfree_sh] at this
      exact this
    · rename_i I1 hp I2 h2
      subst h2
      rw [o2] at hp
      exact ⟨rfl, _, rfl, PU.ok rfl hp.1 (by decide) (by decide) (hK.up4.fr hp.1 (by decide))⟩
    · exact nb_if
  · rw [show aLawful κ x1 x2 x3 x4 = (gD κ x1 x2 x3 x4, 0) by unfold aLawful; rw [if_neg g]]
    rw [if_neg g] at o1
    have o3 : ¬ v_X12_isDeedOut I x1 x2 x3 x4 = 0 := by rw [o1]; decide
    refine Cal.of rfl (by decide +kernel) (by simp) (Nat.le_of_ble_eq_true rfl) rfl (sX12_lawful_0 (u2 := 0) (P1 := fun I I' => True) (P2 := fun I I' => True) w ?_ ?_ ?_ ?_ ?_) <;> intros <;> (first | exact absurd (by with_reducible assumption) o3 | exact absurd o3 (by with_reducible assumption) | skip)
    rw [o2]
    exact ⟨rfl, _, rfl, PU.fail hK rfl⟩
end A
