/-! the reference: hours to come, more -/
/-- the first of the least -/
def qch (c : Nat → Nat) : Nat → Nat
  | 0 => 0
  | i + 1 => if c (i + 1) < c (qch c i) then i + 1 else qch c i
theorem qch_le (c : Nat → Nat) : ∀ i, qch c i ≤ i
  | 0 => Nat.le_refl _
  | i + 1 => by unfold qch; have := qch_le c i; split <;> omega
theorem qch_s (c : Nat → Nat) (i : Nat) : qch c (i + 1) = if c (i + 1) < c (qch c i) then i + 1 else qch c i := rfl
/-- the first of the greatest -/
def qst (f : Nat → Nat) : Nat → Nat
  | 0 => 0
  | i + 1 => if f (qst f i) < f (i + 1) then i + 1 else qst f i
theorem qst_le (c : Nat → Nat) : ∀ i, qst c i ≤ i
  | 0 => Nat.le_refl _
  | i + 1 => by unfold qst; have := qst_le c i; split <;> omega
theorem qst_s (c : Nat → Nat) (i : Nat) : qst c (i + 1) = if c (qst c i) < c (i + 1) then i + 1 else qst c i := rfl
/-- the longest row of free hours: how long, where it begins, the row under way -/
def qsp (p : Nat → Bool) : Nat → Nat × Option Nat × Nat
  | 0 => (0, none, 0)
  | i + 1 => if (qsp p i).1 < (if p i then (qsp p i).2.2 + 1 else 0) then ((if p i then (qsp p i).2.2 + 1 else 0), some (i + 1 - (if p i then (qsp p i).2.2 + 1 else 0)), (if p i then (qsp p i).2.2 + 1 else 0)) else ((qsp p i).1, (qsp p i).2.1, (if p i then (qsp p i).2.2 + 1 else 0))
theorem qsp_s (p : Nat → Bool) (i : Nat) : qsp p (i + 1) = if (qsp p i).1 < (if p i then (qsp p i).2.2 + 1 else 0) then ((if p i then (qsp p i).2.2 + 1 else 0), some (i + 1 - (if p i then (qsp p i).2.2 + 1 else 0)), (if p i then (qsp p i).2.2 + 1 else 0)) else ((qsp p i).1, (qsp p i).2.1, (if p i then (qsp p i).2.2 + 1 else 0)) := rfl
theorem qsp_le (p : Nat → Bool) : ∀ i, (qsp p i).1 ≤ i ∧ (qsp p i).2.2 ≤ i
  | 0 => ⟨Nat.le_refl _, Nat.le_refl _⟩
  | i + 1 => by
    have := qsp_le p i
    rw [qsp_s]
    have h2 : (if p i then (qsp p i).2.2 + 1 else 0) ≤ i + 1 := by split <;> omega
    generalize (if p i then (qsp p i).2.2 + 1 else 0) = r at h2 ⊢
    split
    · exact ⟨h2, h2⟩
    · exact ⟨by show (qsp p i).1 ≤ _; omega, h2⟩
section A
variable {l : Launch} {G : Gh} {k : Nat} {I : Nat → Nat → Int32} {J : Nat → Nat → Int64} {R : Nat → Nat → Option Nat} {S : Nat → Nat × Nat} {nx : Nat} {κ : Nat → Nat} {hb pb : Nat}
def qcs (κ : Nat → Nat) (kd wn ls : Nat) : Nat → Nat := fun n => qcost κ kd wn (κ 54 + n) ls
def aCheap (κ : Nat → Nat) (x1 x2 x3 : Int32) : Nat × Int32 := if gD κ x1 x2 0 x3 = 0 then (0, nI (qch (qcs κ (cN x1) (cN x2) (cN x3)) 200)) else (gD κ x1 x2 0 x3, 0)
theorem cheapest_r {x1 x2 x3 : Int32} (w : MW R S nx) (hK : Kn I κ) (ho : qok hb pb κ) (hhb : hb < 2 ^ 29) : Cal l G (k + 7) 0 0 mX12_cheapest [.ref 43, .int x1, .int x2, .int x3] (I, J, R, S, nx) (fun r μ' => r = .inl (some (.int ((aCheap κ x1 x2 x3).2))) ∧ ∃ I', μ' = (I', J, R, S, nx) ∧ PU (aCheap κ x1 x2 x3).1 κ I I') := by
  obtain ⟨o1, o2⟩ := out_n (x1 := x1) (x2 := x2) (x3 := 0) (x4 := x3) hK ho
  by_cases g : gD κ x1 x2 0 x3 = 0
  · rw [show aCheap κ x1 x2 x3 = (0, nI (qch (qcs κ (cN x1) (cN x2) (cN x3)) 200)) by unfold aCheap; rw [if_pos g]]
    dsimp only
    rw [if_pos g] at o1
    rw [g] at o2
    obtain ⟨a, b, c, d, rfl, rfl, _, rfl, ha, hb1, hb2, hc, hd1, hd, ea, eb, ec, ed⟩ := gD0 ho g
    rw [ea, eb, ed]
    have hm := qms_le (κ := κ) hd1
    refine Cal.of rfl (by decide +kernel) (by simp) (Nat.le_of_ble_eq_true rfl) rfl (sX12_cheapest_0 (P1 := fun I I' => Fr [49, 50, 51, 52, 53, 54] I I' ∧ laidR I' κ 0 a b (κ 54) 224 0) w ?_ ?_ ?_) <;> intros <;> (first | exact absurd (by with_reducible assumption) o1 | exact absurd o1 (by with_reducible assumption) | skip)
    · rw [o2]
      exact (laysHours_r (row := 0) (n := 224) w hK.up4 ho hhb hb2 (by omega) (by omega) (by omega)).mono (fun r μ' ⟨e, I', e2, h1, _, _, h4, _⟩ => ⟨e, I', e2, h1, h4⟩)
    · rename_i I1 hp
      rw [o2] at hp
      have hK1 := hK.up4.fr hp.1 (by decide)
      have fo : ∀ n, n ≤ 200 → Cal l G (k + 6) 0 0 mX12_fineOf [.ref 43, .int (nI 0), .int (nI n), .int (nI d)] (I1, J, R, S, nx) (fun r μ' => r = .inl (some (.int (nI (qcs κ a b d n)))) ∧ ∃ I', μ' = (I', J, R, S, nx) ∧ I' = I1) := by
        intro n hn
        have := fineOf_r (l := l) (G := G) (k := k + 6) (J := J) (row := 0) (n := n) (ls := d) (N := 224) (f := fun j => qfin κ (qcd κ a b (κ 54 + j) 0)) w hK1 ho (by omega) (by omega) (by omega) (by omega) (fun j hj => (hp.2 j hj).1)
        simp only [← Nat.add_assoc] at this
        exact this
      have cl : ∀ n, qcs κ a b d n ≤ 19008 := fun n => qcost_le ho ⟨hd1, hd⟩
      refine upto (σ := Unit) (W := fun i _ => hX12_cheapest_29 l G k _ (nI d) (nI (qch (qcs κ a b d) i)) (nI (i + 1)) (I1, J, R, S, nx)) (P := fun i _ => True) 200 ?_ ?_ (i := 0) (s := ()) (Nat.zero_le _) trivial
      · intro _ _
        have c1 : (200 : Int32) < nI (200 + 1) := by decide
        refine sX12_cheapest_29 (u1 := 0) (u2 := 0) (P1 := fun _ _ => True) (P2 := fun _ _ => True) w ?_ ?_ ?_ ?_ ?_ <;> intros <;> (first | exact absurd (by with_reducible assumption) c1 | exact absurd c1 (by with_reducible assumption) | skip)
        exact ⟨rfl, _, rfl, PU.ok rfl hp.1 (by decide) (by decide) hK1⟩
      · intro i _ hi _ ih
        have c1 : ¬ (200 : Int32) < nI (i + 1) := nI_nlt (b := i + 1) (a := 200) (by omega) (by decide)
        have hq := qch_le (qcs κ a b d) i
        refine sX12_cheapest_29 (u1 := nI (qcs κ a b d (i + 1))) (u2 := nI (qcs κ a b d (qch (qcs κ a b d) i))) (P1 := fun I I' => I' = I) (P2 := fun I I' => I' = I) w ?_ ?_ ?_ ?_ ?_ <;> intros <;> (first | exact absurd (by with_reducible assumption) c1 | exact absurd c1 (by with_reducible assumption) | skip)
        · exact fo (i + 1) (by omega)
        · rename_i I2 h2; subst h2; exact fo _ (by omega)
        · rename_i I2 h2 I3 h3 hle
          subst h2; subst h3
          have h1 := cl (i + 1)
          have h2 := cl (qch (qcs κ a b d) i)
          rw [nI_leI (by omega) (by omega)] at hle
          have := ih () trivial
          rw [show qch (qcs κ a b d) (i + 1) = qch (qcs κ a b d) i by rw [qch_s, if_neg (by omega)]] at this
          rw [nI_1]; exact this
        · rename_i I2 h2 I3 h3 hle
          subst h2; subst h3
          have h1 := cl (i + 1)
          have h2 := cl (qch (qcs κ a b d) i)
          rw [nI_leI (by omega) (by omega)] at hle
          have := ih () trivial
          rw [show qch (qcs κ a b d) (i + 1) = i + 1 by rw [qch_s, if_pos (by omega)]] at this
          rw [nI_1]; exact this
  · rw [show aCheap κ x1 x2 x3 = (gD κ x1 x2 0 x3, 0) by unfold aCheap; rw [if_neg g]]
    rw [if_neg g] at o1
    have o3 : ¬ v_X12_isDeedOut I x1 x2 (0 : Int32) x3 = 0 := by rw [o1]; decide
    refine Cal.of rfl (by decide +kernel) (by simp) (Nat.le_of_ble_eq_true rfl) rfl (sX12_cheapest_0 (P1 := fun I I' => True) w ?_ ?_ ?_) <;> intros <;> (first | exact absurd (by with_reducible assumption) o3 | exact absurd o3 (by with_reducible assumption) | skip)
    rw [o2]
    exact ⟨rfl, _, rfl, PU.fail hK rfl⟩
/-! freeHours -/
def aFreeH (κ : Nat → Nat) (x1 x2 x3 : Int32) : Nat × Int32 := if gL x2 (κ 1) then (if gR x1 0 9 ∧ gR x3 1 200 then (0, nI (fa_cnt (qfa κ (cN x1) (cN x2)) (cN x3))) else (2, 0)) else (1, 0)
theorem freeHours_r {x1 x2 x3 : Int32} (w : MW R S nx) (hK : Kn I κ) (ho : qok hb pb κ) (hhb : hb < 2 ^ 29) : Cal l G (k + 7) 0 0 mX12_freeHours [.ref 43, .int x1, .int x2, .int x3] (I, J, R, S, nx) (fun r μ' => r = .inl (some (.int ((aFreeH κ x1 x2 x3).2))) ∧ ∃ I', μ' = (I', J, R, S, nx) ∧ PU (aFreeH κ x1 x2 x3).1 κ I I') := by
  have h1w := ho.1
  have k1 : (v_X12_isKind x1 = 0) = ¬ gR x1 0 9 := gR0 (by decide) (by decide)
  by_cases g1 : gL x2 (κ 1)
  · have c1 := cWt hK ho g1
    by_cases g2 : gR x1 0 9
    · have c2 : ¬ v_X12_isKind x1 = 0 := by rw [k1]; exact fun h => h g2
      by_cases g3 : gR x3 1 200
      · have c3 : ¬ v_X12_within (Int32.toInt64 x3) (1 : Int64) (200 : Int64) = 0 := cRt g3 (by decide) (by decide)
        rw [show aFreeH κ x1 x2 x3 = (0, nI (fa_cnt (qfa κ (cN x1) (cN x2)) (cN x3))) by unfold aFreeH; rw [if_pos g1, if_pos ⟨g2, g3⟩]]
        dsimp only
        obtain ⟨b, rfl, hb, eb⟩ := g1.n (by omega)
        obtain ⟨a, rfl, _, ha, ea⟩ := g2.n (by omega)
        obtain ⟨c, rfl, _, hc, ec⟩ := g3.n (by omega)
        rw [ea, eb, ec]
        refine Cal.of rfl (by decide +kernel) (by simp) (Nat.le_of_ble_eq_true rfl) rfl (sX12_freeHours_0 (P1 := fun I I' => Fr [49, 50, 51, 52, 53, 54] I I' ∧ laidR I' κ 0 a b (κ 54) c 0) w ?_ ?_ ?_ ?_ ?_) <;> intros <;> (first | exact absurd (by with_reducible assumption) c1 | exact absurd c1 (by with_reducible assumption) | exact absurd (by with_reducible assumption) c2 | exact absurd c2 (by with_reducible assumption) | exact absurd (by with_reducible assumption) c3 | exact absurd c3 (by with_reducible assumption) | skip)
        · exact (laysHours_r (row := 0) (n := c) w hK.up4 ho hhb (by omega) (by omega) (by omega) (by omega)).mono (fun r μ' ⟨e, I', e2, h1, _, _, h4, _⟩ => ⟨e, I', e2, h1, h4⟩)
        · rename_i I1 hp
          have hK1 := hK.up4.fr hp.1 (by decide)
          refine upto (σ := Unit) (W := fun i _ => hX12_freeHours_64 l G k _ (nI c) (nI (fa_cnt (qfa κ a b) i)) (nI i) (I1, J, R, S, nx)) (P := fun i _ => True) c ?_ ?_ (i := 0) (s := ()) (Nat.zero_le _) trivial
          · intro _ _
            have d1 : nI c ≤ nI c := nI_le (Nat.le_refl _) (by omega)
            refine sX12_freeHours_64 w ?_ ?_ ?_ ?_ <;> intros <;> (first | exact absurd (by with_reducible assumption) d1 | exact absurd d1 (by with_reducible assumption) | skip)
            exact ⟨rfl, _, rfl, PU.ok rfl hp.1 (by decide) (by decide) hK1⟩
          · intro i _ hi _ ih
            have d1 : ¬ nI c ≤ nI i := nI_ge hi (by omega)
            have hv : I1 54 (nI i).toNatClampNeg = if qfa κ a b i then 0 else 1 := by rw [nI_clamp (by omega)]; have := hp.2.bar i hi; rw [Nat.mul_zero, Nat.zero_add] at this; exact this
            refine sX12_freeHours_64 w ?_ ?_ ?_ ?_ <;> intros <;> (first | exact absurd (by with_reducible assumption) d1 | exact absurd d1 (by with_reducible assumption) | skip)
            · exact vp_in_nI (by omega) (by decide)
            · rename_i h
              rw [hv] at h
              have hq : qfa κ a b i = true := by
                by_cases c : qfa κ a b i = true
                · exact c
                · rw [if_neg c] at h; exact absurd h (by decide)
              have := ih () trivial
              rw [fa_cnt_yes hq] at this
              rw [nI_1, nI_1]; exact this
            · rename_i h
              rw [hv] at h
              have hq : qfa κ a b i = false := by
                cases c : qfa κ a b i with
                | false => rfl
                | true => rw [c] at h; exact absurd rfl h
              have := ih () trivial
              rw [fa_cnt_no hq] at this
              rw [nI_1, show (0 : Int32) = nI 0 from rfl, nI_add]; exact this
      · have c3 : v_X12_within (Int32.toInt64 x3) (1 : Int64) (200 : Int64) = 0 := cRf g3 (by decide) (by decide)
        rw [show aFreeH κ x1 x2 x3 = (2, 0) by unfold aFreeH; rw [if_pos g1, if_neg (fun h => g3 h.2)]]
        refine Cal.of rfl (by decide +kernel) (by simp) (Nat.le_of_ble_eq_true rfl) rfl (sX12_freeHours_0 (P1 := fun I I' => True) w ?_ ?_ ?_ ?_ ?_) <;> intros <;> (first | exact absurd (by with_reducible assumption) c1 | exact absurd c1 (by with_reducible assumption) | exact absurd (by with_reducible assumption) c2 | exact absurd c2 (by with_reducible assumption) | exact absurd (by with_reducible assumption) c3 | exact absurd c3 (by with_reducible assumption) | skip)
        exact ⟨rfl, _, rfl, PU.fail hK rfl⟩
    · have c2 : v_X12_isKind x1 = 0 := by rw [k1]; exact g2
      rw [show aFreeH κ x1 x2 x3 = (2, 0) by unfold aFreeH; rw [if_pos g1, if_neg (fun h => g2 h.1)]]
      refine Cal.of rfl (by decide +kernel) (by simp) (Nat.le_of_ble_eq_true rfl) rfl (sX12_freeHours_0 (P1 := fun I I' => True) w ?_ ?_ ?_ ?_ ?_) <;> intros <;> (first | exact absurd (by with_reducible assumption) c1 | exact absurd c1 (by with_reducible assumption) | exact absurd (by with_reducible assumption) c2 | exact absurd c2 (by with_reducible assumption) | skip)
      exact ⟨rfl, _, rfl, PU.fail hK rfl⟩
  · have c1 := cWf hK ho g1
    rw [show aFreeH κ x1 x2 x3 = (1, 0) by unfold aFreeH; rw [if_neg g1]]
    refine Cal.of rfl (by decide +kernel) (by simp) (Nat.le_of_ble_eq_true rfl) rfl (sX12_freeHours_0 (P1 := fun I I' => True) w ?_ ?_ ?_ ?_ ?_) <;> intros <;> (first | exact absurd (by with_reducible assumption) c1 | exact absurd c1 (by with_reducible assumption) | skip)
    exact ⟨rfl, _, rfl, PU.fail hK rfl⟩
/-! spell -/
def aSpell (κ : Nat → Nat) (x1 x2 x3 x4 : Int32) : Nat × Int32 := if gL x2 (κ 1) then (if gR x1 0 9 ∧ gR x3 1 200 ∧ gR x4 0 1 then (0, if cN x4 = 0 then nI (qsp (qfa κ (cN x1) (cN x2)) (cN x3)).1 else jP (qsp (qfa κ (cN x1) (cN x2)) (cN x3)).2.1) else (2, 0)) else (1, 0)
theorem spell_r {x1 x2 x3 x4 : Int32} (w : MW R S nx) (hK : Kn I κ) (ho : qok hb pb κ) (hhb : hb < 2 ^ 29) : Cal l G (k + 7) 0 0 mX12_spell [.ref 43, .int x1, .int x2, .int x3, .int x4] (I, J, R, S, nx) (fun r μ' => r = .inl (some (.int ((aSpell κ x1 x2 x3 x4).2))) ∧ ∃ I', μ' = (I', J, R, S, nx) ∧ PU (aSpell κ x1 x2 x3 x4).1 κ I I') := by
  have h1w := ho.1
  have k1 : (v_X12_isKind x1 = 0) = ¬ gR x1 0 9 := gR0 (by decide) (by decide)
  by_cases g1 : gL x2 (κ 1)
  · have c1 := cWt hK ho g1
    by_cases g2 : gR x1 0 9
    · have c2 : ¬ v_X12_isKind x1 = 0 := by rw [k1]; exact fun h => h g2
      by_cases g3 : gR x3 1 200
      · have c3 : ¬ v_X12_within (Int32.toInt64 x3) (1 : Int64) (200 : Int64) = 0 := cRt g3 (by decide) (by decide)
        by_cases g4 : gR x4 0 1
        · have c4 : ¬ v_X12_within (Int32.toInt64 x4) (0 : Int64) (1 : Int64) = 0 := cRt g4 (by decide) (by decide)
          rw [show aSpell κ x1 x2 x3 x4 = (0, if cN x4 = 0 then nI (qsp (qfa κ (cN x1) (cN x2)) (cN x3)).1 else jP (qsp (qfa κ (cN x1) (cN x2)) (cN x3)).2.1) by unfold aSpell; rw [if_pos g1, if_pos ⟨g2, g3, g4⟩]]
          dsimp only
          obtain ⟨b, rfl, hb, eb⟩ := g1.n (by omega)
          obtain ⟨a, rfl, _, ha, ea⟩ := g2.n (by omega)
          obtain ⟨c, rfl, _, hc, ec⟩ := g3.n (by omega)
          obtain ⟨d, rfl, _, hd, ed⟩ := g4.n (by omega)
          rw [ea, eb, ec, ed]
          refine Cal.of rfl (by decide +kernel) (by simp) (Nat.le_of_ble_eq_true rfl) rfl (sX12_spell_0 (P1 := fun I I' => Fr [49, 50, 51, 52, 53, 54] I I' ∧ laidR I' κ 0 a b (κ 54) c 0) w ?_ ?_ ?_ ?_ ?_ ?_) <;> intros <;> (first | exact absurd (by with_reducible assumption) c1 | exact absurd c1 (by with_reducible assumption) | exact absurd (by with_reducible assumption) c2 | exact absurd c2 (by with_reducible assumption) | exact absurd (by with_reducible assumption) c3 | exact absurd c3 (by with_reducible assumption) | exact absurd (by with_reducible assumption) c4 | exact absurd c4 (by with_reducible assumption) | skip)
          · exact (laysHours_r (row := 0) (n := c) w hK.up4 ho hhb (by omega) (by omega) (by omega) (by omega)).mono (fun r μ' ⟨e, I', e2, h1, _, _, h4, _⟩ => ⟨e, I', e2, h1, h4⟩)
          · rename_i I1 hp
            have hK1 := hK.up4.fr hp.1 (by decide)
            refine upto (σ := Unit) (W := fun i _ => hX12_spell_81 l G k _ (nI c) (nI d) (nI (qsp (qfa κ a b) i).1) (jP (qsp (qfa κ a b) i).2.1) (nI (qsp (qfa κ a b) i).2.2) (nI i) (I1, J, R, S, nx)) (P := fun i _ => True) c ?_ ?_ (i := 0) (s := ()) (Nat.zero_le _) trivial
            · intro _ _
              have d1 : nI c ≤ nI c := nI_le (Nat.le_refl _) (by omega)
              have d0 : (nI d = 0) = (d = 0) := propext (nI_eq (b := 0) (by omega) (by decide))
              refine sX12_spell_81 w ?_ ?_ ?_ ?_ ?_ <;> intros <;> (first | exact absurd (by with_reducible assumption) d1 | exact absurd d1 (by with_reducible assumption) | skip)
              · rename_i h; rw [d0] at h
                exact ⟨by rw [if_neg h], _, rfl, PU.ok rfl hp.1 (by decide) (by decide) hK1⟩
              · rename_i h; rw [d0] at h
                exact ⟨by rw [if_pos h], _, rfl, PU.ok rfl hp.1 (by decide) (by decide) hK1⟩
            · intro i _ hi _ ih
              have d1 : ¬ nI c ≤ nI i := nI_ge hi (by omega)
              have hv : I1 54 (nI i).toNatClampNeg = if qfa κ a b i then 0 else 1 := by rw [nI_clamp (by omega)]; have := hp.2.bar i hi; rw [Nat.mul_zero, Nat.zero_add] at this; exact this
              have hle := qsp_le (qfa κ a b) i
              have go : ∀ r : Nat, r = (if qfa κ a b i then (qsp (qfa κ a b) i).2.2 + 1 else 0) → r ≤ i + 1 → hX12_spell_105 l G k (fun r μ' => r = .inl (some (.int (if d = 0 then nI (qsp (qfa κ a b) c).1 else jP (qsp (qfa κ a b) c).2.1))) ∧ ∃ I', μ' = (I', J, R, S, nx) ∧ PU 0 κ I I') (nI c) (nI d) (nI (qsp (qfa κ a b) i).1) (jP (qsp (qfa κ a b) i).2.1) (nI i) (nI r) (I1, J, R, S, nx) := by
                intro r hr hri
                have hx := ih () trivial
                refine sX12_spell_105 (fun h => ?_) (fun h => ?_)
                · rw [nI_ltI (by omega) (by omega)] at h
                  have e : qsp (qfa κ a b) (i + 1) = (r, some (i + 1 - r), r) := by rw [qsp_s, ← hr, if_pos h]
                  rw [e] at hx
                  have e2 : nI i - nI r + (1 : Int32) = nI (i + 1 - r) := by
                    rw [nI_z, nI_z, zI_sub, show (1 : Int32) = zI 1 by decide, zI_add, nI_z]; congr 1; omega
                  rw [e2, nI_1]; exact hx
                · rw [nI_ltI (by omega) (by omega)] at h
                  have e : qsp (qfa κ a b) (i + 1) = ((qsp (qfa κ a b) i).1, (qsp (qfa κ a b) i).2.1, r) := by rw [qsp_s, ← hr, if_neg h]
                  rw [e] at hx
                  rw [nI_1]; exact hx
              refine sX12_spell_81 w ?_ ?_ ?_ ?_ ?_ <;> intros <;> (first | exact absurd (by with_reducible assumption) d1 | exact absurd d1 (by with_reducible assumption) | skip)
              · exact vp_in_nI (by omega) (by decide)
              · rename_i h
                rw [hv] at h
                have hq : qfa κ a b i = true := by
                  by_cases c : qfa κ a b i = true
                  · exact c
                  · rw [if_neg c] at h; exact absurd h (by decide)
                rw [nI_1]
                exact go _ (by rw [if_pos hq]) (by omega)
              · rename_i h
                rw [hv] at h
                have hq : ¬ qfa κ a b i = true := fun c => h (by rw [if_pos c])
                exact go 0 (by rw [if_neg hq]) (by omega)
        · have c4 : v_X12_within (Int32.toInt64 x4) (0 : Int64) (1 : Int64) = 0 := cRf g4 (by decide) (by decide)
          rw [show aSpell κ x1 x2 x3 x4 = (2, 0) by unfold aSpell; rw [if_pos g1, if_neg (fun h => g4 h.2.2)]]
          refine Cal.of rfl (by decide +kernel) (by simp) (Nat.le_of_ble_eq_true rfl) rfl (sX12_spell_0 (P1 := fun I I' => True) w ?_ ?_ ?_ ?_ ?_ ?_) <;> intros <;> (first | exact absurd (by with_reducible assumption) c1 | exact absurd c1 (by with_reducible assumption) | exact absurd (by with_reducible assumption) c2 | exact absurd c2 (by with_reducible assumption) | exact absurd (by with_reducible assumption) c3 | exact absurd c3 (by with_reducible assumption) | exact absurd (by with_reducible assumption) c4 | exact absurd c4 (by with_reducible assumption) | skip)
          exact ⟨rfl, _, rfl, PU.fail hK rfl⟩
      · have c3 : v_X12_within (Int32.toInt64 x3) (1 : Int64) (200 : Int64) = 0 := cRf g3 (by decide) (by decide)
        rw [show aSpell κ x1 x2 x3 x4 = (2, 0) by unfold aSpell; rw [if_pos g1, if_neg (fun h => g3 h.2.1)]]
        refine Cal.of rfl (by decide +kernel) (by simp) (Nat.le_of_ble_eq_true rfl) rfl (sX12_spell_0 (P1 := fun I I' => True) w ?_ ?_ ?_ ?_ ?_ ?_) <;> intros <;> (first | exact absurd (by with_reducible assumption) c1 | exact absurd c1 (by with_reducible assumption) | exact absurd (by with_reducible assumption) c2 | exact absurd c2 (by with_reducible assumption) | exact absurd (by with_reducible assumption) c3 | exact absurd c3 (by with_reducible assumption) | skip)
        exact ⟨rfl, _, rfl, PU.fail hK rfl⟩
    · have c2 : v_X12_isKind x1 = 0 := by rw [k1]; exact g2
      rw [show aSpell κ x1 x2 x3 x4 = (2, 0) by unfold aSpell; rw [if_pos g1, if_neg (fun h => g2 h.1)]]
      refine Cal.of rfl (by decide +kernel) (by simp) (Nat.le_of_ble_eq_true rfl) rfl (sX12_spell_0 (P1 := fun I I' => True) w ?_ ?_ ?_ ?_ ?_ ?_) <;> intros <;> (first | exact absurd (by with_reducible assumption) c1 | exact absurd c1 (by with_reducible assumption) | exact absurd (by with_reducible assumption) c2 | exact absurd c2 (by with_reducible assumption) | skip)
      exact ⟨rfl, _, rfl, PU.fail hK rfl⟩
  · have c1 := cWf hK ho g1
    rw [show aSpell κ x1 x2 x3 x4 = (1, 0) by unfold aSpell; rw [if_neg g1]]
    refine Cal.of rfl (by decide +kernel) (by simp) (Nat.le_of_ble_eq_true rfl) rfl (sX12_spell_0 (P1 := fun I I' => True) w ?_ ?_ ?_ ?_ ?_ ?_) <;> intros <;> (first | exact absurd (by with_reducible assumption) c1 | exact absurd c1 (by with_reducible assumption) | skip)
    exact ⟨rfl, _, rfl, PU.fail hK rfl⟩
end A
