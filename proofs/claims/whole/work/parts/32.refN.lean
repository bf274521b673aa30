/-! the reference: hours to come -/
theorem first_eq {p : Nat → Bool} {n i : Nat} (h : ∀ j, j < i → p j = false) (hi : i < n) (hp : p i = true) : fa_first p n = i := by
  have h1 := fa_first_le p n
  rcases Nat.lt_trichotomy (fa_first p n) i with c | c | c
  · have := fa_first_yes p n (by omega)
    rw [h _ c] at this; cases this
  · exact c
  · have := fa_first_no p n i c
    rw [hp] at this; cases this
theorem first_no {p : Nat → Bool} {n : Nat} (h : ∀ j, j < n → p j = false) : fa_first p n = n := by
  have h1 := fa_first_le p n
  rcases Nat.lt_or_ge (fa_first p n) n with c | c
  · have := fa_first_yes p n c
    rw [h _ c] at this; cases this
  · omega
/-- the first hour from one on in which a deed is lawful -/
def qso (p : Nat → Bool) (fr c : Nat) : Option Nat := if fa_first (fun d => qfree p (fr + d) c) 201 < 201 then some (fr + fa_first (fun d => qfree p (fr + d) c) 201) else none
theorem qso_le {p : Nat → Bool} {fr c n : Nat} (h : qso p fr c = some n) : fr ≤ n ∧ n ≤ fr + 200 := by
  unfold qso at h
  split at h
  · have := Option.some.inj h; omega
  · cases h
section A
variable {l : Launch} {G : Gh} {k : Nat} {I : Nat → Nat → Int32} {J : Nat → Nat → Int64} {R : Nat → Nat → Option Nat} {S : Nat → Nat × Nat} {nx : Nat} {κ : Nat → Nat} {hb pb : Nat}
theorem firstLawful_r {row fr ls N : Nat} {p : Nat → Bool} (w : MW R S nx) (hK : Kn I κ) (ho : qok hb pb κ) (hrow : row < 4) (hN : N ≤ 1024) (hn : fr + 200 + qms κ ls ≤ N) (hls : ls < 2 ^ 20) (hp : ∀ j, j < N → I 54 (1024 * row + j) = if p j then 0 else 1) :
    Cal l G (k + 1) 0 0 mX12_firstLawful [.ref 43, .int (nI row), .int (nI fr), .int (nI ls)] (I, J, R, S, nx) (fun r μ' => r = .inl (some (.int (jP (qso p fr (qms κ ls))))) ∧ ∃ I', μ' = (I', J, R, S, nx) ∧ I' = I) := by
  refine Cal.of rfl (by decide +kernel) (by simp) (Nat.le_of_ble_eq_true rfl) rfl (sX12_firstLawful_0 ?_)
  have e200 : nI fr + (200 : Int32) = nI (fr + 200) := nI_add fr 200
  refine upto (σ := Unit) (W := fun i _ => hX12_firstLawful_3 l G k _ (nI row) (nI fr) (nI ls) (nI (fr + i)) (I, J, R, S, nx)) (P := fun i _ => ∀ j, j < i → qfree p (fr + j) (qms κ ls) = false) 201 ?_ ?_ (i := 0) (s := ()) (Nat.zero_le _) (fun j hj => absurd hj (Nat.not_lt_zero j))
  · intro _ h
    have c1 : nI fr + (200 : Int32) < nI (fr + 201) := by rw [e200]; exact nI_lt (by omega) (by omega)
    refine sX12_firstLawful_3 (u1 := 0) (P1 := fun _ _ => True) w ?_ ?_ ?_ ?_ <;> intros <;> (first | exact absurd (by with_reducible assumption) c1 | exact absurd c1 (by with_reducible assumption) | skip)
    have e : qso p fr (qms κ ls) = none := by
      unfold qso; rw [if_neg (by rw [first_no (p := fun d => qfree p (fr + d) (qms κ ls)) (n := 201) h]; omega)]
    rw [e]
    exact ⟨rfl, _, rfl, rfl⟩
  · intro i _ hi h ih
    have c1 : ¬ nI fr + (200 : Int32) < nI (fr + i) := by rw [e200]; exact nI_nlt (by omega) (by omega)
    refine sX12_firstLawful_3 (u1 := if qfree p (fr + i) (qms κ ls) then 1 else 0) (P1 := fun I I' => I' = I) w ?_ ?_ ?_ ?_ <;> intros <;> (first | exact absurd (by with_reducible assumption) c1 | exact absurd c1 (by with_reducible assumption) | skip)
    · exact isLawful_r w hK ho hrow hN (by omega) (by omega) hp
    · rename_i I1 h1 h0
      subst h1
      rw [ifI] at h0
      rw [nI_1]
      exact ih () (fun j hj => by
        by_cases c : j = i
        · rw [c]; simpa using h0
        · exact h j (by omega))
    · rename_i I1 h1 h0
      subst h1
      rw [ifI, Decidable.not_not] at h0
      have e : qso p fr (qms κ ls) = some (fr + i) := by
        have := first_eq (p := fun d => qfree p (fr + d) (qms κ ls)) (n := 201) h hi h0
        unfold qso; rw [this, if_pos hi]
      rw [e]
      exact ⟨rfl, _, rfl, rfl⟩
/-- nothing bars, so many hours ahead -/
def qfa (κ : Nat → Nat) (kd wn : Nat) : Nat → Bool := fun j => qfr κ kd wn (κ 54 + j)
def qsoon (κ : Nat → Nat) (kd wn ls : Nat) : Option Nat := qso (qfa κ kd wn) 0 (qms κ ls)
theorem soonestOf_r {kd wn ls : Nat} (w : MW R S nx) (hK : Kn I κ) (ho : qok hb pb κ) (hhb : hb < 2 ^ 29) (hkd : kd < 2 ^ 31) (hw : wn < 5) (hls : 1 ≤ ls ∧ ls ≤ 24) : Cal l G (k + 7) 0 0 mX12_soonestOf [.ref 43, .int (nI kd), .int (nI wn), .int (nI ls)] (I, J, R, S, nx) (fun r μ' => r = .inl (some (.int (jP (qsoon κ kd wn ls)))) ∧ ∃ I', μ' = (I', J, R, S, nx) ∧ Fr [49, 50, 51, 52, 53, 54] I I') := by
  have hm := qms_le (κ := κ) hls.1
  refine Cal.of rfl (by decide +kernel) (by simp) (Nat.le_of_ble_eq_true rfl) rfl (sX12_soonestOf_0 (u2 := jP (qsoon κ kd wn ls)) (P1 := fun I I' => Fr [49, 50, 51, 52, 53, 54] I I' ∧ laidR I' κ 0 kd wn (κ 54) 224 0) (P2 := fun I I' => I' = I) w ?_ ?_ ?_)
  · exact (laysHours_r (row := 0) (n := 224) w hK ho hhb hw (by omega) hkd (by omega)).mono (fun r μ' ⟨e, I', e2, h1, _, _, h4, _⟩ => ⟨e, I', e2, h1, h4⟩)
  · intro I1 hp
    exact firstLawful_r (row := 0) (fr := 0) w (hK.fr hp.1 (by decide)) ho (by omega) (N := 224) (by omega) (by omega) (by omega) hp.2.bar
  · intro I1 hp I2 h2
    subst h2
    exact ⟨rfl, _, rfl, hp.1⟩
def aSoonest (κ : Nat → Nat) (x1 x2 x3 : Int32) : Nat × Int32 := if gD κ x1 x2 0 x3 = 0 then (0, jP (qsoon κ (cN x1) (cN x2) (cN x3))) else (gD κ x1 x2 0 x3, 0)
theorem soonest_r {x1 x2 x3 : Int32} (w : MW R S nx) (hK : Kn I κ) (ho : qok hb pb κ) (hhb : hb < 2 ^ 29) : Cal l G (k + 8) 0 0 mX12_soonest [.ref 43, .int x1, .int x2, .int x3] (I, J, R, S, nx) (fun r μ' => r = .inl (some (.int ((aSoonest κ x1 x2 x3).2))) ∧ ∃ I', μ' = (I', J, R, S, nx) ∧ PU (aSoonest κ x1 x2 x3).1 κ I I') := by
  obtain ⟨o1, o2⟩ := out_n (x1 := x1) (x2 := x2) (x3 := 0) (x4 := x3) hK ho
  by_cases g : gD κ x1 x2 0 x3 = 0
  · rw [show aSoonest κ x1 x2 x3 = (0, jP (qsoon κ (cN x1) (cN x2) (cN x3))) by unfold aSoonest; rw [if_pos g]]
    dsimp only
    rw [if_pos g] at o1
    rw [g] at o2
    obtain ⟨a, b, c, d, rfl, rfl, _, rfl, ha, hb1, hb2, hc, hd1, hd, ea, eb, ec, ed⟩ := gD0 ho g
    rw [ea, eb, ed]
    refine Cal.of rfl (by decide +kernel) (by simp) (Nat.le_of_ble_eq_true rfl) rfl (sX12_soonest_0 (u1 := jP (qsoon κ a b d)) (P1 := fun I I' => Fr [49, 50, 51, 52, 53, 54] I I') w ?_ ?_ ?_) <;> intros <;> (first | exact absurd (by with_reducible assumption) o1 | exact absurd o1 (by with_reducible assumption) | skip)
    · rw [o2]; exact soonestOf_r w hK.up4 ho hhb (by omega) hb2 ⟨hd1, hd⟩
    · rename_i I1 h
      rw [o2] at h
      exact ⟨rfl, _, rfl, PU.ok rfl h (by decide) (by decide) (hK.up4.fr h (by decide))⟩
  · rw [show aSoonest κ x1 x2 x3 = (gD κ x1 x2 0 x3, 0) by unfold aSoonest; rw [if_neg g]]
    rw [if_neg g] at o1
    have o3 : ¬ v_X12_isDeedOut I x1 x2 (0 : Int32) x3 = 0 := by rw [o1]; decide
    refine Cal.of rfl (by decide +kernel) (by simp) (Nat.le_of_ble_eq_true rfl) rfl (sX12_soonest_0 (u1 := 0) (P1 := fun I I' => True) w ?_ ?_ ?_) <;> intros <;> (first | exact absurd (by with_reducible assumption) o3 | exact absurd o3 (by with_reducible assumption) | skip)
    rw [o2]
    exact ⟨rfl, _, rfl, PU.fail hK rfl⟩
/-! where -/
def qwh (s : Nat → Option Nat) : Nat → Option (Nat × Nat)
  | 0 => none
  | i + 1 => match s i with
    | none => qwh s i
    | some n => match qwh s i with
      | none => some (i, n)
      | some (b, m) => if n < m then some (i, n) else some (b, m)
theorem qwh_s (s : Nat → Option Nat) (i : Nat) : qwh s (i + 1) = match s i with
    | none => qwh s i
    | some n => match qwh s i with
      | none => some (i, n)
      | some (b, m) => if n < m then some (i, n) else some (b, m) := rfl
theorem qwh_0 {s : Nat → Option Nat} {i : Nat} (h : s i = none) : qwh s (i + 1) = qwh s i := by rw [qwh_s, h]
theorem qwh_1 {s : Nat → Option Nat} {i n : Nat} (h : s i = some n) (hq : qwh s i = none) : qwh s (i + 1) = some (i, n) := by rw [qwh_s, h, hq]
theorem qwh_2 {s : Nat → Option Nat} {i n b m : Nat} (h : s i = some n) (hq : qwh s i = some (b, m)) (hl : n < m) : qwh s (i + 1) = some (i, n) := by rw [qwh_s, h, hq]; simp [hl]
theorem qwh_3 {s : Nat → Option Nat} {i n b m : Nat} (h : s i = some n) (hq : qwh s i = some (b, m)) (hl : ¬ n < m) : qwh s (i + 1) = some (b, m) := by rw [qwh_s, h, hq]; simp [hl]
def aWhere (κ : Nat → Nat) (x1 x2 : Int32) : Nat × Int32 := if gR x1 0 9 ∧ gR x2 1 24 then (0, jP ((qwh (fun wn => qsoon κ (cN x1) wn (cN x2)) (κ 1)).map Prod.fst)) else (1, 0)
theorem qwh_le {s : Nat → Option Nat} (hs : ∀ i n, s i = some n → n ≤ 200) : ∀ i b m, qwh s i = some (b, m) → m ≤ 200
  | 0, b, m, h => by cases h
  | i + 1, b, m, h => by
    unfold qwh at h
    split at h
    · exact qwh_le hs i b m h
    · rename_i n hn
      split at h
      · have := Option.some.inj h
        have h2 := (Prod.mk.inj this).2
        have := hs i n hn; omega
      · rename_i b' m' hq
        split at h
        · have h2 := (Prod.mk.inj (Option.some.inj h)).2
          have := hs i n hn; omega
        · have h2 := (Prod.mk.inj (Option.some.inj h)).2
          have := qwh_le hs i b' m' hq; omega
theorem where_r {x1 x2 : Int32} (w : MW R S nx) (hK : Kn I κ) (ho : qok hb pb κ) (hhb : hb < 2 ^ 29) : Cal l G (k + 8) 0 0 mX12_where [.ref 43, .int x1, .int x2] (I, J, R, S, nx) (fun r μ' => r = .inl (some (.int ((aWhere κ x1 x2).2))) ∧ ∃ I', μ' = (I', J, R, S, nx) ∧ PU (aWhere κ x1 x2).1 κ I I') := by
  have h1w := ho.1
  have k1 : (v_X12_isKind x1 = 0) = ¬ gR x1 0 9 := gR0 (by decide) (by decide)
  have k2 : (v_X12_isLong x2 = 0) = ¬ gR x2 1 24 := gR0 (by decide) (by decide)
  by_cases g1 : gR x1 0 9
  · have c1 : ¬ v_X12_isKind x1 = 0 := by rw [k1]; exact fun h => h g1
    by_cases g2 : gR x2 1 24
    · have c2 : ¬ v_X12_isLong x2 = 0 := by rw [k2]; exact fun h => h g2
      rw [show aWhere κ x1 x2 = (0, jP ((qwh (fun wn => qsoon κ (cN x1) wn (cN x2)) (κ 1)).map Prod.fst)) by unfold aWhere; rw [if_pos ⟨g1, g2⟩]]
      obtain ⟨a, rfl, _, ha, ea⟩ := g1.n (by omega)
      obtain ⟨b, rfl, hb1, hb2, eb⟩ := g2.n (by omega)
      rw [ea, eb]
      refine Cal.of rfl (by decide +kernel) (by simp) (Nat.le_of_ble_eq_true rfl) rfl (sX12_where_0 w ?_ ?_ ?_) <;> intros <;> (first | exact absurd (by with_reducible assumption) c1 | exact absurd c1 (by with_reducible assumption) | exact absurd (by with_reducible assumption) c2 | exact absurd c2 (by with_reducible assumption) | skip)
      have hle : ∀ i n, (fun wn => qsoon κ a wn b) i = some n → n ≤ 200 := fun i n h => by have := (qso_le h).2; omega
      refine upto (W := fun i (s : Int32 × Int32 × (Nat → Nat → Int32)) => hX12_where_35 l G k _ (nI a) (nI b) s.1 s.2.1 (nI i) (s.2.2, J, R, S, nx)) (P := fun i s => s.1 = jP ((qwh (fun wn => qsoon κ a wn b) i).map Prod.fst) ∧ s.2.1 = (match qwh (fun wn => qsoon κ a wn b) i with | none => (536870912 : Int32) | some q => nI q.2) ∧ Fr [49, 50, 51, 52, 53, 54] (up2 I 43 4 (0 : Int32)) s.2.2) (κ 1) ?_ ?_ (i := 0) (s := ((-1 : Int32), (536870912 : Int32), up2 I 43 4 (0 : Int32))) (Nat.zero_le _) ⟨rfl, rfl, Fr.rf⟩
      · intro ⟨x3, x4, I1⟩ ⟨e3, e4, hF⟩
        have hK1 := hK.up4.fr hF (by decide)
        have c0 : v_X12_wards I1 ≤ nI (κ 1) := by rw [wards_n hK1]; exact nI_le (Nat.le_refl _) (by omega)
        refine sX12_where_35 (u1 := 0) (P1 := fun _ _ => True) w ?_ ?_ ?_ ?_ ?_ <;> intros <;> (first | exact absurd (by with_reducible assumption) c0 | exact absurd c0 (by with_reducible assumption) | skip)
        exact ⟨by rw [show x3 = _ from e3], _, rfl, PU.ok rfl hF (by decide) (by decide) hK1⟩
      · intro i ⟨x3, x4, I1⟩ hi ⟨e3, e4, hF⟩ ih
        have hK1 := hK.up4.fr hF (by decide)
        have c0 : ¬ v_X12_wards I1 ≤ nI i := by rw [wards_n hK1]; exact nI_ge hi (by omega)
        refine sX12_where_35 (u1 := jP (qsoon κ a i b)) (P1 := fun I I' => Fr [49, 50, 51, 52, 53, 54] I I') w ?_ ?_ ?_ ?_ ?_ <;> intros <;> (first | exact absurd (by with_reducible assumption) c0 | exact absurd c0 (by with_reducible assumption) | skip)
        · exact soonestOf_r w hK1 ho hhb (by omega) (by omega) ⟨hb1, hb2⟩
        · rename_i I2 h2 hu
          rw [nI_1]
          have hn : qsoon κ a i b = none := by
            cases hq : qsoon κ a i b with
            | none => rfl
            | some n =>
              rw [hq] at hu
              have := hle i n hq
              rw [show jP (some n) = nI n from rfl, fa_eq, nI_toInt (by omega), show (-1 : Int32).toInt = -1 by decide] at hu; omega
          have hq2 : qwh (fun wn => qsoon κ a wn b) (i + 1) = qwh (fun wn => qsoon κ a wn b) i := qwh_0 hn
          exact ih (x3, x4, I2) ⟨by rw [hq2]; exact e3, by rw [hq2]; exact e4, hF.tr h2 (by decide)⟩
        · rename_i I2 h2 hu hlt
          rw [nI_1]
          cases hq : qsoon κ a i b with
          | none => rw [hq] at hu; exact absurd rfl hu
          | some n =>
            have hn := hle i n hq
            rw [hq] at hlt
            have hq2 : qwh (fun wn => qsoon κ a wn b) (i + 1) = some (i, n) := by
              cases hw : qwh (fun wn => qsoon κ a wn b) i with
              | none => exact qwh_1 hq hw
              | some q =>
                obtain ⟨b', m'⟩ := q
                rw [hw] at e4
                have hm := qwh_le hle i b' m' hw
                rw [show x4 = _ from e4] at hlt
                exact qwh_2 hq hw ((nI_ltI (a := n) (b := m') (by omega) (by omega)).mp hlt)
            exact ih (_, _, I2) ⟨by rw [hq2]; rfl, by rw [hq2]; rfl, hF.tr h2 (by decide)⟩
        · rename_i I2 h2 hu hlt
          rw [nI_1]
          cases hq : qsoon κ a i b with
          | none => rw [hq] at hu; exact absurd rfl hu
          | some n =>
            have hn := hle i n hq
            rw [hq] at hlt
            have hq2 : qwh (fun wn => qsoon κ a wn b) (i + 1) = qwh (fun wn => qsoon κ a wn b) i := by
              cases hw : qwh (fun wn => qsoon κ a wn b) i with
              | none =>
                rw [hw] at e4
                exact absurd (by rw [show x4 = _ from e4]; exact nI_lt (a := n) (b := 536870912) (by omega) (by decide)) hlt
              | some q =>
                obtain ⟨b', m'⟩ := q
                rw [hw] at e4
                have hm := qwh_le hle i b' m' hw
                rw [show x4 = _ from e4] at hlt
                exact qwh_3 hq hw (fun h => hlt (nI_lt h (by omega)))
            exact ih (x3, x4, I2) ⟨by rw [hq2]; exact e3, by rw [hq2]; exact e4, hF.tr h2 (by decide)⟩
    · have c2 : v_X12_isLong x2 = 0 := by rw [k2]; exact g2
      rw [show aWhere κ x1 x2 = (1, 0) by unfold aWhere; rw [if_neg (fun h => g2 h.2)]]
      refine Cal.of rfl (by decide +kernel) (by simp) (Nat.le_of_ble_eq_true rfl) rfl (sX12_where_0 w ?_ ?_ ?_) <;> intros <;> (first | exact absurd (by with_reducible assumption) c1 | exact absurd c1 (by with_reducible assumption) | exact absurd (by with_reducible assumption) c2 | exact absurd c2 (by with_reducible assumption) | skip)
      exact ⟨rfl, _, rfl, PU.fail2 hK rfl⟩
  · have c1 : v_X12_isKind x1 = 0 := by rw [k1]; exact g1
    rw [show aWhere κ x1 x2 = (1, 0) by unfold aWhere; rw [if_neg (fun h => g1 h.1)]]
    refine Cal.of rfl (by decide +kernel) (by simp) (Nat.le_of_ble_eq_true rfl) rfl (sX12_where_0 w ?_ ?_ ?_) <;> intros <;> (first | exact absurd (by with_reducible assumption) c1 | exact absurd c1 (by with_reducible assumption) | skip)
    exact ⟨rfl, _, rfl, PU.fail2 hK rfl⟩
end A
