/-! the reference: errands -/
/-- a told deed that can be an errand -/
def qdd (κ : Nat → Nat) (v : Int) : Bool := decide (0 ≤ v ∧ v ≤ 9999 ∧ v.toNat / 100 % 10 < κ 1 ∧ 1 ≤ v.toNat % 100 ∧ v.toNat % 100 ≤ 24)
def qer (κ tm : Nat → Nat) (tn : Nat → Nat → Int64) (a : Nat) : Bool := decide (1 ≤ tm a ∧ tm a ≤ 4) && (List.range (tm a)).all (fun i => qdd κ (tn a i).toInt)
def gE (κ τ tm : Nat → Nat) (tn : Nat → Nat → Int64) (x : Int32) : Nat := if gT τ x = 0 then (if qer κ tm tn (cN x) then 0 else 3) else gT τ x
theorem qer_iff {κ tm : Nat → Nat} {tn : Nat → Nat → Int64} {a : Nat} : qer κ tm tn a = true ↔ (1 ≤ tm a ∧ tm a ≤ 4) ∧ ∀ i, i < tm a → qdd κ (tn a i).toInt = true := by
  unfold qer; simp
/-- when an errand is done, begun from an hour on -/
def qdo (κ : Nat → Nat) (n h : Nat) : Option Nat := (qso (qfa κ (n / 1000) (n / 100 % 10)) h (qms κ (n % 100))).map (fun t => t + n % 100)
def qers (d : Nat → Nat → Option Nat) : Nat → Option Nat
  | 0 => some 0
  | i + 1 => match qers d i with
    | none => none
    | some h => d i h
def tnN (tn : Nat → Nat → Int64) (a i : Nat) : Nat := (tn a i).toInt.toNat
theorem Option.map_some_inv {α β : Type} {f : α → β} {o : Option α} {b : β} (h : o.map f = some b) : ∃ a, o = some a ∧ f a = b := by
  cases o with
  | none => cases h
  | some a => exact ⟨a, rfl, Option.some.inj h⟩
theorem qdo_le {κ : Nat → Nat} {n h t : Nat} (hn : 1 ≤ n % 100 ∧ n % 100 ≤ 24) (e : qdo κ n h = some t) : h < t ∧ t ≤ h + 224 := by
  unfold qdo at e
  obtain ⟨s, h1, h2⟩ := Option.map_some_inv e
  have := qso_le h1
  omega
theorem qers_le {d : Nat → Nat → Option Nat} {m : Nat} (hd : ∀ i h t, i < m → d i h = some t → t ≤ h + 224) : ∀ i h, i ≤ m → qers d i = some h → h ≤ 224 * i
  | 0, h, _, e => by have : 0 = h := Option.some.inj e; omega
  | i + 1, h, hi, e => by
    unfold qers at e
    split at e
    · cases e
    · rename_i h' e'
      have h1 := qers_le hd i h' (by omega) e'
      have h2 := hd i h' h (by omega) e
      omega
section A
variable {l : Launch} {G : Gh} {k : Nat} {I : Nat → Nat → Int32} {J : Nat → Nat → Int64} {R : Nat → Nat → Option Nat} {S : Nat → Nat × Nat} {nx : Nat} {κ : Nat → Nat} {hb pb : Nat}
theorem qdd_n (x : Int64) (hK : Kn I κ) (ho : qok hb pb κ) : (¬ v_X12_within x (0 : Int64) (9999 : Int64) = 0 ∧ ¬ v_X12_isWard I ((x / (100 : Int64)) - (x / (100 : Int64)) / (10 : Int64) * (10 : Int64)) = 0 ∧ ¬ v_X12_within (x - x / (100 : Int64) * (100 : Int64)) (1 : Int64) (24 : Int64) = 0) ↔ qdd κ x.toInt = true := by
  have h1 := ho.1
  have e1 : (v_X12_within x (0 : Int64) (9999 : Int64) = 0) = ¬ ((0 : Int) ≤ x.toInt ∧ x.toInt ≤ 9999) := wiN x (a := 0) (b := 9999) (by decide) (by decide)
  unfold qdd
  rw [decide_eq_true_eq, e1, Decidable.not_not, gW64 _ hK ho, Decidable.not_not]
  by_cases c1 : (0 : Int) ≤ x.toInt ∧ x.toInt ≤ 9999
  · obtain ⟨n, hn, en⟩ : ∃ n, n ≤ 9999 ∧ x = lN n := ⟨x.toInt.toNat, by omega, lN_of c1.1 (by omega)⟩
    have f1 : (x / (100 : Int64)) - (x / (100 : Int64)) / (10 : Int64) * (10 : Int64) = lN (n / 100 % 10) := by
      rw [en, show (100 : Int64) = lN 100 from rfl, show (10 : Int64) = lN 10 from rfl, pk_lDiv (by omega) (by decide) (by decide), pk_lRem (by omega) (by decide) (by decide)]
    have f2 : x - x / (100 : Int64) * (100 : Int64) = lN (n % 100) := by
      rw [en, show (100 : Int64) = lN 100 from rfl, pk_lRem (by omega) (by decide) (by decide)]
    have f3 : x.toInt = (n : Int) := by rw [en, lN_toInt (by omega)]
    have f4 : (v_X12_within (lN (n % 100)) (1 : Int64) (24 : Int64) = 0) = ¬ ((1 : Int) ≤ ((n % 100 : Nat) : Int) ∧ ((n % 100 : Nat) : Int) ≤ 24) := by
      have := wiN (lN (n % 100)) (a := 1) (b := 24) (by decide) (by decide)
      rw [lN_toInt (by omega)] at this
      exact this
    rw [f1, f2, f4, f3, lN_toInt (by omega), Decidable.not_not, Int.toNat_natCast]
    omega
  · constructor
    · intro h; exact absurd h.1 c1
    · intro h; exact absurd ⟨h.1, h.2.1⟩ c1
theorem errandsFault_r {x : Int32} {τ tm : Nat → Nat} {tn : Nat → Nat → Int64} (w : MW R S nx) (hK : Kn I κ) (ho : qok hb pb κ) (hT : Tk I J τ tm tn) : Cal l G (k + 3) 0 0 mX12_errandsFault [.ref 43, .int x] (I, J, R, S, nx) (fun r μ' => r = .inl (some (.int (nI (gE κ τ tm tn x)))) ∧ ∃ I', μ' = (I', J, R, S, nx) ∧ I' = I) := by
  have eT := gT_n (x := x) hT
  have hle := gT_le τ x
  by_cases g : gT τ x = 0
  · have d1 : v_X12_trayFault I x = 0 := by rw [eT, g]; rfl
    rw [show gE κ τ tm tn x = if qer κ tm tn (cN x) then 0 else 3 by unfold gE; rw [if_pos g]]
    obtain ⟨a, rfl, ha, ea, _⟩ := gT0 g
    rw [ea]
    obtain ⟨_, h69, hm30, _, hJ⟩ := hT a ha
    refine Cal.of rfl (by decide +kernel) (by simp) (Nat.le_of_ble_eq_true rfl) rfl (sX12_errandsFault_0 w ?_ ?_ ?_ ?_) <;> intros <;> (first | exact absurd (by with_reducible assumption) d1 | exact absurd d1 (by with_reducible assumption) | skip)
    · rename_i h; exact tr_b h
    · exact vp_in_nI ha (by decide)
    · have e69 : I 69 (nI a).toNatClampNeg = nI (tm a) := by rw [nI_clamp (by omega)]; exact h69
      rw [e69]
      -- no more
      have no : ∀ i, i ≤ tm a → qer κ tm tn a = false → hX12_errandsFault_30 l G k (fun r μ' => r = .inl (some (.int (nI (if qer κ tm tn a then 0 else 3)))) ∧ ∃ I', μ' = (I', J, R, S, nx) ∧ I' = I) (nI a) (0 : Int32) (nI i) (I, J, R, S, nx) := by
        intro i hi hq
        have z : (0 : Int32) = 0 := rfl
        rw [hq]
        refine sX12_errandsFault_30 w (vp_in_nI ha (by decide)) ?_ ?_ ?_ ?_ ?_ ?_ ?_ ?_ ?_ <;> intros <;> (first | exact absurd (by with_reducible assumption) z | exact absurd z (by with_reducible assumption) | skip)
        · exact ⟨rfl, _, rfl, rfl⟩
        · exact ⟨rfl, _, rfl, rfl⟩
      have w14 : (v_X12_within (Int32.toInt64 (nI (tm a))) (1 : Int64) (4 : Int64)) = if 1 ≤ tm a ∧ tm a ≤ 4 then 1 else 0 := by
        have := gRw (nI (tm a)) (a := 1) (b := 4) (by decide) (by decide)
        rw [show v_X12_within (Int32.toInt64 (nI (tm a))) (1 : Int64) (4 : Int64) = v_X12_within (Int32.toInt64 (nI (tm a))) (lN 1) (lN 4) from rfl, this]
        have e : gR (nI (tm a)) 1 4 ↔ (1 ≤ tm a ∧ tm a ≤ 4) := by unfold gR; rw [nI_toInt (by omega)]; omega
        by_cases c : 1 ≤ tm a ∧ tm a ≤ 4
        · rw [if_pos (e.mpr c), if_pos c]
        · rw [if_neg (fun h => c (e.mp h)), if_neg c]
      rw [w14]
      by_cases c14 : 1 ≤ tm a ∧ tm a ≤ 4
      · rw [if_pos c14]
        refine upto (σ := Unit) (W := fun i _ => hX12_errandsFault_30 l G k _ (nI a) (1 : Int32) (nI i) (I, J, R, S, nx)) (P := fun i _ => ∀ j, j < i → qdd κ (tn a j).toInt = true) (tm a) ?_ ?_ (i := 0) (s := ()) (Nat.zero_le _) (fun j hj => absurd hj (Nat.not_lt_zero j))
        · intro _ h
          have c1 : I 69 (nI a).toNatClampNeg ≤ nI (tm a) := by rw [e69]; exact nI_le (Nat.le_refl _) (by omega)
          have c2 : ¬ (1 : Int32) = 0 := by decide
          refine sX12_errandsFault_30 w (vp_in_nI ha (by decide)) ?_ ?_ ?_ ?_ ?_ ?_ ?_ ?_ ?_ <;> intros <;> (first | exact absurd (by with_reducible assumption) c1 | exact absurd c1 (by with_reducible assumption) | exact absurd (by with_reducible assumption) c2 | exact absurd c2 (by with_reducible assumption) | skip)
          rw [show qer κ tm tn a = true from qer_iff.mpr ⟨c14, h⟩]
          exact ⟨rfl, _, rfl, rfl⟩
        · intro i _ hi h ih
          have c1 : ¬ I 69 (nI a).toNatClampNeg ≤ nI i := by rw [e69]; exact nI_ge hi (by omega)
          have c2 : ¬ (1 : Int32) = 0 := by decide
          have e30 : (30 : Int32) * nI a + nI i = nI (30 * a + i) := by rw [show (30 : Int32) = nI 30 from rfl, pk_mul, nI_add]
          have eJ : J 70 ((30 : Int32) * nI a + nI i).toNatClampNeg = tn a i := by rw [e30, nI_clamp (by omega)]; exact hJ i (by omega)
          have hq := qdd_n (tn a i) hK ho
          have bad : ¬ qdd κ (tn a i).toInt = true → hX12_errandsFault_30 l G k (fun r μ' => r = .inl (some (.int (nI (if qer κ tm tn a then 0 else 3)))) ∧ ∃ I', μ' = (I', J, R, S, nx) ∧ I' = I) (nI a) (0 : Int32) (nI i + (1 : Int32)) (I, J, R, S, nx) := by
            intro hb
            rw [nI_1]
            refine no (i + 1) (by omega) ?_
            cases hc : qer κ tm tn a with
            | false => rfl
            | true => exact absurd ((qer_iff.mp hc).2 i hi) hb
          refine sX12_errandsFault_30 w (vp_in_nI ha (by decide)) ?_ ?_ ?_ ?_ ?_ ?_ ?_ ?_ ?_ <;> intros <;> (first | exact absurd (by with_reducible assumption) c1 | exact absurd c1 (by with_reducible assumption) | exact absurd (by with_reducible assumption) c2 | exact absurd c2 (by with_reducible assumption) | skip)
          · rw [e30]; exact vp_in_nI (by omega) (by decide)
          · rename_i h1; rw [eJ] at h1; exact bad (fun h => (hq.mpr h).1 h1)
          · rename_i h1 h2; rw [eJ] at h2; exact bad (fun h => (hq.mpr h).2.1 h2)
          · rename_i h1 h2 h3; rw [eJ] at h3; exact bad (fun h => (hq.mpr h).2.2 h3)
          · rename_i h1 h2 h3
            rw [eJ] at h1 h2 h3
            rw [nI_1]
            refine ih () (fun j hj => ?_)
            by_cases cj : j = i
            · rw [cj]; exact hq.mp ⟨h1, h2, h3⟩
            · exact h j (by omega)
      · rw [if_neg c14]
        refine no 0 (by omega) ?_
        cases hc : qer κ tm tn a with
        | false => rfl
        | true => exact absurd (qer_iff.mp hc).1 c14
  · have d1 : ¬ v_X12_trayFault I x = 0 := by rw [eT]; exact nI_ne0 (by omega) (by omega)
    rw [show gE κ τ tm tn x = gT τ x by unfold gE; rw [if_neg g]]
    refine Cal.of rfl (by decide +kernel) (by simp) (Nat.le_of_ble_eq_true rfl) rfl (sX12_errandsFault_0 w ?_ ?_ ?_ ?_) <;> intros <;> (first | exact absurd (by with_reducible assumption) d1 | exact absurd d1 (by with_reducible assumption) | skip)
    · rename_i h; exact tr_b h
    · exact ⟨by rw [eT], _, rfl, rfl⟩
/-- what is known of errands that are none at fault -/
def erk (κ tm : Nat → Nat) (tn : Nat → Nat → Int64) (a : Nat) : Prop := (1 ≤ tm a ∧ tm a ≤ 4) ∧ ∀ i, i < tm a → tn a i = lN (tnN tn a i) ∧ tnN tn a i ≤ 9999 ∧ tnN tn a i / 100 % 10 < κ 1 ∧ 1 ≤ tnN tn a i % 100 ∧ tnN tn a i % 100 ≤ 24
theorem gE0 {x : Int32} {τ tm : Nat → Nat} {tn : Nat → Nat → Int64} (h : gE κ τ tm tn x = 0) : ∃ a, x = nI a ∧ a < 4 ∧ cN x = a ∧ erk κ tm tn a := by
  unfold gE at h
  split at h
  · rename_i g
    obtain ⟨a, rfl, ha, ea, _⟩ := gT0 g
    rw [ea] at h
    split at h
    · rename_i hq
      obtain ⟨h1, h2⟩ := qer_iff.mp hq
      refine ⟨a, rfl, ha, ea, h1, fun i hi => ?_⟩
      have := h2 i hi
      unfold qdd at this
      rw [decide_eq_true_eq] at this
      exact ⟨lN_of this.1 (by omega), by unfold tnN; omega, this.2.2.1, this.2.2.2.1, this.2.2.2.2⟩
    · cases h
  · rename_i g; exact absurd h g
theorem gE_le (κ τ tm : Nat → Nat) (tn : Nat → Nat → Int64) (x : Int32) : gE κ τ tm tn x ≤ 3 := by
  unfold gE
  have := gT_le τ x
  split
  · split <;> omega
  · omega
def laidE (I : Nat → Nat → Int32) (κ tm : Nat → Nat) (tn : Nat → Nat → Int64) (a n : Nat) : Prop := ∀ i, i < n → laidR I κ i (tnN tn a i / 1000) (tnN tn a i / 100 % 10) (κ 54) 1024 0
theorem told_n {a i : Nat} {τ tm : Nat → Nat} {tn : Nat → Nat → Int64} (hT : Tk I J τ tm tn) (ha : a < 4) (he : erk κ tm tn a) (hi : i < tm a) : v_X12_told J (nI a) (nI i) = nI (tnN tn a i) ∧ vp_in ((30 : Int32) * nI a + nI i) 120 := by
  have e30 : (30 : Int32) * nI a + nI i = nI (30 * a + i) := by rw [show (30 : Int32) = nI 30 from rfl, pk_mul, nI_add]
  have h4 := he.1
  unfold v_X12_told
  rw [e30, nI_clamp (by omega), (hT a ha).2.2.2.2 i (by omega), (he.2 i hi).1, lN_i]
  exact ⟨rfl, vp_in_nI (by omega) (by decide)⟩
theorem laysErrands_r {a : Nat} {τ tm : Nat → Nat} {tn : Nat → Nat → Int64} (w : MW R S nx) (hK : Kn I κ) (ho : qok hb pb κ) (hhb : hb < 2 ^ 29) (hT : Tk I J τ tm tn) (ha : a < 4) (he : erk κ tm tn a) : Cal l G (k + 7) 0 0 mX12_laysErrands [.ref 43, .int (nI a)] (I, J, R, S, nx) (fun r μ' => r = .inl none ∧ ∃ I', μ' = (I', J, R, S, nx) ∧ Fr [49, 50, 51, 52, 53, 54] I I' ∧ laidE I' κ tm tn a (tm a)) := by
  have h1w := ho.1
  have h54 : κ 54 ≤ hb := ho.2.2.2.2.2.2.2.2.2.2.1
  have h4 := he.1
  refine Cal.of rfl (by decide +kernel) (by simp) (Nat.le_of_ble_eq_true rfl) rfl (sX12_laysErrands_0 ?_)
  refine upto (W := fun i I1 => hX12_laysErrands_2 l G k _ (nI a) (nI i) (I1, J, R, S, nx)) (P := fun i I1 => Fr [49, 50, 51, 52, 53, 54] I I1 ∧ laidE I1 κ tm tn a i) (tm a) ?_ ?_ (i := 0) (Nat.zero_le _) ⟨Fr.rf, fun i hi => absurd hi (Nat.not_lt_zero i)⟩
  · intro I1 ⟨hF, hL⟩
    have c1 : I1 69 (nI a).toNatClampNeg ≤ nI (tm a) := by rw [nI_clamp (by omega), hF 69 (by decide), (hT a ha).2.1]; exact nI_le (Nat.le_refl _) (by omega)
    refine sX12_laysErrands_2 (P1 := fun _ _ => True) w (vp_in_nI ha (by decide)) ?_ ?_ ?_ ?_ ?_ <;> intros <;> (first | exact absurd (by with_reducible assumption) c1 | exact absurd c1 (by with_reducible assumption) | skip)
    exact ⟨rfl, _, rfl, hF, hL⟩
  · intro i I1 hi ⟨hF, hL⟩ ih
    have c1 : ¬ I1 69 (nI a).toNatClampNeg ≤ nI i := by rw [nI_clamp (by omega), hF 69 (by decide), (hT a ha).2.1]; exact nI_ge hi (by omega)
    obtain ⟨t1, t2⟩ := told_n hT ha he hi
    obtain ⟨_, q1, q2, q3, q4⟩ := he.2 i hi
    have e1 : nI (tnN tn a i) / (1000 : Int32) = nI (tnN tn a i / 1000) := pk_div (d := 1000) (by omega) (by decide) (by decide)
    have e2 : nI (tnN tn a i) / (100 : Int32) - nI (tnN tn a i) / (100 : Int32) / (10 : Int32) * (10 : Int32) = nI (tnN tn a i / 100 % 10) := by
      rw [show nI (tnN tn a i) / (100 : Int32) = nI (tnN tn a i / 100) from pk_div (d := 100) (by omega) (by decide) (by decide)]
      exact pk_rem (d := 10) (by omega) (by decide) (by decide)
    refine sX12_laysErrands_2 (P1 := fun I I' => Fr [49, 50, 51, 52, 53, 54] I I' ∧ laidR I' κ i (tnN tn a i / 1000) (tnN tn a i / 100 % 10) (κ 54) 1024 0 ∧ (∀ j, (j < 1024 * i ∨ 1024 * i + 1024 ≤ j) → I' 53 j = I 53 j ∧ I' 54 j = I 54 j)) w (vp_in_nI ha (by decide)) ?_ ?_ ?_ ?_ ?_ <;> intros <;> (first | exact absurd (by with_reducible assumption) c1 | exact absurd c1 (by with_reducible assumption) | skip)
    · exact t2
    · exact t2
    · rw [t1, e1, e2]
      exact (laysHours_r (n := 1024) w (hK.fr hF (by decide)) ho hhb (by omega) (by omega) (by omega) (by omega)).mono (fun r μ' ⟨e, I', e2, h1, _, _, h4, h5⟩ => ⟨e, I', e2, h1, h4, h5⟩)
    · rename_i I2 h2
      rw [nI_1]
      refine ih I2 ⟨hF.tr h2.1 (by decide), fun j hj => ?_⟩
      by_cases c : j = i
      · rw [c]; exact h2.2.1
      · intro q hq
        have := hL j (by omega) q hq
        obtain ⟨z1, z2⟩ := h2.2.2 (1024 * j + q) (by omega)
        rw [z1, z2]; exact this
theorem doneBy_r {a i h : Nat} {τ tm : Nat → Nat} {tn : Nat → Nat → Int64} (w : MW R S nx) (hK : Kn I κ) (ho : qok hb pb κ) (hT : Tk I J τ tm tn) (ha : a < 4) (he : erk κ tm tn a) (hi : i < tm a) (hh : h ≤ 700) (hL : laidE I κ tm tn a (tm a)) : Cal l G (k + 2) 0 0 mX12_doneBy [.ref 43, .int (nI a), .int (nI i), .int (nI h)] (I, J, R, S, nx) (fun r μ' => r = .inl (some (.int (jP (qdo κ (tnN tn a i) h)))) ∧ ∃ I', μ' = (I', J, R, S, nx) ∧ I' = I) := by
  obtain ⟨t1, t2⟩ := told_n hT ha he hi
  obtain ⟨_, q1, q2, q3, q4⟩ := he.2 i hi
  have h4 := he.1
  have hm := qms_le (κ := κ) q3
  have e3 : nI (tnN tn a i) - nI (tnN tn a i) / (100 : Int32) * (100 : Int32) = nI (tnN tn a i % 100) := pk_rem (d := 100) (by omega) (by decide) (by decide)
  obtain ⟨o, ho2⟩ : ∃ o, qso (qfa κ (tnN tn a i / 1000) (tnN tn a i / 100 % 10)) h (qms κ (tnN tn a i % 100)) = o := ⟨_, rfl⟩
  have eq : qdo κ (tnN tn a i) h = o.map (fun t => t + tnN tn a i % 100) := by unfold qdo; rw [ho2]
  rw [eq]
  refine Cal.of rfl (by decide +kernel) (by simp) (Nat.le_of_ble_eq_true rfl) rfl (sX12_doneBy_0 (u1 := jP o) (P1 := fun I I' => I' = I) w t2 ?_ ?_ ?_)
  · rw [t1, e3, ← ho2]
    exact firstLawful_r w hK ho (by omega) (N := 1024) (by omega) (by omega) (by omega) (hL i hi).bar
  · intro I1 h1 hu
    subst h1
    rw [t1, e3]
    cases o with
    | none => exact absurd rfl hu
    | some t => exact ⟨by rw [show jP (some t) = nI t from rfl, nI_add]; rfl, _, rfl, rfl⟩
  · intro I1 h1 hu
    subst h1
    cases o with
    | none => exact ⟨rfl, _, rfl, rfl⟩
    | some t => exact absurd hu (jP_m1 (by have := qso_le ho2; omega))
def aErrands (κ τ tm : Nat → Nat) (tn : Nat → Nat → Int64) (x : Int32) : Nat × Int32 := if gE κ τ tm tn x = 0 then (0, jP (qers (fun i h => qdo κ (tnN tn (cN x) i) h) (tm (cN x)))) else (gE κ τ tm tn x, 0)
theorem Tk.fr {rs : List Nat} {I' : Nat → Nat → Int32} {τ tm : Nat → Nat} {tn : Nat → Nat → Int64} (h : Tk I J τ tm tn) (hF : Fr rs I I') (h1 : 68 ∉ rs ∧ 69 ∉ rs) : Tk I' J τ tm tn := by
  intro t ht
  rw [hF 68 h1.1, hF 69 h1.2]; exact h t ht
theorem Tk.up43 {f : Nat} {v : Int32} {τ tm : Nat → Nat} {tn : Nat → Nat → Int64} (h : Tk I J τ tm tn) : Tk (up2 I 43 f v) J τ tm tn := by
  intro t ht
  have := h t ht
  simpa [up2] using this
theorem qers_s (d : Nat → Nat → Option Nat) (i : Nat) : qers d (i + 1) = match qers d i with
    | none => none
    | some h => d i h := rfl
theorem qers_none {d : Nat → Nat → Option Nat} {i : Nat} (h : qers d i = none) : ∀ j, qers d (i + j) = none
  | 0 => h
  | j + 1 => by rw [← Nat.add_assoc, qers_s, qers_none h j]
theorem errands_r {x : Int32} {τ tm : Nat → Nat} {tn : Nat → Nat → Int64} (w : MW R S nx) (hK : Kn I κ) (ho : qok hb pb κ) (hhb : hb < 2 ^ 29) (hT : Tk I J τ tm tn) : Cal l G (k + 8) 0 0 mX12_errands [.ref 43, .int x] (I, J, R, S, nx) (fun r μ' => r = .inl (some (.int ((aErrands κ τ tm tn x).2))) ∧ ∃ I', μ' = (I', J, R, S, nx) ∧ PU (aErrands κ τ tm tn x).1 κ I I') := by
  have hle := gE_le κ τ tm tn x
  by_cases g : gE κ τ tm tn x = 0
  · rw [show aErrands κ τ tm tn x = (0, jP (qers (fun i h => qdo κ (tnN tn (cN x) i) h) (tm (cN x)))) by unfold aErrands; rw [if_pos g]]
    dsimp only
    obtain ⟨a, rfl, ha, ea, he⟩ := gE0 g
    rw [ea]
    obtain ⟨d, hd⟩ : ∃ d, (fun i h => qdo κ (tnN tn a i) h) = d := ⟨_, rfl⟩
    have hdi : ∀ i h, qdo κ (tnN tn a i) h = d i h := fun i h => congrFun (congrFun hd i) h
    have hdl : ∀ i h t, i < tm a → d i h = some t → t ≤ h + 224 := fun i h t hi e => by rw [← hdi] at e; exact (qdo_le (he.2 i hi).2.2.2 e).2
    rw [hd]
    have h4 := he.1
    have c0 : (nI 0 : Int32) ≤ 0 := by decide
    refine Cal.of rfl (by decide +kernel) (by simp) (Nat.le_of_ble_eq_true rfl) rfl (sX12_errands_0 (u1 := nI 0) (P1 := fun I I' => I' = I) (P2 := fun I I' => Fr [49, 50, 51, 52, 53, 54] I I' ∧ laidE I' κ tm tn a (tm a)) w ?_ ?_ ?_ ?_) <;> intros <;> (first | exact absurd (by with_reducible assumption) c0 | exact absurd c0 (by with_reducible assumption) | skip)
    · have := errandsFault_r (l := l) (G := G) (k := k + 4) (x := nI a) w hK ho hT; rw [g] at this; exact this
    · rename_i I1 h1 _; subst h1; exact laysErrands_r w hK.up4 ho hhb hT.up43 ha he
    · rename_i I1 h1 _ I2 h2
      subst h1
      have hK2 := hK.up4.fr h2.1 (by decide)
      have hT2 : Tk I2 J τ tm tn := hT.up43.fr h2.1 (by decide)
      refine upto (W := fun i (o : Option Nat) => hX12_errands_27 l G k _ (nI a) (jP o) (nI i) (I2, J, R, S, nx)) (P := fun i o => o = qers d i) (tm a) ?_ ?_ (i := 0) (s := some 0) (Nat.zero_le _) rfl
      · intro o ho2
        have c1 : I2 69 (nI a).toNatClampNeg ≤ nI (tm a) := by rw [nI_clamp (by omega), (hT2 a ha).2.1]; exact nI_le (Nat.le_refl _) (by omega)
        refine sX12_errands_27 (u1 := 0) (P1 := fun _ _ => True) w (vp_in_nI ha (by decide)) ?_ ?_ ?_ ?_ <;> intros <;> (first | exact absurd (by with_reducible assumption) c1 | exact absurd c1 (by with_reducible assumption) | skip)
        exact ⟨by rw [ho2], _, rfl, PU.ok rfl h2.1 (by decide) (by decide) hK2⟩
      · intro i o hi ho2 ih
        have c1 : ¬ I2 69 (nI a).toNatClampNeg ≤ nI i := by rw [nI_clamp (by omega), (hT2 a ha).2.1]; exact nI_ge hi (by omega)
        cases o with
        | none =>
          have c2 : jP none = (-1 : Int32) := rfl
          refine sX12_errands_27 (u1 := 0) (P1 := fun _ _ => True) w (vp_in_nI ha (by decide)) ?_ ?_ ?_ ?_ <;> intros <;> (first | exact absurd (by with_reducible assumption) c1 | exact absurd c1 (by with_reducible assumption) | exact absurd (by with_reducible assumption) c2 | exact absurd c2 (by with_reducible assumption) | skip)
          have := qers_none ho2.symm (tm a - i)
          rw [show i + (tm a - i) = tm a by omega] at this
          exact ⟨by rw [this], _, rfl, PU.ok rfl h2.1 (by decide) (by decide) hK2⟩
        | some h =>
          have hl := qers_le hdl i h (by omega) ho2.symm
          have c2 : ¬ jP (some h) = (-1 : Int32) := jP_m1 (by omega)
          refine sX12_errands_27 (u1 := jP (d i h)) (P1 := fun I I' => I' = I) w (vp_in_nI ha (by decide)) ?_ ?_ ?_ ?_ <;> intros <;> (first | exact absurd (by with_reducible assumption) c1 | exact absurd c1 (by with_reducible assumption) | exact absurd (by with_reducible assumption) c2 | exact absurd c2 (by with_reducible assumption) | skip)
          · rw [← hdi]; exact doneBy_r w hK2 ho hT2 ha he hi (by omega) h2.2
          · rename_i I3 h3
            subst h3
            rw [nI_1]
            exact ih (d i h) (by rw [qers_s, ← ho2])
  · rw [show aErrands κ τ tm tn x = (gE κ τ tm tn x, 0) by unfold aErrands; rw [if_neg g]]
    have c0 : ¬ (nI (gE κ τ tm tn x) : Int32) ≤ 0 := nI_nle (by omega) (by omega)
    refine Cal.of rfl (by decide +kernel) (by simp) (Nat.le_of_ble_eq_true rfl) rfl (sX12_errands_0 (u1 := nI (gE κ τ tm tn x)) (P1 := fun I I' => I' = I) (P2 := fun I I' => True) w ?_ ?_ ?_ ?_) <;> intros <;> (first | exact absurd (by with_reducible assumption) c0 | exact absurd c0 (by with_reducible assumption) | skip)
    · exact errandsFault_r w hK ho hT
    · rename_i I1 h1 _; subst h1; exact ⟨rfl, _, rfl, PU.fail hK rfl⟩
end A
