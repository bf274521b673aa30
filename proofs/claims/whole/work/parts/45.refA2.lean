/-! the reference: what was fined, the breaths it tells of -/
/-- rows and fields that may have changed -/
def Fz (rs fs : List Nat) (I I' : Nat → Nat → Int32) : Prop := (∀ a, a ≠ 43 → a ∉ rs → I' a = I a) ∧ ∀ f, f ∉ fs → I' 43 f = I 43 f
def qss (κ tm : Nat → Nat) (tn : Nat → Nat → Int64) (a : Nat) : Bool := decide (1 ≤ tm a ∧ tm a ≤ 24) && (List.range (tm a)).all (fun i => decide (-1 ≤ (tn a i).toInt ∧ (tn a i).toInt ≤ if i < κ 54 then 792 else -1))
theorem qss_iff {κ tm : Nat → Nat} {tn : Nat → Nat → Int64} {a : Nat} : qss κ tm tn a = true ↔ (1 ≤ tm a ∧ tm a ≤ 24) ∧ ∀ i, i < tm a → (-1 ≤ (tn a i).toInt ∧ (tn a i).toInt ≤ if i < κ 54 then 792 else -1) := by
  unfold qss; simp
def gS (κ τ tm : Nat → Nat) (tn : Nat → Nat → Int64) (x y z : Int32) : Nat := if gR x 0 3 ∧ gL z (κ 1) then (if τ (cN x) = 0 then 2 else if gR y 0 9 ∧ qss κ tm tn (cN x) = true then 0 else 3) else 1
theorem gS_le (κ τ tm : Nat → Nat) (tn : Nat → Nat → Int64) (x y z : Int32) : gS κ τ tm tn x y z ≤ 3 := by
  unfold gS
  split
  · split
    · omega
    · split <;> omega
  · omega
/-- by which it fits what was fined -/
def qfit (κ : Nat → Nat) (f : Nat → Int) (kd wn n : Nat) (d : Int) : Bool := (List.range n).all (fun i => decide (f i = -1) || decide (f i = (qfin κ (qcd κ kd wn (κ 54 - 1 - i) d) : Int)))
theorem qfit_iff {κ : Nat → Nat} {f : Nat → Int} {kd wn n : Nat} {d : Int} : qfit κ f kd wn n d = true ↔ ∀ i, i < n → (f i = -1 ∨ f i = (qfin κ (qcd κ kd wn (κ 54 - 1 - i) d) : Int)) := by
  unfold qfit; simp
def qbr (p : Int → Bool) : Nat → List Int
  | 0 => []
  | i + 1 => if p ((i : Int) - 20) then qbr p i ++ [(i : Int) - 20] else qbr p i
theorem qbr_len (p : Int → Bool) : ∀ i, (qbr p i).length ≤ i
  | 0 => Nat.le_refl _
  | i + 1 => by
    have := qbr_len p i
    unfold qbr; split
    · rw [List.length_append]; simp; omega
    · omega
theorem qbr_in (p : Int → Bool) : ∀ i v, v ∈ qbr p i → -20 ≤ v ∧ v < (i : Int) - 20
  | 0, v, h => by cases h
  | i + 1, v, h => by
    unfold qbr at h
    split at h
    · rcases List.mem_append.mp h with h | h
      · have := qbr_in p i v h; omega
      · have : v = (i : Int) - 20 := by simpa using h
        omega
    · have := qbr_in p i v h; omega
def LB (I : Nat → Nat → Int32) (bs : List Int) : Prop := I 43 38 = nI bs.length ∧ ∀ i v, bs[i]? = some v → I 66 i = zI v
/-- of these the greatest number of one and the same -/
def qml (g : Nat → Nat) : Nat → Nat
  | 0 => 0
  | i + 1 => max (qml g i) (fa_cnt (fun j => decide (g j = g i)) (i + 1))
theorem qml_le (g : Nat → Nat) : ∀ i, qml g i ≤ i
  | 0 => Nat.le_refl _
  | i + 1 => by
    have := qml_le g i
    have := fa_cnt_le (fun j => decide (g j = g i)) (i + 1)
    unfold qml; omega
/-- the first hour of the least -/
def qlk (m : Nat → Nat) : Nat → Option Nat × Nat
  | 0 => (none, 536870912)
  | i + 1 => if m i < (qlk m i).2 then (some i, m i) else qlk m i
section A
variable {l : Launch} {G : Gh} {k : Nat} {I : Nat → Nat → Int32} {J : Nat → Nat → Int64} {R : Nat → Nat → Option Nat} {S : Nat → Nat × Nat} {nx : Nat} {κ : Nat → Nat} {hb pb : Nat}
theorem Fz.rf {rs fs : List Nat} : Fz rs fs I I := ⟨fun _ _ _ => rfl, fun _ _ => rfl⟩
theorem Fz.tr {r1 r2 r3 f1 f2 f3 : List Nat} {I1 I2 : Nat → Nat → Int32} (h : Fz r1 f1 I I1) (h2 : Fz r2 f2 I1 I2) (hr : ∀ a ∈ r1 ++ r2, a ∈ r3) (hf : ∀ a ∈ f1 ++ f2, a ∈ f3) : Fz r3 f3 I I2 :=
  ⟨fun a x y => (h2.1 a x (fun g => y (hr a (List.mem_append.mpr (Or.inr g))))).trans (h.1 a x (fun g => y (hr a (List.mem_append.mpr (Or.inl g))))), fun f x => (h2.2 f (fun g => x (hf f (List.mem_append.mpr (Or.inr g))))).trans (h.2 f (fun g => x (hf f (List.mem_append.mpr (Or.inl g)))))⟩
theorem Fz.t {rs fs : List Nat} {I1 I2 : Nat → Nat → Int32} (h : Fz rs fs I I1) (h2 : Fz rs fs I1 I2) : Fz rs fs I I2 := ⟨fun a x y => (h2.1 a x y).trans (h.1 a x y), fun f x => (h2.2 f x).trans (h.2 f x)⟩
theorem Fz.wk {r1 r2 f1 f2 : List Nat} {I1 : Nat → Nat → Int32} (h : Fz r1 f1 I I1) (hr : ∀ a ∈ r1, a ∈ r2) (hf : ∀ a ∈ f1, a ∈ f2) : Fz r2 f2 I I1 := ⟨fun a x y => h.1 a x (fun g => y (hr a g)), fun f x => h.2 f (fun g => x (hf f g))⟩
theorem Fz.up {rs fs : List Nat} {I1 : Nat → Nat → Int32} {a i : Nat} {v : Int32} (h : Fz rs fs I I1) (ha : a ∈ rs) (h4 : a ≠ 43) : Fz rs fs I (up2 I1 a i v) := by
  refine ⟨fun b x y => ?_, fun f hf => ?_⟩
  · have : b ≠ a := fun e => y (by rw [e]; exact ha)
    rw [← h.1 b x y]; funext j; simp [up2, this]
  · rw [← h.2 f hf]; simp [up2, Ne.symm h4]
theorem Fz.uf {rs fs : List Nat} {I1 : Nat → Nat → Int32} {f : Nat} {v : Int32} (h : Fz rs fs I I1) (hf : f ∈ fs) : Fz rs fs I (up2 I1 43 f v) := by
  refine ⟨fun b x y => ?_, fun g hg => ?_⟩
  · rw [← h.1 b x y]; funext j; simp [up2, x]
  · have : g ≠ f := fun e => hg (by rw [e]; exact hf)
    rw [← h.2 g hg]; simp [up2, this]
theorem Fr.z {r1 rs fs : List Nat} {I1 I2 : Nat → Nat → Int32} (h2 : Fr r1 I1 I2) (h : Fz rs fs I I1) (hr : ∀ a ∈ r1, a ∈ rs) (h4 : 43 ∉ r1) : Fz rs fs I I2 :=
  ⟨fun a x y => (h2 a (fun g => y (hr a g))).trans (h.1 a x y), fun f x => (by rw [h2 43 h4]; exact h.2 f x)⟩
theorem Fz.K {rs fs : List Nat} {I' : Nat → Nat → Int32} (h : Fz rs fs I I') (hK : Kn I κ) (h1 : 44 ∉ rs) : Kn I' κ := fun i hi => by rw [h.1 44 (by decide) h1]; exact hK i hi
theorem Fz.T {rs fs : List Nat} {I' : Nat → Nat → Int32} {τ tm : Nat → Nat} {tn : Nat → Nat → Int64} (h : Fz rs fs I I') (hT : Tk I J τ tm tn) (h1 : 68 ∉ rs ∧ 69 ∉ rs) : Tk I' J τ tm tn := by
  intro t ht
  rw [h.1 68 (by decide) h1.1, h.1 69 (by decide) h1.2]; exact hT t ht
theorem PU.z {v : Int32} {I' : Nat → Nat → Int32} {rs fs : List Nat} {κ' : Nat → Nat} (hv : v = 0) (h : Fz rs fs (up2 I 43 4 v) I') (hr : ∀ a, a ∈ rs → a ∈ scr ∨ a ∈ [44]) (hf : 4 ∉ fs ∧ 6 ∉ fs ∧ 14 ∉ fs ∧ 15 ∉ fs) (hK : Kn I' κ') : PU 0 κ' I I' := by
  refine ⟨⟨fun a x y z => ?_, fun f hx => ?_⟩, ?_, hK⟩
  · have : a ∉ rs := fun g => (hr a g).elim x y
    rw [h.1 a z this]; funext j; simp [up2, z]
  · have h1 : f ∉ fs := hx.elim (fun e => by rw [e]; exact hf.2.1) (fun h => h.elim (fun e => by rw [e]; exact hf.2.2.1) (fun e => by rw [e]; exact hf.2.2.2))
    have h2 : f ≠ 4 := by omega
    rw [h.2 f h1]; simp [up2, h2]
  · rw [h.2 4 hf.1, hv]; simp [up2]; rfl
theorem nI_ne_m1 {n : Nat} (h : n < 2 ^ 31) : ¬ nI n = (-1 : Int32) := by rw [fa_eq, nI_toInt h, show (-1 : Int32).toInt = -1 by decide]; omega
theorem seenFault_r {x y z : Int32} {τ tm : Nat → Nat} {tn : Nat → Nat → Int64} (w : MW R S nx) (hK : Kn I κ) (ho : qok hb pb κ) (hhb : hb < 2 ^ 29) (hT : Tk I J τ tm tn) : Cal l G (k + 2) 0 0 mX12_seenFault [.ref 43, .int x, .int y, .int z] (I, J, R, S, nx) (fun r μ' => r = .inl (some (.int (nI (gS κ τ tm tn x y z)))) ∧ ∃ I', μ' = (I', J, R, S, nx) ∧ I' = I) := by
  have e : (v_X12_isTray x = 0) = ¬ gR x 0 3 := gR0 (by decide) (by decide)
  have ek : (v_X12_isKind y = 0) = ¬ gR y 0 9 := gR0 (by decide) (by decide)
  by_cases g1 : gR x 0 3
  · have d1 : ¬ v_X12_isTray x = 0 := by rw [e]; exact not_not_intro g1
    by_cases g2 : gL z (κ 1)
    · have d2 := cWt hK ho g2
      obtain ⟨a, rfl, _, ha, ea⟩ := g1.n (by omega)
      obtain ⟨h68, h69, hm30, hτ, hJ⟩ := hT a (by omega)
      have e68 : I 68 (nI a).toNatClampNeg = if τ a = 0 then -1 else nI (τ a - 1) := by rw [nI_clamp (by omega)]; exact h68
      have e69 : I 69 (nI a).toNatClampNeg = nI (tm a) := by rw [nI_clamp (by omega)]; exact h69
      by_cases g3 : τ a = 0
      · rw [show gS κ τ tm tn (nI a) y z = 2 by unfold gS; rw [if_pos ⟨g1, g2⟩, ea, if_pos g3]]
        have d3 : I 68 (nI a).toNatClampNeg = (-1 : Int32) := by rw [e68, if_pos g3]
        refine Cal.of rfl (by decide +kernel) (by simp) (Nat.le_of_ble_eq_true rfl) rfl (sX12_seenFault_0 w ?_ ?_ ?_ ?_ ?_ ?_ ?_ ?_) <;> intros <;> (first | exact absurd (by with_reducible assumption) d1 | exact absurd d1 (by with_reducible assumption) | exact absurd (by with_reducible assumption) d2 | exact absurd d2 (by with_reducible assumption) | exact absurd (by with_reducible assumption) d3 | exact absurd d3 (by with_reducible assumption) | skip)
        · exact vp_in_nI (by omega) (by decide)
        · exact ⟨rfl, _, rfl, rfl⟩
      · have d3 : ¬ I 68 (nI a).toNatClampNeg = (-1 : Int32) := by rw [e68, if_neg g3]; exact nI_ne_m1 (by omega)
        rw [show gS κ τ tm tn (nI a) y z = if gR y 0 9 ∧ qss κ tm tn a = true then 0 else 3 by unfold gS; rw [if_pos ⟨g1, g2⟩, ea, if_neg g3]]
        have no : ∀ i, i ≤ tm a → ¬ (gR y 0 9 ∧ qss κ tm tn a = true) → hX12_seenFault_64 l G k (fun r μ' => r = .inl (some (.int (nI (if gR y 0 9 ∧ qss κ tm tn a = true then 0 else 3)))) ∧ ∃ I', μ' = (I', J, R, S, nx) ∧ I' = I) (nI a) (0 : Int32) (nI i) (I, J, R, S, nx) := by
          intro i hi hq
          have z0 : (0 : Int32) = 0 := rfl
          rw [if_neg hq]
          refine sX12_seenFault_64 w (vp_in_nI (by omega) (by decide)) ?_ ?_ ?_ ?_ ?_ ?_ ?_ <;> intros <;> (first | exact absurd (by with_reducible assumption) z0 | exact absurd z0 (by with_reducible assumption) | skip)
          · exact ⟨rfl, _, rfl, rfl⟩
          · exact ⟨rfl, _, rfl, rfl⟩
        have w24 : (v_X12_within (Int32.toInt64 (I 69 (nI a).toNatClampNeg)) (1 : Int64) (24 : Int64) = 0) = ¬ (1 ≤ tm a ∧ tm a ≤ 24) := by
          rw [e69, show (v_X12_within (Int32.toInt64 (nI (tm a))) (1 : Int64) (24 : Int64) = 0) = ¬ gR (nI (tm a)) 1 24 from gR0 (by decide) (by decide)]
          unfold gR; rw [nI_toInt (by omega)]; exact propext (by omega)
        by_cases g4 : gR y 0 9
        · have d4 : ¬ v_X12_isKind y = 0 := by rw [ek]; exact not_not_intro g4
          by_cases g5 : 1 ≤ tm a ∧ tm a ≤ 24
          · have d5 : ¬ v_X12_within (Int32.toInt64 (I 69 (nI a).toNatClampNeg)) (1 : Int64) (24 : Int64) = 0 := by rw [w24]; exact not_not_intro g5
            refine Cal.of rfl (by decide +kernel) (by simp) (Nat.le_of_ble_eq_true rfl) rfl (sX12_seenFault_0 w ?_ ?_ ?_ ?_ ?_ ?_ ?_ ?_) <;> intros <;> (first | exact absurd (by with_reducible assumption) d1 | exact absurd d1 (by with_reducible assumption) | exact absurd (by with_reducible assumption) d2 | exact absurd d2 (by with_reducible assumption) | exact absurd (by with_reducible assumption) d3 | exact absurd d3 (by with_reducible assumption) | exact absurd (by with_reducible assumption) d4 | exact absurd d4 (by with_reducible assumption) | exact absurd (by with_reducible assumption) d5 | exact absurd d5 (by with_reducible assumption) | skip)
            · exact vp_in_nI (by omega) (by decide)
            · exact vp_in_nI (by omega) (by decide)
            · refine upto (σ := Unit) (W := fun i _ => hX12_seenFault_64 l G k _ (nI a) (1 : Int32) (nI i) (I, J, R, S, nx)) (P := fun i _ => ∀ j, j < i → (-1 ≤ (tn a j).toInt ∧ (tn a j).toInt ≤ if j < κ 54 then 792 else -1)) (tm a) ?_ ?_ (i := 0) (s := ()) (Nat.zero_le _) (fun j hj => absurd hj (Nat.not_lt_zero j))
              · intro _ h
                have c1 : I 69 (nI a).toNatClampNeg ≤ nI (tm a) := by rw [e69]; exact nI_le (Nat.le_refl _) (by omega)
                have c2 : ¬ (1 : Int32) = 0 := by decide
                refine sX12_seenFault_64 w (vp_in_nI (by omega) (by decide)) ?_ ?_ ?_ ?_ ?_ ?_ ?_ <;> intros <;> (first | exact absurd (by with_reducible assumption) c1 | exact absurd c1 (by with_reducible assumption) | exact absurd (by with_reducible assumption) c2 | exact absurd c2 (by with_reducible assumption) | skip)
                rw [if_pos ⟨g4, qss_iff.mpr ⟨g5, h⟩⟩]
                exact ⟨rfl, _, rfl, rfl⟩
              · intro i _ hi h ih
                have c1 : ¬ I 69 (nI a).toNatClampNeg ≤ nI i := by rw [e69]; exact nI_ge hi (by omega)
                have c2 : ¬ (1 : Int32) = 0 := by decide
                have h54 : κ 54 ≤ hb := ho.2.2.2.2.2.2.2.2.2.2.1
                have e30 : (30 : Int32) * nI a + nI i = nI (30 * a + i) := by rw [show (30 : Int32) = nI 30 from rfl, pk_mul, nI_add]
                have eJ : J 70 ((30 : Int32) * nI a + nI i).toNatClampNeg = tn a i := by rw [e30, nI_clamp (by omega)]; exact hJ i (by omega)
                have e54 : (I 44 54 ≤ nI i) = (κ 54 ≤ i) := by rw [hK.h (by decide)]; exact propext (nI_leI (by omega) (by omega))
                have step : ∀ u : Int64, ((-1 ≤ (tn a i).toInt ∧ (tn a i).toInt ≤ u.toInt) ↔ (-1 ≤ (tn a i).toInt ∧ (tn a i).toInt ≤ if i < κ 54 then 792 else -1)) → hX12_seenFault_64 l G k (fun r μ' => r = .inl (some (.int (nI (if gR y 0 9 ∧ qss κ tm tn a = true then 0 else 3)))) ∧ ∃ I', μ' = (I', J, R, S, nx) ∧ I' = I) (nI a) (v_X12_within (J 70 ((30 : Int32) * nI a + nI i).toNatClampNeg) (-1 : Int64) u) (nI i + (1 : Int32)) (I, J, R, S, nx) := by
                  intro u hu
                  rw [eJ, nI_1, wi_t, show ((-1 : Int64).toInt) = -1 from rfl]
                  by_cases c : -1 ≤ (tn a i).toInt ∧ (tn a i).toInt ≤ u.toInt
                  · rw [if_pos c]
                    refine ih () (fun j hj => ?_)
                    by_cases cj : j = i
                    · rw [cj]; exact hu.mp c
                    · exact h j (by omega)
                  · rw [if_neg c]
                    exact no (i + 1) (by omega) (fun hq => c (hu.mpr ((qss_iff.mp hq.2).2 i hi)))
                refine sX12_seenFault_64 w (vp_in_nI (by omega) (by decide)) ?_ ?_ ?_ ?_ ?_ ?_ ?_ <;> intros <;> (first | exact absurd (by with_reducible assumption) c1 | exact absurd c1 (by with_reducible assumption) | exact absurd (by with_reducible assumption) c2 | exact absurd c2 (by with_reducible assumption) | skip)
                · rw [e30]; exact vp_in_nI (by omega) (by decide)
                · rename_i h1
                  rw [e54] at h1
                  exact step (-1 : Int64) (by rw [if_neg (by omega)]; exact Iff.rfl)
                · rename_i h1
                  rw [e54] at h1
                  exact step (792 : Int64) (by rw [if_pos (by omega)]; exact Iff.rfl)
          · have d5 : v_X12_within (Int32.toInt64 (I 69 (nI a).toNatClampNeg)) (1 : Int64) (24 : Int64) = 0 := by rw [w24]; exact g5
            refine Cal.of rfl (by decide +kernel) (by simp) (Nat.le_of_ble_eq_true rfl) rfl (sX12_seenFault_0 w ?_ ?_ ?_ ?_ ?_ ?_ ?_ ?_) <;> intros <;> (first | exact absurd (by with_reducible assumption) d1 | exact absurd d1 (by with_reducible assumption) | exact absurd (by with_reducible assumption) d2 | exact absurd d2 (by with_reducible assumption) | exact absurd (by with_reducible assumption) d3 | exact absurd d3 (by with_reducible assumption) | exact absurd (by with_reducible assumption) d4 | exact absurd d4 (by with_reducible assumption) | exact absurd (by with_reducible assumption) d5 | exact absurd d5 (by with_reducible assumption) | skip)
            · exact vp_in_nI (by omega) (by decide)
            · exact vp_in_nI (by omega) (by decide)
            · exact no 0 (Nat.zero_le _) (fun hq => g5 (qss_iff.mp hq.2).1)
        · have d4 : v_X12_isKind y = 0 := by rw [ek]; exact g4
          refine Cal.of rfl (by decide +kernel) (by simp) (Nat.le_of_ble_eq_true rfl) rfl (sX12_seenFault_0 w ?_ ?_ ?_ ?_ ?_ ?_ ?_ ?_) <;> intros <;> (first | exact absurd (by with_reducible assumption) d1 | exact absurd d1 (by with_reducible assumption) | exact absurd (by with_reducible assumption) d2 | exact absurd d2 (by with_reducible assumption) | exact absurd (by with_reducible assumption) d3 | exact absurd d3 (by with_reducible assumption) | exact absurd (by with_reducible assumption) d4 | exact absurd d4 (by with_reducible assumption) | skip)
          · exact vp_in_nI (by omega) (by decide)
          · exact no 0 (Nat.zero_le _) (fun hq => g4 hq.1)
    · have d2 := cWf hK ho g2
      rw [show gS κ τ tm tn x y z = 1 by unfold gS; rw [if_neg (fun h => g2 h.2)]]
      refine Cal.of rfl (by decide +kernel) (by simp) (Nat.le_of_ble_eq_true rfl) rfl (sX12_seenFault_0 w ?_ ?_ ?_ ?_ ?_ ?_ ?_ ?_) <;> intros <;> (first | exact absurd (by with_reducible assumption) d1 | exact absurd d1 (by with_reducible assumption) | exact absurd (by with_reducible assumption) d2 | exact absurd d2 (by with_reducible assumption) | skip)
      exact ⟨rfl, _, rfl, rfl⟩
  · have d1 : v_X12_isTray x = 0 := by rw [e]; exact g1
    rw [show gS κ τ tm tn x y z = 1 by unfold gS; rw [if_neg (fun h => g1 h.1)]]
    refine Cal.of rfl (by decide +kernel) (by simp) (Nat.le_of_ble_eq_true rfl) rfl (sX12_seenFault_0 w ?_ ?_ ?_ ?_ ?_ ?_ ?_ ?_) <;> intros <;> (first | exact absurd (by with_reducible assumption) d1 | exact absurd d1 (by with_reducible assumption) | skip)
    exact ⟨rfl, _, rfl, rfl⟩
theorem gS0 {x y z : Int32} {τ tm : Nat → Nat} {tn : Nat → Nat → Int64} (ho : qok hb pb κ) (h : gS κ τ tm tn x y z = 0) : ∃ a b c, x = nI a ∧ y = nI b ∧ z = nI c ∧ a < 4 ∧ b ≤ 9 ∧ c < κ 1 ∧ cN x = a ∧ cN y = b ∧ cN z = c ∧ (1 ≤ tm a ∧ tm a ≤ 24) ∧ ∀ i, i < tm a → (-1 ≤ (tn a i).toInt ∧ (tn a i).toInt ≤ if i < κ 54 then 792 else -1) := by
  have h1 := ho.1
  unfold gS at h
  split at h
  · rename_i g
    split at h
    · cases h
    · split at h
      · rename_i g2
        obtain ⟨a, rfl, _, ha, ea⟩ := g.1.n (by omega)
        obtain ⟨b, rfl, _, hb1, eb⟩ := g2.1.n (by omega)
        obtain ⟨c, rfl, hc, ec⟩ := g.2.n (by omega)
        rw [ea] at g2
        obtain ⟨q1, q2⟩ := qss_iff.mp g2.2
        exact ⟨a, b, c, rfl, rfl, rfl, by omega, hb1, hc, ea, eb, ec, q1, q2⟩
      · cases h
  · cases h
theorem LB.fz {rs fs : List Nat} {I' : Nat → Nat → Int32} {bs : List Int} (h : LB I bs) (hF : Fz rs fs I I') (h1 : 66 ∉ rs) (h2 : 38 ∉ fs) : LB I' bs := by
  refine ⟨by rw [hF.2 38 h2]; exact h.1, fun i v hv => ?_⟩
  rw [hF.1 66 (by decide) h1]; exact h.2 i v hv
/-- the hours that were told of -/
def qsn (κ tm : Nat → Nat) (a : Nat) : Nat := min (tm a) (κ 54)
def qbs (κ tm : Nat → Nat) (tn : Nat → Nat → Int64) (a kd wn : Nat) : List Int := qbr (qfit κ (tf tn a) kd wn (qsn κ tm a)) 41
theorem laysBreaths_r {a kd wn : Nat} {τ tm : Nat → Nat} {tn : Nat → Nat → Int64} (w : MW R S nx) (hK : Kn I κ) (ho : qok hb pb κ) (hhb : hb < 2 ^ 29) (hT : Tk I J τ tm tn) (ha : a < 4) (hkd : kd ≤ 9) (hwn : wn < κ 1) : Cal l G (k + 6) 0 0 mX12_laysBreaths [.ref 43, .int (nI a), .int (nI kd), .int (nI wn)] (I, J, R, S, nx) (fun r μ' => r = .inl none ∧ ∃ I', μ' = (I', J, R, S, nx) ∧ Fz [49, 50, 51, 52, 53, 54, 66] [38] I I' ∧ LB I' (qbs κ tm tn a kd wn) ∧ laidC I' κ wn (qall κ)) := by
  have h1w := ho.1
  have h54 : κ 54 ≤ hb := ho.2.2.2.2.2.2.2.2.2.2.1
  have hal := qall_lt ho
  obtain ⟨_, h69, hm30, _, hJ⟩ := hT a ha
  unfold qbs
  obtain ⟨n, hn⟩ : ∃ n, qsn κ tm a = n := ⟨_, rfl⟩
  have hn1 : n ≤ tm a ∧ n ≤ κ 54 := by rw [← hn]; unfold qsn; omega
  rw [hn]
  obtain ⟨p, hp⟩ : ∃ p, qfit κ (tf tn a) kd wn n = p := ⟨_, rfl⟩
  rw [hp]
  have en : ∀ I1 : Nat → Nat → Int32, I1 44 54 = nI (κ 54) → I1 69 (nI a).toNatClampNeg = nI (tm a) → (if I1 44 54 < I1 69 (nI a).toNatClampNeg then I1 44 54 else I1 69 (nI a).toNatClampNeg) = nI n := by
    intro I1 e1 e2
    rw [e1, e2]
    have e3 : (nI (κ 54) < nI (tm a)) = (κ 54 < tm a) := propext (nI_ltI (by omega) (by omega))
    unfold qsn at hn
    by_cases c : κ 54 < tm a
    · rw [if_pos (by rw [e3]; exact c)]; congr 1; omega
    · rw [if_neg (by rw [e3]; exact c)]; congr 1; omega
  have e1 : ∀ I1, Fr [49, 50, 51] I I1 → (if I1 44 54 < I1 69 (nI a).toNatClampNeg then I1 44 54 else I1 69 (nI a).toNatClampNeg) = nI n := fun I1 h1 => en I1 (by rw [h1 44 (by decide)]; exact hK.h (by decide)) (by rw [h1 69 (by decide), nI_clamp (by omega)]; exact h69)
  refine Cal.of rfl (by decide +kernel) (by simp) (Nat.le_of_ble_eq_true rfl) rfl (sX12_laysBreaths_0 (P1 := fun I I' => Fr [49, 50, 51] I I' ∧ laidC I' κ wn (qall κ)) (P2 := fun I I' => Fr [49, 50, 52] I I' ∧ laidD I' κ wn (κ 54 - n) n) w ?_ ?_ ?_ ?_)
  · rw [all_n hK ho]
    exact laysCodes_r w hK ho (by omega) (by omega)
  · intro _ _; exact vp_in_nI ha (by decide)
  · intro I1 h1
    rw [e1 I1 h1.1, h1.1 44 (by decide), hK.h (by decide), pk_sub hn1.2]
    exact laysDegrees_r w (hK.fr h1.1 (by decide)) ho hhb (by omega) (by omega) (by omega)
  · intro I1 h1 I2 h2
    rw [e1 I1 h1.1]
    have hF2 : Fz [49, 50, 51, 52, 53, 54, 66] [38] I (up2 I2 43 38 0) := (h2.1.z (h1.1.z Fz.rf (by decide) (by decide)) (by decide) (by decide)).uf (by decide)
    have hC2 : laidC I2 κ wn (qall κ) := fun hr dg x y => by rw [h2.1 51 (by decide)]; exact h1.2 hr dg x y
    refine upto (W := fun i I3 => hX12_laysBreaths_53 l G k _ (nI a) (nI kd) (nI n) (zI ((i : Int) - 20)) (I3, J, R, S, nx)) (P := fun i I3 => Fz [49, 50, 51, 52, 53, 54, 66] [38] I I3 ∧ LB I3 (qbr p i) ∧ laidC I3 κ wn (qall κ) ∧ laidD I3 κ wn (κ 54 - n) n) 41 ?_ ?_ (i := 0) (Nat.zero_le _) ⟨hF2, ⟨by simp [up2]; rfl, fun i v hv => by cases hv⟩, fun hr dg x y => by have := hC2 hr dg x y; simpa [up2] using this, fun j hj => by have := h2.2 j hj; simpa [up2] using this⟩
    · intro I3 ⟨hF, hL, hC, hD⟩
      have c1 : (20 : Int32) < zI (((41 : Nat) : Int) - 20) := by decide
      refine sX12_laysBreaths_53 (P1 := fun _ _ => True) w ?_ ?_ ?_ <;> intros <;> (first | exact absurd (by with_reducible assumption) c1 | exact absurd c1 (by with_reducible assumption) | skip)
      exact ⟨rfl, _, rfl, hF, hL, hC⟩
    · intro i I3 hi ⟨hF, hL, hC, hD⟩ ih
      have c1 : ¬ (20 : Int32) < zI ((i : Int) - 20) := by rw [fa_lt, zI_toInt (by omega), show (20 : Int32).toInt = 20 by decide]; omega
      have hK3 := hF.K hK (by decide)
      have hT3 : Tk I3 J τ tm tn := hF.T hT (by decide)
      refine sX12_laysBreaths_53 (P1 := fun I I' => Fr [53, 54] I I' ∧ laidR I' κ 0 kd wn (κ 54 - n) n ((i : Int) - 20)) w ?_ ?_ ?_ <;> intros <;> (first | exact absurd (by with_reducible assumption) c1 | exact absurd c1 (by with_reducible assumption) | skip)
      · rw [hK3.h (by decide), pk_sub hn1.2]
        exact (laysRow_r (row := 0) w hK3 ho hhb (by omega) (by omega) (by omega) (by omega) (by omega) hC hD).mono (fun r μ' ⟨e, I', e2, h1, h4, h5⟩ => ⟨e, I', e2, h1, h4⟩)
      · rename_i I4 h4
        have hF4 : Fz [49, 50, 51, 52, 53, 54, 66] [38] I I4 := h4.1.z hF (by decide) (by decide)
        have hL4 : LB I4 (qbr p i) := hL.fz (rs := [53, 54]) (fs := []) (h4.1.z Fz.rf (by decide) (by decide)) (by decide) (by decide)
        have hC4 : laidC I4 κ wn (qall κ) := fun hr dg x y => by rw [h4.1 51 (by decide)]; exact hC hr dg x y
        have hD4 : laidD I4 κ wn (κ 54 - n) n := fun j hj => by rw [h4.1 52 (by decide)]; exact hD j hj
        have ez : zI ((i : Int) - 20) + (1 : Int32) = zI (((i + 1 : Nat) : Int) - 20) := by
          rw [show (1 : Int32) = zI 1 from rfl, zI_add]; congr 1; omega
        have hlen := qbr_len p i
        -- not so
        have no : p ((i : Int) - 20) = false → hX12_laysBreaths_53 l G k (fun r μ' => r = .inl none ∧ ∃ I', μ' = (I', J, R, S, nx) ∧ Fz [49, 50, 51, 52, 53, 54, 66] [38] I I' ∧ LB I' (qbr p 41) ∧ laidC I' κ wn (qall κ)) (nI a) (nI kd) (nI n) (zI ((i : Int) - 20) + (1 : Int32)) (I4, J, R, S, nx) := by
          intro hq
          rw [ez]
          refine ih I4 ⟨hF4, ?_, hC4, hD4⟩
          have : qbr p (i + 1) = qbr p i := by show (if p ((i : Int) - 20) then _ else _) = _; rw [hq]; rfl
          rw [this]; exact hL4
        have yes : p ((i : Int) - 20) = true → hX12_laysBreaths_53 l G k (fun r μ' => r = .inl none ∧ ∃ I', μ' = (I', J, R, S, nx) ∧ Fz [49, 50, 51, 52, 53, 54, 66] [38] I I' ∧ LB I' (qbr p 41) ∧ laidC I' κ wn (qall κ)) (nI a) (nI kd) (nI n) (zI ((i : Int) - 20) + (1 : Int32)) (up2 (up2 I4 66 (I4 43 38).toNatClampNeg (zI ((i : Int) - 20))) 43 38 (I4 43 38 + (1 : Int32)), J, R, S, nx) := by
          intro hq
          rw [ez, hL4.1, nI_clamp (by omega), nI_1]
          have e : qbr p (i + 1) = qbr p i ++ [(i : Int) - 20] := by show (if p ((i : Int) - 20) then _ else _) = _; rw [hq]; rfl
          refine ih _ ⟨(hF4.up (by decide) (by decide)).uf (by decide), ⟨by simp [up2, e], fun j v hv => ?_⟩, fun hr dg x y => by have := hC4 hr dg x y; simpa [up2] using this, fun j hj => by have := hD4 j hj; simpa [up2] using this⟩
          rw [e] at hv
          by_cases cj : j = (qbr p i).length
          · subst cj
            rw [List.getElem?_append_right (Nat.le_refl _), Nat.sub_self] at hv
            have : (i : Int) - 20 = v := by simpa using hv
            subst this
            simp [up2]
          · have hj : j < (qbr p i).length := by
              have := (List.getElem?_eq_some_iff.mp hv).1
              rw [List.length_append] at this; simp at this; omega
            rw [List.getElem?_append_left hj] at hv
            have := hL4.2 j v hv
            simp only [up2]
            simpa [cj] using this
        refine upto (W := fun q (b : Int32) => hX12_laysBreaths_86 l G k _ (nI a) (nI kd) (nI n) (zI ((i : Int) - 20)) b (nI q) (I4, J, R, S, nx)) (P := fun q b => (b = 1 ∧ ∀ j, j < q → (tf tn a j = -1 ∨ tf tn a j = (qfin κ (qcd κ kd wn (κ 54 - 1 - j) ((i : Int) - 20)) : Int))) ∨ (b = 0 ∧ p ((i : Int) - 20) = false)) n ?_ ?_ (i := 0) (Nat.zero_le _) (Or.inl ⟨rfl, fun j hj => absurd hj (Nat.not_lt_zero j)⟩)
        · intro b hb1
          have c2 : nI n ≤ nI n := nI_le (Nat.le_refl _) (by omega)
          rcases hb1 with ⟨rfl, h⟩ | ⟨rfl, h⟩
          · have c3 : ¬ (1 : Int32) = 0 := by decide
            refine sX12_laysBreaths_86 w ?_ ?_ ?_ ?_ ?_ ?_ ?_ ?_ ?_ ?_ ?_ ?_ <;> intros <;> (first | exact absurd (by with_reducible assumption) c2 | exact absurd c2 (by with_reducible assumption) | exact absurd (by with_reducible assumption) c3 | exact absurd c3 (by with_reducible assumption) | skip)
            · rw [hL4.1]; exact vp_in_nI (by omega) (by decide)
            · exact yes (by rw [← hp]; exact qfit_iff.mpr h)
          · have c3 : (0 : Int32) = 0 := rfl
            refine sX12_laysBreaths_86 w ?_ ?_ ?_ ?_ ?_ ?_ ?_ ?_ ?_ ?_ ?_ ?_ <;> intros <;> (first | exact absurd (by with_reducible assumption) c2 | exact absurd c2 (by with_reducible assumption) | exact absurd (by with_reducible assumption) c3 | exact absurd c3 (by with_reducible assumption) | skip)
            exact no h
        · intro q b hq hb1 ihq
          have c2 : ¬ nI n ≤ nI q := nI_ge hq (by omega)
          rcases hb1 with ⟨rfl, h⟩ | ⟨rfl, h⟩
          · have c3 : ¬ (1 : Int32) = 0 := by decide
            have e30 : (30 : Int32) * nI a + nI q = nI (30 * a + q) := by rw [show (30 : Int32) = nI 30 from rfl, pk_mul, nI_add]
            have eJ : J 70 ((30 : Int32) * nI a + nI q).toNatClampNeg = tn a q := by rw [e30, nI_clamp (by omega)]; exact hJ q (by omega)
            have eq : nI n - (1 : Int32) - nI q = nI (n - 1 - q) := by rw [show nI n - (1 : Int32) = nI (n - 1) from pk_sub (b := 1) (by omega), pk_sub (by omega)]
            have hfl := qfin_le ho (qcd κ kd wn (κ 54 - 1 - q) ((i : Int) - 20))
            have e53 : I4 53 (nI n - (1 : Int32) - nI q).toNatClampNeg = nI (qfin κ (qcd κ kd wn (κ 54 - 1 - q) ((i : Int) - 20))) := by
              rw [eq, nI_clamp (by omega)]
              have := (h4.2 (n - 1 - q) (by omega)).1
              rw [show 1024 * 0 + (n - 1 - q) = n - 1 - q by omega, show κ 54 - n + (n - 1 - q) = κ 54 - 1 - q by omega] at this
              exact this
            have k1 : (lg_cmp (J 70 ((30 : Int32) * nI a + nI q).toNatClampNeg) (-1 : Int64) = 0) = (tf tn a q = -1) := by rw [eJ, lg_cmp_eq]; exact propext (fa_eq64 _ _)
            have k2 : (lg_cmp (J 70 ((30 : Int32) * nI a + nI q).toNatClampNeg) (Int32.toInt64 (I4 53 (nI n - (1 : Int32) - nI q).toNatClampNeg)) = 0) = (tf tn a q = (qfin κ (qcd κ kd wn (κ 54 - 1 - q) ((i : Int) - 20)) : Int)) := by rw [eJ, e53, lg_cmp_eq, ← n64 (n := qfin κ (qcd κ kd wn (κ 54 - 1 - q) ((i : Int) - 20))) (by omega)]; exact propext (fa_eq64 _ _)
            have go : (tf tn a q = -1 ∨ tf tn a q = (qfin κ (qcd κ kd wn (κ 54 - 1 - q) ((i : Int) - 20)) : Int)) → ∀ j, j < q + 1 → (tf tn a j = -1 ∨ tf tn a j = (qfin κ (qcd κ kd wn (κ 54 - 1 - j) ((i : Int) - 20)) : Int)) := by
              intro hx j hj
              by_cases cj : j = q
              · rw [cj]; exact hx
              · exact h j (by omega)
            refine sX12_laysBreaths_86 w ?_ ?_ ?_ ?_ ?_ ?_ ?_ ?_ ?_ ?_ ?_ ?_ <;> intros <;> (first | exact absurd (by with_reducible assumption) c2 | exact absurd c2 (by with_reducible assumption) | exact absurd (by with_reducible assumption) c3 | exact absurd c3 (by with_reducible assumption) | skip)
            · rw [e30]; exact vp_in_nI (by omega) (by decide)
            · rename_i h1; rw [k1] at h1; rw [nI_1]; exact ihq 1 (Or.inl ⟨rfl, go (Or.inl h1)⟩)
            · rw [e30]; exact vp_in_nI (by omega) (by decide)
            · rw [eq]; exact vp_in_nI (by omega) (by decide)
            · rename_i h1 h2
              rw [k1] at h1; rw [k2] at h2
              rw [nI_1]
              refine ihq 0 (Or.inr ⟨rfl, ?_⟩)
              cases hx : p ((i : Int) - 20) with
              | false => rfl
              | true => rw [← hp] at hx; exact ((qfit_iff.mp hx q hq).elim h1 h2).elim
            · rename_i h1 h2; rw [k2] at h2; rw [nI_1]; exact ihq 1 (Or.inl ⟨rfl, go (Or.inr h2)⟩)
          · have c3 : (0 : Int32) = 0 := rfl
            refine sX12_laysBreaths_86 w ?_ ?_ ?_ ?_ ?_ ?_ ?_ ?_ ?_ ?_ ?_ ?_ <;> intros <;> (first | exact absurd (by with_reducible assumption) c2 | exact absurd c2 (by with_reducible assumption) | exact absurd (by with_reducible assumption) c3 | exact absurd c3 (by with_reducible assumption) | skip)
            exact no h
def aSeen (κ τ tm : Nat → Nat) (tn : Nat → Nat → Int64) (x y z : Int32) : Nat × Int32 := if gS κ τ tm tn x y z = 0 then (0, nI (qbs κ tm tn (cN x) (cN y) (cN z)).length) else (gS κ τ tm tn x y z, 0)
theorem seen_r {x y z : Int32} {τ tm : Nat → Nat} {tn : Nat → Nat → Int64} (w : MW R S nx) (hK : Kn I κ) (ho : qok hb pb κ) (hhb : hb < 2 ^ 29) (hT : Tk I J τ tm tn) : Cal l G (k + 7) 0 0 mX12_seen [.ref 43, .int x, .int y, .int z] (I, J, R, S, nx) (fun r μ' => r = .inl (some (.int ((aSeen κ τ tm tn x y z).2))) ∧ ∃ I', μ' = (I', J, R, S, nx) ∧ PU (aSeen κ τ tm tn x y z).1 κ I I') := by
  have hle := gS_le κ τ tm tn x y z
  have hf := seenFault_r (l := l) (G := G) (k := k + 4) (x := x) (y := y) (z := z) w hK ho hhb hT
  by_cases g : gS κ τ tm tn x y z = 0
  · rw [show aSeen κ τ tm tn x y z = (0, nI (qbs κ tm tn (cN x) (cN y) (cN z)).length) by unfold aSeen; rw [if_pos g]]
    rw [g] at hf
    obtain ⟨a, b, c, rfl, rfl, rfl, ha, hb1, hc, ea, eb, ec, _, _⟩ := gS0 ho g
    rw [ea, eb, ec]
    have c0 : (nI 0 : Int32) ≤ 0 := by decide
    refine Cal.of rfl (by decide +kernel) (by simp) (Nat.le_of_ble_eq_true rfl) rfl (sX12_seen_0 (P1 := fun I I' => I' = I) (P2 := fun I I' => Fz [49, 50, 51, 52, 53, 54, 66] [38] I I' ∧ LB I' (qbs κ tm tn a b c) ∧ laidC I' κ c (qall κ)) w hf ?_ ?_ ?_) <;> intros <;> (first | exact absurd (by with_reducible assumption) c0 | exact absurd c0 (by with_reducible assumption) | skip)
    · rename_i I1 h1 _; subst h1; exact laysBreaths_r w hK.up4 ho hhb hT.up43 ha hb1 hc
    · rename_i I1 h1 _ I2 h2; subst h1; exact ⟨by rw [h2.2.1.1], _, rfl, PU.z rfl h2.1 (by decide) (by decide) (h2.1.K hK.up4 (by decide))⟩
  · rw [show aSeen κ τ tm tn x y z = (gS κ τ tm tn x y z, 0) by unfold aSeen; rw [if_neg g]]
    have c0 : ¬ (nI (gS κ τ tm tn x y z) : Int32) ≤ 0 := nI_nle (by omega) (by omega)
    refine Cal.of rfl (by decide +kernel) (by simp) (Nat.le_of_ble_eq_true rfl) rfl (sX12_seen_0 (P1 := fun I I' => I' = I) (P2 := fun I I' => True) w hf ?_ ?_ ?_) <;> intros <;> (first | exact absurd (by with_reducible assumption) c0 | exact absurd c0 (by with_reducible assumption) | skip)
    rename_i I1 h1 _; subst h1; exact ⟨rfl, _, rfl, PU.fail hK rfl⟩
def aBreath (κ τ tm : Nat → Nat) (tn : Nat → Nat → Int64) (x y z u : Int32) : Nat × Int32 := if gS κ τ tm tn x y z = 0 then (if (0 : Int32) ≤ u then (0, match (qbs κ tm tn (cN x) (cN y) (cN z))[cN u]? with | some v => zI v | none => 99) else (3, 0)) else (gS κ τ tm tn x y z, 0)
theorem breath_r {x y z u : Int32} {τ tm : Nat → Nat} {tn : Nat → Nat → Int64} (w : MW R S nx) (hK : Kn I κ) (ho : qok hb pb κ) (hhb : hb < 2 ^ 29) (hT : Tk I J τ tm tn) : Cal l G (k + 7) 0 0 mX12_breath [.ref 43, .int x, .int y, .int z, .int u] (I, J, R, S, nx) (fun r μ' => r = .inl (some (.int ((aBreath κ τ tm tn x y z u).2))) ∧ ∃ I', μ' = (I', J, R, S, nx) ∧ PU (aBreath κ τ tm tn x y z u).1 κ I I') := by
  have hle := gS_le κ τ tm tn x y z
  have hf := seenFault_r (l := l) (G := G) (k := k + 4) (x := x) (y := y) (z := z) w hK ho hhb hT
  by_cases g : gS κ τ tm tn x y z = 0
  · rw [g] at hf
    have c0 : (nI 0 : Int32) ≤ 0 := by decide
    have c1 : (nI 0 : Int32) = 0 := rfl
    by_cases gu : (0 : Int32) ≤ u
    · rw [show aBreath κ τ tm tn x y z u = (0, match (qbs κ tm tn (cN x) (cN y) (cN z))[cN u]? with | some v => zI v | none => 99) by unfold aBreath; rw [if_pos g, if_pos gu]]
      obtain ⟨a, b, c, rfl, rfl, rfl, ha, hb1, hc, ea, eb, ec, _, _⟩ := gS0 ho g
      rw [ea, eb, ec]
      have hlen : (qbs κ tm tn a b c).length ≤ 41 := qbr_len _ _
      have hu := fa_le (0 : Int32) u
      rw [show (0 : Int32).toInt = 0 by decide] at hu
      have hu0 := hu.mp gu
      have hub := Int32.toInt_lt u
      have eu : u = nI (cN u) := by unfold cN nI; apply Int32.toInt_inj.mp; rw [Int32.toInt_ofNat_of_lt (by rw [Int32.toNatClampNeg, ]; omega)]; rw [Int32.toNatClampNeg]; omega
      obtain ⟨n, hn⟩ : ∃ n, cN u = n := ⟨_, rfl⟩
      have hn2 : n < 2147483648 := by rw [← hn]; unfold cN; rw [Int32.toNatClampNeg]; omega
      rw [hn] at eu ⊢
      subst eu
      have nl : ∀ I2, LB I2 (qbs κ tm tn a b c) → (I2 43 38 ≤ nI n) = ((qbs κ tm tn a b c).length ≤ n) := fun I2 h => by rw [h.1]; exact propext (nI_leI (by omega) (by omega))
      refine Cal.of rfl (by decide +kernel) (by simp) (Nat.le_of_ble_eq_true rfl) rfl (sX12_breath_0 (P1 := fun I I' => I' = I) (P2 := fun _ _ => True) (P3 := fun I I' => Fz [49, 50, 51, 52, 53, 54, 66] [38] I I' ∧ LB I' (qbs κ tm tn a b c) ∧ laidC I' κ c (qall κ)) w hf ?_ ?_ ?_ ?_ ?_ ?_ ?_ ?_ ?_ ?_ ?_) <;> intros <;> (first | exact absurd (by with_reducible assumption) c0 | exact absurd c0 (by with_reducible assumption) | exact absurd (by with_reducible assumption) c1 | exact absurd c1 (by with_reducible assumption) | exact absurd (by with_reducible assumption) gu | exact absurd gu (by with_reducible assumption) | skip)
      · rename_i I1 h1 _ _ _; subst h1; exact laysBreaths_r w hK.up4 ho hhb hT.up43 ha hb1 hc
      · rename_i I1 h1 _ _ _ I2 h2 h3
        subst h1
        rw [nl I2 h2.2.1] at h3
        exact ⟨by rw [List.getElem?_eq_none h3], _, rfl, PU.z rfl h2.1 (by decide) (by decide) (h2.1.K hK.up4 (by decide))⟩
      · rename_i I1 h1 _ _ _ I2 h2 h3
        rw [nl I2 h2.2.1] at h3
        exact vp_in_nI (by omega) (by decide)
      · rename_i I1 h1 _ _ _ I2 h2 h3
        subst h1
        rw [nl I2 h2.2.1] at h3
        have hge := List.getElem?_eq_getElem (l := qbs κ tm tn a b c) (i := n) (by omega)
        refine ⟨?_, _, rfl, PU.z rfl h2.1 (by decide) (by decide) (h2.1.K hK.up4 (by decide))⟩
        rw [nI_clamp (by omega), h2.2.1.2 n _ hge, hge]
    · rw [show aBreath κ τ tm tn x y z u = (3, 0) by unfold aBreath; rw [if_pos g, if_neg gu]]
      refine Cal.of rfl (by decide +kernel) (by simp) (Nat.le_of_ble_eq_true rfl) rfl (sX12_breath_0 (P1 := fun I I' => I' = I) (P2 := fun _ _ => True) (P3 := fun I I' => True) w hf ?_ ?_ ?_ ?_ ?_ ?_ ?_ ?_ ?_ ?_ ?_) <;> intros <;> (first | exact absurd (by with_reducible assumption) c0 | exact absurd c0 (by with_reducible assumption) | exact absurd (by with_reducible assumption) c1 | exact absurd c1 (by with_reducible assumption) | exact absurd (by with_reducible assumption) gu | exact absurd gu (by with_reducible assumption) | skip)
      rename_i I1 h1 _ _; subst h1
      rw [up2_2]
      exact ⟨rfl, _, rfl, PU.fail hK rfl⟩
  · rw [show aBreath κ τ tm tn x y z u = (gS κ τ tm tn x y z, 0) by unfold aBreath; rw [if_neg g]]
    have c0 : ¬ (nI (gS κ τ tm tn x y z) : Int32) ≤ 0 := nI_nle (by omega) (by omega)
    have c1 : ¬ (nI (gS κ τ tm tn x y z) : Int32) = 0 := nI_ne0 (by omega) (by omega)
    refine Cal.of rfl (by decide +kernel) (by simp) (Nat.le_of_ble_eq_true rfl) rfl (sX12_breath_0 (P1 := fun I I' => I' = I) (P2 := fun _ _ => True) (P3 := fun I I' => True) w hf ?_ ?_ ?_ ?_ ?_ ?_ ?_ ?_ ?_ ?_ ?_) <;> intros <;> (first | exact absurd (by with_reducible assumption) c0 | exact absurd c0 (by with_reducible assumption) | exact absurd (by with_reducible assumption) c1 | exact absurd c1 (by with_reducible assumption) | skip)
    rename_i I1 h1 _ _; subst h1; exact ⟨rfl, _, rfl, PU.fail hK rfl⟩
/-- the fine in an hour to come, by the number of the breath -/
def qbf (κ : Nat → Nat) (bs : List Int) (kd wn k : Nat) : Nat → Nat := fun i => qfin κ (qcd κ kd wn (κ 54 + k) ((bs[i]?).getD 0))
theorem mostLike_r {kd wn q : Nat} {bs : List Int} (w : MW R S nx) (hK : Kn I κ) (ho : qok hb pb κ) (hhb : hb < 2 ^ 29) (hkd : kd ≤ 9) (hq : q < 25) (hbl : bs.length ≤ 41) (hbi : ∀ v ∈ bs, -20 ≤ v ∧ v < 21) (hL : LB I bs) (hC : laidC I κ wn (qall κ)) (hD : laidD I κ wn (κ 54) 25) : Cal l G (k + 2) 0 0 mX12_mostLike [.ref 43, .int (nI kd), .int (nI q)] (I, J, R, S, nx) (fun r μ' => r = .inl (some (.int (nI (qml (qbf κ bs kd wn q) bs.length)))) ∧ ∃ I', μ' = (I', J, R, S, nx) ∧ Fr [67] I I') := by
  have h54 : κ 54 ≤ hb := ho.2.2.2.2.2.2.2.2.2.2.1
  refine Cal.of rfl (by decide +kernel) (by simp) (Nat.le_of_ble_eq_true rfl) rfl (sX12_mostLike_0 (u1 := nI (qkind κ kd)) (P1 := fun I I' => I' = I) w (r_ofKind w hK ho (by omega)).eqI (fun I1 h => ?_))
  subst h
  obtain ⟨g, hg⟩ : ∃ g, qbf κ bs kd wn q = g := ⟨_, rfl⟩
  have hgi : ∀ i, qfin κ (qcd κ kd wn (κ 54 + q) ((bs[i]?).getD 0)) = g i := fun i => congrFun hg i
  rw [hg]
  refine upto (W := fun i I2 => hX12_mostLike_12 l G k _ (nI q) (nI (qkind κ kd)) (0 : Int32) (nI i) (I2, J, R, S, nx)) (P := fun i I2 => Fr [67] I1 I2 ∧ ∀ j, j < i → I2 67 j = 0) 793 ?_ ?_ (i := 0) (Nat.zero_le _) ⟨Fr.rf, fun j hj => absurd hj (Nat.not_lt_zero j)⟩
  · intro I2 ⟨hF, h67⟩
    have c1 : (793 : Int32) ≤ nI 793 := by decide
    refine sX12_mostLike_12 w ?_ ?_ ?_ <;> intros <;> (first | exact absurd (by with_reducible assumption) c1 | exact absurd c1 (by with_reducible assumption) | skip)
    refine upto (W := fun i I3 => hX12_mostLike_37 l G k _ (nI q) (nI (qkind κ kd)) (nI (qml g i)) (nI i) (I3, J, R, S, nx)) (P := fun i I3 => Fr [67] I1 I3 ∧ ∀ f, f < 793 → I3 67 f = nI (fa_cnt (fun j => decide (g j = f)) i)) bs.length ?_ ?_ (i := 0) (Nat.zero_le _) ⟨hF, fun f hf => h67 f hf⟩
    · intro I3 ⟨hF3, h3⟩
      have d1 : I3 43 38 ≤ nI bs.length := by rw [hF3 43 (by decide), hL.1]; exact nI_le (Nat.le_refl _) (by omega)
      refine sX12_mostLike_37 (u1 := 0) (P1 := fun _ _ => True) w ?_ ?_ ?_ ?_ ?_ ?_ ?_ ?_ ?_ <;> intros <;> (first | exact absurd (by with_reducible assumption) d1 | exact absurd d1 (by with_reducible assumption) | skip)
      exact ⟨rfl, _, rfl, hF3⟩
    · intro i I3 hi ⟨hF3, h3⟩ ih
      have d1 : ¬ I3 43 38 ≤ nI i := by rw [hF3 43 (by decide), hL.1]; exact nI_ge hi (by omega)
      have hge := List.getElem?_eq_getElem (l := bs) (i := i) hi
      obtain ⟨v, hv⟩ : ∃ v, bs[i] = v := ⟨_, rfl⟩
      have hvi := hbi v (by rw [← hv]; exact List.getElem_mem _)
      have egi := hgi i
      rw [hge, Option.getD_some, hv] at egi
      rw [hv] at hge
      have hqd := qdeg_le κ wn (κ 54 + q)
      have hkl := qkept_le ((qdeg κ wn (κ 54 + q) : Int) + v)
      have hm : (κ 54 + q) % 24 < 24 := Nat.mod_lt _ (by decide)
      have e1 : v_X12_kept (I3 52 (nI q).toNatClampNeg + I3 66 (nI i).toNatClampNeg) = nI (qkept ((qdeg κ wn (κ 54 + q) : Int) + v)) := by
        rw [nI_clamp (by omega), nI_clamp (by omega), hF3 52 (by decide), hD q hq, hF3 66 (by decide), hL.2 i v hge, nI_z, zI_add, kept_z (by omega)]
      have e2 : (100 : Int32) * ((I3 44 54 + nI q) - (I3 44 54 + nI q) / (24 : Int32) * (24 : Int32)) + v_X12_kept (I3 52 (nI q).toNatClampNeg + I3 66 (nI i).toNatClampNeg) = nI (100 * ((κ 54 + q) % 24) + qkept ((qdeg κ wn (κ 54 + q) : Int) + v)) := by
        rw [e1, hF3 44 (by decide), hK.h (by decide), nI_add, rem24 (by omega), show (100 : Int32) = nI 100 from rfl, pk_mul, nI_add]
      have e3 : (I3 51 ((100 : Int32) * ((I3 44 54 + nI q) - (I3 44 54 + nI q) / (24 : Int32) * (24 : Int32)) + v_X12_kept (I3 52 (nI q).toNatClampNeg + I3 66 (nI i).toNatClampNeg)).toNatClampNeg) &&& nI (qkind κ kd) = nI (qcd κ kd wn (κ 54 + q) v) := by
        rw [e2, nI_clamp (by omega), hF3 51 (by decide), hC _ _ hm (by omega), fa_and, qcode_h]; rfl
      have hlt2 := qcd_lt ho kd wn (κ 54 + q) v
      have hgl : g i ≤ 792 := by rw [← egi]; exact qfin_le ho _
      refine sX12_mostLike_37 (u1 := nI (g i)) (P1 := fun I I' => I' = I) w ?_ ?_ ?_ ?_ ?_ ?_ ?_ ?_ ?_ <;> intros <;> (first | exact absurd (by with_reducible assumption) d1 | exact absurd d1 (by with_reducible assumption) | skip)
      · exact vp_in_nI (by omega) (by decide)
      · exact vp_in_nI (by omega) (by decide)
      · rw [e2]; exact vp_in_nI (by omega) (by decide)
      · rw [e3, ← egi]; exact fin_r w (hK.fr hF3 (by decide)) ho (by omega)
      · exact vp_in_nI (by omega) (by decide)
      · exact vp_in_nI (by omega) (by decide)
      · exact vp_in_nI (by omega) (by decide)
      · rename_i I4 h4
        subst h4
        have hcl := fa_cnt_le (fun j => decide (g j = g i)) i
        have hml := qml_le g i
        have ec : fa_cnt (fun j => decide (g j = g i)) (i + 1) = fa_cnt (fun j => decide (g j = g i)) i + 1 := fa_cnt_yes (by simp)
        rw [nI_clamp (by omega), h3 (g i) (by omega), nI_1, nI_1, show up2 I4 67 (g i) (nI (fa_cnt (fun j => decide (g j = g i)) i + 1)) 67 (g i) = nI (fa_cnt (fun j => decide (g j = g i)) i + 1) by simp [up2]]
        have em : (if nI (qml g i) < nI (fa_cnt (fun j => decide (g j = g i)) i + 1) then nI (fa_cnt (fun j => decide (g j = g i)) i + 1) else nI (qml g i)) = nI (qml g (i + 1)) := by
          show _ = nI (max (qml g i) (fa_cnt (fun j => decide (g j = g i)) (i + 1)))
          rw [ec]
          have e5 : (nI (qml g i) < nI (fa_cnt (fun j => decide (g j = g i)) i + 1)) = (qml g i < fa_cnt (fun j => decide (g j = g i)) i + 1) := propext (nI_ltI (by omega) (by omega))
          by_cases c : qml g i < fa_cnt (fun j => decide (g j = g i)) i + 1
          · rw [if_pos (by rw [e5]; exact c)]; congr 1; omega
          · rw [if_neg (by rw [e5]; exact c)]; congr 1; omega
        rw [em]
        refine ih _ ⟨hF3.up (by decide), fun f hf => ?_⟩
        by_cases cf : f = g i
        · subst cf; rw [ec]; simp [up2]
        · rw [fa_cnt_no (by simp; exact Ne.symm cf)]
          have := h3 f hf
          simp [up2, cf, this]
  · intro i I2 hi ⟨hF, h67⟩ ih
    have c1 : ¬ (793 : Int32) ≤ nI i := nI_ge (b := 793) hi (by decide)
    refine sX12_mostLike_12 w ?_ ?_ ?_ <;> intros <;> (first | exact absurd (by with_reducible assumption) c1 | exact absurd c1 (by with_reducible assumption) | skip)
    · exact vp_in_nI hi (by decide)
    · rw [nI_1, nI_clamp (by omega)]
      refine ih _ ⟨hF.up (by decide), fun j hj => ?_⟩
      by_cases cj : j = i
      · subst cj; simp [up2]
      · have := h67 j (by omega)
        simp [up2, cj, this]
def aLook (κ τ tm : Nat → Nat) (tn : Nat → Nat → Int64) (x y z : Int32) : Nat × Int32 := if gS κ τ tm tn x y z = 0 then (0, if (qbs κ tm tn (cN x) (cN y) (cN z)).length = 0 then -1 else jP (qlk (fun q => qml (qbf κ (qbs κ tm tn (cN x) (cN y) (cN z)) (cN y) (cN z) q) (qbs κ tm tn (cN x) (cN y) (cN z)).length) 25).1) else (gS κ τ tm tn x y z, 0)
theorem qlk_le {m : Nat → Nat} (hm : ∀ i, m i ≤ 41) : ∀ i, (qlk m i).2 ≤ 536870912
  | 0 => Nat.le_refl _
  | i + 1 => by
    have := qlk_le hm i
    have := hm i
    unfold qlk; split
    · show m i ≤ _; omega
    · omega
theorem look_r {x y z : Int32} {τ tm : Nat → Nat} {tn : Nat → Nat → Int64} (w : MW R S nx) (hK : Kn I κ) (ho : qok hb pb κ) (hhb : hb < 2 ^ 29) (hT : Tk I J τ tm tn) : Cal l G (k + 7) 0 0 mX12_look [.ref 43, .int x, .int y, .int z] (I, J, R, S, nx) (fun r μ' => r = .inl (some (.int ((aLook κ τ tm tn x y z).2))) ∧ ∃ I', μ' = (I', J, R, S, nx) ∧ PU (aLook κ τ tm tn x y z).1 κ I I') := by
  have hle := gS_le κ τ tm tn x y z
  have h54 : κ 54 ≤ hb := ho.2.2.2.2.2.2.2.2.2.2.1
  have h1w := ho.1
  have hf := seenFault_r (l := l) (G := G) (k := k + 4) (x := x) (y := y) (z := z) w hK ho hhb hT
  by_cases g : gS κ τ tm tn x y z = 0
  · rw [show aLook κ τ tm tn x y z = (0, if (qbs κ tm tn (cN x) (cN y) (cN z)).length = 0 then -1 else jP (qlk (fun q => qml (qbf κ (qbs κ tm tn (cN x) (cN y) (cN z)) (cN y) (cN z) q) (qbs κ tm tn (cN x) (cN y) (cN z)).length) 25).1) by unfold aLook; rw [if_pos g]]
    rw [g] at hf
    obtain ⟨a, b, c, rfl, rfl, rfl, ha, hb1, hc, ea, eb, ec, _, _⟩ := gS0 ho g
    rw [ea, eb, ec]
    have c0 : (nI 0 : Int32) ≤ 0 := by decide
    obtain ⟨bs, hbs⟩ : ∃ bs, qbs κ tm tn a b c = bs := ⟨_, rfl⟩
    have hbl : bs.length ≤ 41 := by rw [← hbs]; exact qbr_len _ _
    have hbi : ∀ v ∈ bs, -20 ≤ v ∧ v < 21 := fun v hv => by rw [← hbs] at hv; have := qbr_in _ _ v hv; omega
    rw [hbs]
    refine Cal.of rfl (by decide +kernel) (by simp) (Nat.le_of_ble_eq_true rfl) rfl (sX12_look_0 (P1 := fun I I' => I' = I) (P2 := fun I I' => Fz [49, 50, 51, 52, 53, 54, 66] [38] I I' ∧ LB I' bs ∧ laidC I' κ c (qall κ)) (P3 := fun I I' => Fr [49, 50, 52] I I' ∧ laidD I' κ c (κ 54) 25) w hf ?_ ?_ ?_ ?_) <;> intros <;> (first | exact absurd (by with_reducible assumption) c0 | exact absurd c0 (by with_reducible assumption) | skip)
    · rename_i I1 h1 _; subst h1; rw [← hbs]; exact laysBreaths_r w hK.up4 ho hhb hT.up43 ha hb1 hc
    · rename_i I1 h1 _ I2 h2
      subst h1
      have hK2 := h2.1.K hK.up4 (by decide)
      rw [hK2.h (by decide)]
      exact laysDegrees_r (n := 25) w hK2 ho hhb (by omega) (by omega) (by omega)
    · rename_i I1 h1 _ I2 h2 I3 h3
      subst h1
      have hF3 : Fz [49, 50, 51, 52, 53, 54, 66] [38] (up2 I1 43 4 (nI 0)) I3 := h3.1.z h2.1 (by decide) (by decide)
      have hL3 : LB I3 bs := h2.2.1.fz (rs := [49, 50, 52]) (fs := []) (h3.1.z Fz.rf (by decide) (by decide)) (by decide) (by decide)
      have hC3 : laidC I3 κ c (qall κ) := fun hr dg x y => by rw [h3.1 51 (by decide)]; exact h2.2.2 hr dg x y
      have hD3 := h3.2
      by_cases c38 : bs.length = 0
      · rw [if_pos c38]
        have d1 : ¬ (24 : Int32) < 0 := by decide
        have d2 : I3 43 38 ≤ 0 := by rw [hL3.1, c38]; decide
        refine sX12_look_52 (u1 := 0) (P1 := fun _ _ => True) w ?_ ?_ ?_ ?_ ?_ <;> intros <;> (first | exact absurd (by with_reducible assumption) d1 | exact absurd d1 (by with_reducible assumption) | exact absurd (by with_reducible assumption) d2 | exact absurd d2 (by with_reducible assumption) | skip)
        exact ⟨rfl, _, rfl, PU.z rfl hF3 (by decide) (by decide) (hF3.K hK.up4 (by decide))⟩
      · rw [if_neg c38]
        obtain ⟨m, hm⟩ : ∃ m, (fun q => qml (qbf κ bs b c q) bs.length) = m := ⟨_, rfl⟩
        have hmi : ∀ q, qml (qbf κ bs b c q) bs.length = m q := fun q => congrFun hm q
        have hml : ∀ q, m q ≤ 41 := fun q => by rw [← hmi]; exact Nat.le_trans (qml_le _ _) hbl
        rw [hm]
        obtain ⟨L, hL⟩ : ∃ L, qlk m = L := ⟨_, rfl⟩
        have hL0 : L 0 = (none, 536870912) := by rw [← hL]; rfl
        have hLs : ∀ i, L (i + 1) = if m i < (L i).2 then (some i, m i) else L i := fun i => by rw [← hL]; rfl
        have hLl : ∀ i, (L i).2 ≤ 536870912 := fun i => by rw [← hL]; exact qlk_le hml i
        rw [hL]
        show hX12_look_52 l G k _ (nI b) (jP ((none, 536870912) : Option Nat × Nat).1) (nI ((none, 536870912) : Option Nat × Nat).2) (nI 0) (I3, J, R, S, nx)
        rw [← hL0]
        refine upto (W := fun i I4 => hX12_look_52 l G k _ (nI b) (jP (L i).1) (nI (L i).2) (nI i) (I4, J, R, S, nx)) (P := fun i I4 => Fr [67] I3 I4) 25 ?_ ?_ (i := 0) (Nat.zero_le _) Fr.rf
        · intro I4 h4
          have d1 : (24 : Int32) < nI 25 := by decide
          refine sX12_look_52 (u1 := 0) (P1 := fun _ _ => True) w ?_ ?_ ?_ ?_ ?_ <;> intros <;> (first | exact absurd (by with_reducible assumption) d1 | exact absurd d1 (by with_reducible assumption) | skip)
          have hF4 : Fz [49, 50, 51, 52, 53, 54, 66, 67] [38] (up2 I1 43 4 (nI 0)) I4 := h4.z (hF3.wk (by decide) (by decide)) (by decide) (by decide)
          exact ⟨rfl, _, rfl, PU.z rfl hF4 (by decide) (by decide) (hF4.K hK.up4 (by decide))⟩
        · intro i I4 hi h4 ih
          have d1 : ¬ (24 : Int32) < nI i := nI_nlt (b := i) (a := 24) (by omega) (by decide)
          have d2 : ¬ I4 43 38 ≤ 0 := by rw [h4 43 (by decide), hL3.1]; exact nI_nle (by omega) (by omega)
          have hql := hLl i
          have hmi2 := hml i
          have e5 : (nI (m i) < nI (L i).2) = (m i < (L i).2) := propext (nI_ltI (by omega) (by omega))
          refine sX12_look_52 (u1 := nI (m i)) (P1 := fun I I' => Fr [67] I I') w ?_ ?_ ?_ ?_ ?_ <;> intros <;> (first | exact absurd (by with_reducible assumption) d1 | exact absurd d1 (by with_reducible assumption) | exact absurd (by with_reducible assumption) d2 | exact absurd d2 (by with_reducible assumption) | skip)
          · rw [← hmi]
            have z4 : Fz [67] [] I3 I4 := h4.z Fz.rf (by decide) (by decide)
            exact mostLike_r w ((h4.z (hF3.wk (r2 := [49, 50, 51, 52, 53, 54, 66, 67]) (f2 := [38]) (by decide) (by decide)) (by decide) (by decide)).K hK.up4 (by decide)) ho hhb hb1 hi hbl hbi (hL3.fz z4 (by decide) (by decide)) (fun hr dg x y => by rw [h4 51 (by decide)]; exact hC3 hr dg x y) (fun j hj => by rw [h4 52 (by decide)]; exact hD3 j hj)
          · rename_i I5 h5 h6
            rw [e5] at h6
            rw [nI_1]
            have := ih I5 (h4.tr h5 (by decide))
            rw [hLs i, if_pos h6] at this
            exact this
          · rename_i I5 h5 h6
            rw [e5] at h6
            rw [nI_1]
            have := ih I5 (h4.tr h5 (by decide))
            rw [hLs i, if_neg h6] at this
            exact this
  · rw [show aLook κ τ tm tn x y z = (gS κ τ tm tn x y z, 0) by unfold aLook; rw [if_neg g]]
    have c0 : ¬ (nI (gS κ τ tm tn x y z) : Int32) ≤ 0 := nI_nle (by omega) (by omega)
    refine Cal.of rfl (by decide +kernel) (by simp) (Nat.le_of_ble_eq_true rfl) rfl (sX12_look_0 (P1 := fun I I' => I' = I) (P2 := fun I I' => True) (P3 := fun I I' => True) w hf ?_ ?_ ?_ ?_) <;> intros <;> (first | exact absurd (by with_reducible assumption) c0 | exact absurd c0 (by with_reducible assumption) | skip)
    rename_i I1 h1 _; subst h1; exact ⟨rfl, _, rfl, PU.fail hK rfl⟩
end A
