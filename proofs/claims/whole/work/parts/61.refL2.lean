/-! the reference: bytes fed -/
def fby (w : Int32) (j : Nat) : Nat := ((Int32.toUInt32 w >>> (Int32.toUInt32 ((24 : Int32) - ((8 : Int32) * (nI j &&& (3 : Int32)))) &&& Int32.toUInt32 31)).toInt32).toBitVec.toNat % 256
theorem and255 (y : Int32) : y &&& (255 : Int32) = nI (y.toBitVec.toNat % 256) := by
  apply Int32.toBitVec_inj.mp
  apply BitVec.eq_of_toNat_eq
  rw [Int32.toBitVec_and, BitVec.toNat_and]
  rw [show ((255 : Int32).toBitVec).toNat = 2 ^ 8 - 1 from rfl, Nat.and_two_pow_sub_one_eq_mod]
  show _ = (BitVec.ofNat 32 (y.toBitVec.toNat % 256)).toNat
  rw [BitVec.toNat_ofNat, Nat.mod_eq_of_lt (a := y.toBitVec.toNat % 256) (by omega)]
def fwd (a b c d e : Int32) (i : Nat) : Int32 := if i < 4 then a else if i < 8 then b else if i < 12 then c else if i < 16 then d else e
def fed (t : Nat → Nat) (tp : Nat) (a b c d e : Int32) (m : Nat) : Nat → Nat := fun j => if tp ≤ j ∧ j < tp + m then fby (fwd a b c d e (j - tp)) (j - tp) else t j
def aFeed (t : Nat → Nat) (tp : Nat) (a b c d e : Int32) : Int32 × (Nat → Nat) × Nat := if tp + 20 ≤ 900 then (nI (tp + 20), fed t tp a b c d e 20, tp + 20) else (-1, t, tp)
section A
variable {l : Launch} {G : Gh} {k : Nat} {I : Nat → Nat → Int32} {J : Nat → Nat → Int64} {R : Nat → Nat → Option Nat} {S : Nat → Nat × Nat} {nx : Nat} {κ : Nat → Nat} {hb pb : Nat}
variable {t : Nat → Nat}
theorem feed_r {a b c d e : Int32} {tp : Nat} (w : MW R S nx) (hT : Tp I t tp) : Cal l G k 0 0 mX12_feed [.ref 43, .int a, .int b, .int c, .int d, .int e] (I, J, R, S, nx) (fun r μ' => r = .inl (some (.int ((aFeed t tp a b c d e).1))) ∧ ∃ I', μ' = (I', J, R, S, nx) ∧ Fz [48] [4, 6] I I' ∧ I' 43 4 = 0 ∧ Tp I' (aFeed t tp a b c d e).2.1 (aFeed t tp a b c d e).2.2) := by
  have h9 := hT.2.1
  have e6 : I 43 6 + (20 : Int32) = nI (tp + 20) := by rw [hT.1]; exact nI_add tp 20
  have eq : (I 43 6 + (20 : Int32) ≤ (900 : Int32)) = (tp + 20 ≤ 900) := by rw [e6]; exact propext (nI_leI (b := 900) (by omega) (by decide))
  by_cases g : tp + 20 ≤ 900
  · have c1 : I 43 6 + (20 : Int32) ≤ (900 : Int32) := by rw [eq]; exact g
    rw [show aFeed t tp a b c d e = (nI (tp + 20), fed t tp a b c d e 20, tp + 20) by unfold aFeed; rw [if_pos g]]
    refine Cal.of rfl (by decide +kernel) (by simp) (Nat.le_of_ble_eq_true rfl) rfl (sX12_feed_0 w ?_ ?_) <;> intros <;> (first | exact absurd (by with_reducible assumption) c1 | exact absurd c1 (by with_reducible assumption) | skip)
    refine upto (W := fun i I1 => hX12_feed_23 l G k _ a b c d e (nI i) (I1, J, R, S, nx)) (P := fun i I1 => Fz [48] [4, 6] I I1 ∧ I1 43 4 = 0 ∧ Tp I1 (fed t tp a b c d e i) (tp + i)) 20 ?_ ?_ (i := 0) (Nat.zero_le _) ⟨Fz.rf.uf (by decide), by simp [up2], by simp [up2]; exact hT.1, by omega, fun j hj => ?_, fun j hj => ?_⟩
    · intro I1 ⟨hF, h4, hT1⟩
      have d1 : (20 : Int32) ≤ nI 20 := by decide
      refine sX12_feed_23 w ?_ ?_ ?_ ?_ ?_ ?_ <;> intros <;> (first | exact absurd (by with_reducible assumption) d1 | exact absurd d1 (by with_reducible assumption) | skip)
      exact ⟨by rw [hT1.1], _, rfl, hF, h4, hT1⟩
    · intro i I1 hi ⟨hF, h4, hT1⟩ ih
      have d1 : ¬ (20 : Int32) ≤ nI i := nI_ge (b := 20) hi (by decide)
      have lt : ∀ q : Nat, q < 100 → ((nI q : Int32) ≤ nI i) = (q ≤ i) := fun q hq => propext (nI_leI (by omega) (by omega))
      have l4 : ((4 : Int32) ≤ nI i) = (4 ≤ i) := lt 4 (by decide)
      have l8 : ((8 : Int32) ≤ nI i) = (8 ≤ i) := lt 8 (by decide)
      have l12 : ((12 : Int32) ≤ nI i) = (12 ≤ i) := lt 12 (by decide)
      have l16 : ((16 : Int32) ≤ nI i) = (16 ≤ i) := lt 16 (by decide)
      have go : ∀ v : Int32, v = fwd a b c d e i → hX12_feed_76 l G k (fun r μ' => r = .inl (some (.int (nI (tp + 20)))) ∧ ∃ I', μ' = (I', J, R, S, nx) ∧ Fz [48] [4, 6] I I' ∧ I' 43 4 = 0 ∧ Tp I' (fed t tp a b c d e 20) (tp + 20)) a b c d e (nI i) v (I1, J, R, S, nx) := by
        intro v hv
        refine sX12_feed_76 w (by rw [hT1.1]; exact vp_in_nI (by omega) (by decide)) ?_
        rw [hT1.1, nI_clamp (by omega), nI_1, nI_1, and255]
        refine ih _ ⟨(hF.up (by decide) (by decide)).uf (by decide), by simpa [up2] using h4, by simp [up2]; rfl, by omega, fun j hj => ?_, fun j hj => ?_⟩
        · by_cases cj : j = tp + i
          · subst cj
            simp only [up2]
            simp
            unfold fed
            rw [if_pos (by omega), show tp + i - tp = i by omega, ← hv]; rfl
          · have := hT1.2.2.1 j (by omega)
            simp only [up2]
            simp [cj]
            rw [this]
            unfold fed
            by_cases c2 : tp ≤ j ∧ j < tp + i
            · rw [if_pos c2, if_pos ⟨c2.1, by omega⟩]
            · rw [if_neg c2, if_neg (by omega)]
        · unfold fed
          by_cases c2 : tp ≤ j ∧ j < tp + (i + 1)
          · rw [if_pos c2]; unfold fby; omega
          · rw [if_neg c2]; exact hT.2.2.2 j (by omega)
      refine sX12_feed_23 w ?_ ?_ ?_ ?_ ?_ ?_
      · intro g; exact absurd g d1
      · intro _ g1 g2 g3 g4
        rw [l4] at g1; rw [l8] at g2; rw [l12] at g3; rw [l16] at g4
        exact go _ (by unfold fwd; rw [if_neg (by omega), if_neg (by omega), if_neg (by omega), if_neg (by omega)])
      · intro _ g1 g2 g3 g4
        rw [l4] at g1; rw [l8] at g2; rw [l12] at g3; rw [l16] at g4
        exact go _ (by unfold fwd; rw [if_neg (by omega), if_neg (by omega), if_neg (by omega), if_pos (by omega)])
      · intro _ g1 g2 g3
        rw [l4] at g1; rw [l8] at g2; rw [l12] at g3
        exact go _ (by unfold fwd; rw [if_neg (by omega), if_neg (by omega), if_pos (by omega)])
      · intro _ g1 g2
        rw [l4] at g1; rw [l8] at g2
        exact go _ (by unfold fwd; rw [if_neg (by omega), if_pos (by omega)])
      · intro _ g1
        rw [l4] at g1
        exact go _ (by unfold fwd; rw [if_pos (by omega)])
    · simp [up2]
      unfold fed
      rw [if_neg (by omega)]; exact hT.2.2.1 j (by omega)
    · unfold fed
      rw [if_neg (by omega)]; exact hT.2.2.2 j (by omega)
  · have c1 : ¬ I 43 6 + (20 : Int32) ≤ (900 : Int32) := by rw [eq]; exact g
    rw [show aFeed t tp a b c d e = (-1, t, tp) by unfold aFeed; rw [if_neg g]]
    refine Cal.of rfl (by decide +kernel) (by simp) (Nat.le_of_ble_eq_true rfl) rfl (sX12_feed_0 w ?_ ?_) <;> intros <;> (first | exact absurd (by with_reducible assumption) c1 | exact absurd c1 (by with_reducible assumption) | skip)
    exact ⟨rfl, _, rfl, Fz.rf.uf (by decide), by simp [up2], by simp [up2]; exact hT.1, h9, fun j hj => by simp [up2]; exact hT.2.2.1 j hj, hT.2.2.2⟩
end A
