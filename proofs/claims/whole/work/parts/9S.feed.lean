/-! the class: bytes fed -/
def shA : Nat → Int32
  | 0 => 24
  | i + 1 => shA i + (-8 : Int32)
theorem shA_p : ∀ i, i < 4 → ¬ shA i < 0 := by decide +kernel
theorem shA_n : shA 4 < 0 := by decide +kernel
theorem shA_v : ∀ i, i < 4 → (shA i &&& 31).toBitVec.smod 32 = BitVec.ofNat 32 (24 - 8 * i) := by decide +kernel
theorem fby_v : ∀ q, q < 5 → ∀ i, i < 4 → (Int32.toUInt32 ((24 : Int32) - ((8 : Int32) * (nI (4 * q + i) &&& (3 : Int32)))) &&& Int32.toUInt32 31).toNat % 32 = 24 - 8 * i := by decide +kernel
theorem fby_n {x : Int32} {q i : Nat} (hq : q < 5) (hi : i < 4) : fby x (4 * q + i) = (x.toBitVec.toNat >>> (24 - 8 * i)) % 256 := by
  unfold fby
  show (Int32.toUInt32 x >>> _).toNat % 256 = _
  rw [UInt32.toNat_shiftRight, fby_v q hq i hi]
  rfl
theorem i8_8 (y : BitVec 8) : (y.signExtend 32).signExtend 8 = y := by
  apply BitVec.eq_of_getLsbD_eq
  intro i hi
  rw [BitVec.getLsbD_signExtend, BitVec.getLsbD_signExtend]
  simp [hi, show i < 32 by omega]
theorem by4 {x : Int32} {q i : Nat} (hq : q < 5) (hi : i < 4) : (Int32.toInt8 (Int32.toInt8 (x >>> (shA i &&& 31))).toInt32).toInt32 = sby (fby x (4 * q + i)) := by
  have e : Int32.toInt8 (Int32.toInt8 (x >>> (shA i &&& 31))).toInt32 = (nI (fby x (4 * q + i))).toInt8 := by
    apply Int8.toBitVec_inj.mp
    show (((x.toBitVec.sshiftRight ((shA i &&& 31).toBitVec.smod 32).toNat).signExtend 8).signExtend 32).signExtend 8 = (BitVec.ofNat 32 (fby x (4 * q + i))).signExtend 8
    rw [i8_8, shA_v i hi, fby_n hq hi]
    apply BitVec.eq_of_getLsbD_eq
    intro j hj
    rw [BitVec.getLsbD_signExtend, BitVec.getLsbD_signExtend, BitVec.getLsbD_sshiftRight, BitVec.getLsbD_ofNat, BitVec.toNat_ofNat, Nat.mod_eq_of_lt (show 24 - 8 * i < 2 ^ 32 by omega), show (256 : Nat) = 2 ^ 8 from rfl, Nat.testBit_mod_two_pow, Nat.testBit_shiftRight]
    simp [hj, show j < 32 by omega, show ¬ 32 ≤ j by omega, show 24 - 8 * i + j < 32 by omega, BitVec.getLsbD]
  unfold sby
  rw [e]
def st4 (t : Nat → Nat) (tp : Nat) (x : Int32) (q : Nat) : Nat → Nat := fun j => if tp ≤ j ∧ j < tp + 4 then fby x (4 * q + (j - tp)) else t j
theorem fed_s {t : Nat → Nat} {tp q : Nat} {a b c d e : Int32} (hq : q < 5) : fed t tp a b c d e (4 * (q + 1)) = st4 (fed t tp a b c d e (4 * q)) (tp + 4 * q) (fwd a b c d e (4 * q)) q := by
  funext j
  unfold st4
  by_cases c1 : tp + 4 * q ≤ j ∧ j < tp + 4 * q + 4
  · rw [if_pos c1]
    unfold fed
    rw [if_pos (by omega), show 4 * q + (j - (tp + 4 * q)) = j - tp by omega]
    congr 1
    obtain ⟨r, hr⟩ : ∃ r, j - tp = r := ⟨_, rfl⟩
    rw [hr]
    unfold fwd
    by_cases h4 : r < 4
    · rw [if_pos h4, if_pos (show 4 * q < 4 by omega)]
    · rw [if_neg h4, if_neg (show ¬ 4 * q < 4 by omega)]
      by_cases h8 : r < 8
      · rw [if_pos h8, if_pos (show 4 * q < 8 by omega)]
      · rw [if_neg h8, if_neg (show ¬ 4 * q < 8 by omega)]
        by_cases h12 : r < 12
        · rw [if_pos h12, if_pos (show 4 * q < 12 by omega)]
        · rw [if_neg h12, if_neg (show ¬ 4 * q < 12 by omega)]
          by_cases h16 : r < 16
          · rw [if_pos h16, if_pos (show 4 * q < 16 by omega)]
          · rw [if_neg h16, if_neg (show ¬ 4 * q < 16 by omega)]
  · rw [if_neg c1]
    unfold fed
    by_cases c2 : tp ≤ j ∧ j < tp + 4 * q
    · rw [if_pos c2, if_pos (by omega)]
    · rw [if_neg c2, if_neg (by omega)]
section A
variable {l : Launch} {G : Gh} {k : Nat} {I : Nat → Nat → Int32} {J : Nat → Nat → Int64} {R : Nat → Nat → Option Nat} {S : Nat → Nat × Nat} {nx : Nat} {κ : Nat → Nat} {hb pb : Nat}
variable {ι : Nat → Option (Nat → Nat)} {τ tm : Nat → Nat} {tn : Nat → Nat → Int64} {tp : Nat} {fk fp : Int32} {t : Nat → Nat} {ow : Nat → Nat} {L dl pl ld lp : Nat}
def ApQ (tp' : Nat) (t' : Nat → Nat) (I I' : Nat → Nat → Int32) : Prop := Fr [1, 2] I I' ∧ (∀ j, j ≠ 1 → I' 1 j = I 1 j) ∧ TpC I' t' tp'
theorem append_c {q : Nat} {x : Int32} (w : CF R S nx) (hT : TpC I t tp) (hq : q < 5) (h9 : tp + 4 ≤ 900) : Cal l G k 0 0 mX6_append [.ref 1, .int x] (I, J, R, S, nx) (fun r μ' => r = .inl none ∧ ∃ I', μ' = (I', J, R, S, nx) ∧ ApQ (tp + 4) (st4 t tp x q) I I') := by
  refine Cal.of rfl (by decide +kernel) (by simp) (Nat.le_of_ble_eq_true rfl) rfl (sX6_append_0 ?_)
  refine upto (W := fun i (s : Nat → Nat → Int32) => WP l G k 0 0 mX6_append _ 3 [some (.ref 1), some (.int x), some (.int (shA i))] [] (s, J, R, S, nx) 0 0) (P := fun i s => Fr [1, 2] I s ∧ (∀ j, j ≠ 1 → s 1 j = I 1 j) ∧ s 1 1 = nI (tp + i) ∧ ∀ j, j < tp + i → s 2 j = sby (st4 t tp x q j)) 4 ?_ ?_ (i := 0) (s := I) (Nat.zero_le _) ⟨Fr.rf, fun _ _ => rfl, hT.1, fun j hj => by rw [hT.2.2.1 j hj]; unfold st4; rw [if_neg (by omega)]⟩
  · intro I1 ⟨hF, h1, h2, h3⟩
    exact sX6_append_3 w (fun _ => ⟨rfl, _, rfl, hF, h1, h2, h9, h3, fun j hj => by
      unfold st4
      split
      · unfold fby; omega
      · exact hT.2.2.2 j (by omega)⟩) (fun c => absurd shA_n c) (fun c => absurd shA_n c) (fun c => absurd shA_n c)
  · intro i I1 hi ⟨hF, h1, h2, h3⟩ ih
    have c0 := shA_p i hi
    have c1 : ¬ (Int32.ofNat 900) ≤ I1 1 1 := by rw [h2]; exact nI_ge (b := 900) (by omega) (by decide)
    refine sX6_append_3 w (fun c => absurd c c0) (fun _ c => absurd c c1) (fun _ _ => by rw [h2]; exact vp_in_nI (by omega) (by decide)) (fun _ _ => ?_)
    rw [h2, nI_clamp (by omega), nI_1, by4 hq hi]
    refine ih _ ⟨(hF.up (by decide)).up (by decide), fun j hj => by rw [← h1 j hj]; simp [up2, hj], by simp [up2]; rfl, fun j hj => ?_⟩
    by_cases c : j = tp + i
    · subst c
      simp only [up2]
      simp
      unfold st4
      rw [if_pos (by omega), show tp + i - tp = i by omega]
    · rw [← h3 j (by omega)]; simp [up2, c]
theorem feed_p {x1 x2 x3 x4 x5 : Int32} (hl0 : l.stackTraces = false) (hC : CI (I, J, R, S, nx) (κ, ι, (τ, tm, tn), (t, tp), fk, fp)) (hs : sok hb pb κ) (hhb : hb < 2 ^ 28) : Cal l G (k + 1) 40 14000 mX11_feed [.ref 0, .int x1, .int x2, .int x3, .int x4, .int x5] (I, J, R, S, nx) (CQ (I, J, R, S, nx) (ansR [] (0, (aFeed t tp x1 x2 x3 x4 x5).1)) (κ, ι, (τ, tm, tn), ((aFeed t tp x1 x2 x3 x4 x5).2.1, (aFeed t tp x1 x2 x3 x4 x5).2.2), fk, fp)) := by
  have hC0 := hC
  obtain ⟨ow, L, dl, pl, ld, lp, hR, wL, hL, hN, hV, hP⟩ := hC
  have hR : CR I J R S nx ow ι τ tm tn t tp fk fp := hR
  have wL : R 14 0 = some L := wL
  have hL : LdC I R S nx ow L κ dl pl ld lp := hL
  have hN : CN I κ := hN
  have hV : PV I κ := hV
  have hP : PS I 30 31 κ := hP
  have w : CF R S nx := hR.1
  have hT : TpC I t tp := hR.2.2.1
  have h9 := hT.2.1
  have e6 : I 1 1 + (20 : Int32) = nI (tp + 20) := by rw [hT.1]; exact nI_add tp 20
  have eq : (I 1 1 + (20 : Int32) ≤ (900 : Int32)) = (tp + 20 ≤ 900) := by rw [e6]; exact propext (nI_leI (b := 900) (by omega) (by decide))
  by_cases g : tp + 20 ≤ 900
  · rw [show aFeed t tp x1 x2 x3 x4 x5 = (nI (tp + 20), fed t tp x1 x2 x3 x4 x5 20, tp + 20) by unfold aFeed; rw [if_pos g]]
    have f0 : fed t tp x1 x2 x3 x4 x5 (4 * 0) = t := by
      funext j; unfold fed; rw [if_neg (by omega)]
    have ap : ∀ q (I1 : Nat → Nat → Int32), q < 5 → TpC I1 (fed t tp x1 x2 x3 x4 x5 (4 * q)) (tp + 4 * q) → Cal l G k 0 0 mX6_append [.ref 1, .int (fwd x1 x2 x3 x4 x5 (4 * q))] (I1, J, R, S, nx) (fun r μ' => r = .inl none ∧ ∃ I', μ' = (I', J, R, S, nx) ∧ ApQ (tp + 4 * (q + 1)) (fed t tp x1 x2 x3 x4 x5 (4 * (q + 1))) I1 I') := fun q I1 hq h1 => by
      have := append_c (l := l) (G := G) (k := k) (J := J) (I := I1) (x := fwd x1 x2 x3 x4 x5 (4 * q)) w h1 hq (by omega)
      rw [fed_s hq, show tp + 4 * (q + 1) = tp + 4 * q + 4 by omega]; exact this
    refine Cal.of rfl (by decide +kernel) (by simp) (Nat.le_of_ble_eq_true rfl) rfl (sX11_feed_0 (P1 := ApQ (tp + 4 * 1) (fed t tp x1 x2 x3 x4 x5 (4 * 1))) (P2 := ApQ (tp + 4 * 2) (fed t tp x1 x2 x3 x4 x5 (4 * 2))) (P3 := ApQ (tp + 4 * 3) (fed t tp x1 x2 x3 x4 x5 (4 * 3))) (P4 := ApQ (tp + 4 * 4) (fed t tp x1 x2 x3 x4 x5 (4 * 4))) (P5 := ApQ (tp + 4 * 5) (fed t tp x1 x2 x3 x4 x5 (4 * 5))) w ?_ ?_ ?_ ?_ ?_ ?_ ?_)
    · intro _; exact ap 0 I (by decide) (by rw [f0]; exact hT)
    · intro _ I1 h1; exact ap 1 I1 (by decide) h1.2.2
    · intro _ I1 h1 I2 h2; exact ap 2 I2 (by decide) h2.2.2
    · intro _ I1 h1 I2 h2 I3 h3; exact ap 3 I3 (by decide) h3.2.2
    · intro _ I1 h1 I2 h2 I3 h3 I4 h4; exact ap 4 I4 (by decide) h4.2.2
    · intro _ I1 h1 I2 h2 I3 h3 I4 h4 I5 h5
      have hF : Fr [1, 2] I I5 := (((h1.1.tr h2.1 (r3 := [1, 2]) (by decide)).tr h3.1 (r3 := [1, 2]) (by decide)).tr h4.1 (r3 := [1, 2]) (by decide)).tr h5.1 (by decide)
      have e1 : ∀ j, j ≠ 1 → I5 1 j = I 1 j := fun j hj => by rw [h5.2.1 j hj, h4.2.1 j hj, h3.2.1 j hj, h2.2.1 j hj, h1.2.1 j hj]
      have e : ∀ a, a ≠ 1 → a ≠ 2 → I5 a = I a := fun a ha hb => hF a (by simp [ha, hb])
      refine ⟨ok0 h5.2.2.1, ⟨Nat.le_refl _, fun a ha hb => ⟨e a (by omega) (by omega), rfl, rfl, rfl⟩⟩, CI.mk2 hR wL hL hN hV hP (fun a ha => e a (by omega) (by omega)) (fun q hq => ?_) h5.2.2 ?_⟩
      · rw [e _ (by omega) (by omega)]; exact hR.2.1 q hq
      · rw [e1 11 (by decide), e1 12 (by decide)]; exact hR.2.2.2.1
    · intro c; rw [eq] at c; exact absurd g c
  · rw [show aFeed t tp x1 x2 x3 x4 x5 = (-1, t, tp) by unfold aFeed; rw [if_neg g]]
    refine Cal.of rfl (by decide +kernel) (by simp) (Nat.le_of_ble_eq_true rfl) rfl (sX11_feed_0 (P1 := fun _ _ => True) (P2 := fun _ _ => True) (P3 := fun _ _ => True) (P4 := fun _ _ => True) (P5 := fun _ _ => True) w ?_ ?_ ?_ ?_ ?_ ?_ ?_)
    · intro c; rw [eq] at c; exact absurd c g
    · intro c; rw [eq] at c; exact absurd c g
    · intro c; rw [eq] at c; exact absurd c g
    · intro c; rw [eq] at c; exact absurd c g
    · intro c; rw [eq] at c; exact absurd c g
    · intro c; rw [eq] at c; exact absurd c g
    · intro _; exact ⟨ok0 rfl, CI.same hC0⟩
end A
