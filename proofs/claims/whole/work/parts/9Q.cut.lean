/-! numbers cut -/
theorem sx_cut {w : Nat} (x : BitVec w) (n : Nat) (h : n < w) : (x <<< n).sshiftRight n = (x.signExtend (w - n)).signExtend w := by
  apply BitVec.eq_of_getLsbD_eq
  intro i hi
  rw [BitVec.getLsbD_sshiftRight, BitVec.getLsbD_signExtend, BitVec.getLsbD_signExtend, BitVec.msb_eq_getLsbD_last, BitVec.msb_eq_getLsbD_last, BitVec.msb_eq_getLsbD_last, BitVec.getLsbD_signExtend]
  simp only [BitVec.getLsbD_shiftLeft, hi, decide_true, Bool.true_and]
  by_cases c : n + i < w
  · have e1 : i < w - n := by omega
    simp [c, e1, hi, show ¬ w ≤ i by omega, show i < w by omega]
  · have e1 : ¬ i < w - n := by omega
    simp [c, e1, hi, show ¬ w ≤ i by omega, show ¬ w - 1 < n by omega, show w - 1 - n < w by omega, show w - n - 1 < w - n by omega, show w - n - 1 < w by omega, show w - 1 - n = w - n - 1 by omega]
    try omega
theorem sx_sx {w a b : Nat} (x : BitVec w) (h : b ≤ a) (h2 : a ≤ w) : (x.signExtend a).signExtend b = x.signExtend b := by
  apply BitVec.eq_of_getLsbD_eq
  intro i hi
  rw [BitVec.getLsbD_signExtend, BitVec.getLsbD_signExtend, BitVec.getLsbD_signExtend]
  simp [hi, show i < a by omega, show i < w by omega]
theorem sx_up {w a b : Nat} (x : BitVec w) (h : w ≤ a) (h2 : a ≤ b) : (x.signExtend a).signExtend b = x.signExtend b := by
  apply BitVec.eq_of_getLsbD_eq
  intro i hi
  rw [BitVec.getLsbD_signExtend, BitVec.getLsbD_signExtend, BitVec.getLsbD_signExtend]
  by_cases c : i < w
  · simp [hi, c, show i < a by omega]
  · have hm : (x.signExtend a).msb = x.msb := by
      rw [BitVec.msb_eq_getLsbD_last, BitVec.getLsbD_signExtend]
      by_cases ca : a = 0
      · subst ca
        have : w = 0 := by omega
        subst this
        simp [BitVec.msb_eq_getLsbD_last]
      · by_cases cw : a - 1 < w
        · have : a = w := by omega
          subst this
          simp [BitVec.msb_eq_getLsbD_last, show a - 1 < a by omega]
        · simp [cw, show a - 1 < a by omega]
    by_cases ca : i < a
    · simp [hi, c, ca]
    · simp [hi, c, ca, hm]
theorem cut0 (v : Int64) : Int32.toInt64 (Int32.toInt8 (Int64.toInt32 v)).toInt32 = qcut 0 v := by
  unfold qcut
  rw [show Int32.toInt64 ((64 : Int32) - ((8 : Int32) <<< (nI 0 &&& 31))) &&& 63 = (56 : Int64) by decide +kernel]
  apply Int64.toBitVec_inj.mp
  show (((v.toBitVec.signExtend 32).signExtend 8).signExtend 32).signExtend 64 = (v.toBitVec <<< ((56 : Int64).toBitVec.smod 64)).sshiftRight ((56 : Int64).toBitVec.smod 64).toNat
  rw [show (56 : Int64).toBitVec.smod 64 = 56#64 by decide +kernel, sx_sx (a := 32) (b := 8) v.toBitVec (by decide) (by decide), sx_up (a := 32) (b := 64) (v.toBitVec.signExtend 8) (by decide) (by decide)]
  exact (sx_cut v.toBitVec 56 (by decide)).symm
theorem cut1 (v : Int64) : Int32.toInt64 (Int32.toInt16 (Int64.toInt32 v)).toInt32 = qcut 1 v := by
  unfold qcut
  rw [show Int32.toInt64 ((64 : Int32) - ((8 : Int32) <<< (nI 1 &&& 31))) &&& 63 = (48 : Int64) by decide +kernel]
  apply Int64.toBitVec_inj.mp
  show (((v.toBitVec.signExtend 32).signExtend 16).signExtend 32).signExtend 64 = (v.toBitVec <<< ((48 : Int64).toBitVec.smod 64)).sshiftRight ((48 : Int64).toBitVec.smod 64).toNat
  rw [show (48 : Int64).toBitVec.smod 64 = 48#64 by decide +kernel, sx_sx (a := 32) (b := 16) v.toBitVec (by decide) (by decide), sx_up (a := 32) (b := 64) (v.toBitVec.signExtend 16) (by decide) (by decide)]
  exact (sx_cut v.toBitVec 48 (by decide)).symm
theorem cut2 (v : Int64) : Int32.toInt64 (Int64.toInt32 v) = qcut 2 v := by
  unfold qcut
  rw [show Int32.toInt64 ((64 : Int32) - ((8 : Int32) <<< (nI 2 &&& 31))) &&& 63 = (32 : Int64) by decide +kernel]
  apply Int64.toBitVec_inj.mp
  show (v.toBitVec.signExtend 32).signExtend 64 = (v.toBitVec <<< ((32 : Int64).toBitVec.smod 64)).sshiftRight ((32 : Int64).toBitVec.smod 64).toNat
  rw [show (32 : Int64).toBitVec.smod 64 = 32#64 by decide +kernel]
  exact (sx_cut v.toBitVec 32 (by decide)).symm
theorem cut3 (v : Int64) : v = qcut 3 v := by
  unfold qcut
  rw [show Int32.toInt64 ((64 : Int32) - ((8 : Int32) <<< (nI 3 &&& 31))) &&& 63 = (0 : Int64) by decide +kernel]
  apply Int64.toBitVec_inj.mp
  show v.toBitVec = (v.toBitVec <<< ((0 : Int64).toBitVec.smod 64)).sshiftRight ((0 : Int64).toBitVec.smod 64).toNat
  rw [show (0 : Int64).toBitVec.smod 64 = 0#64 by decide +kernel]
  simp
section A
variable {l : Launch} {G : Gh} {k : Nat} {I : Nat → Nat → Int32} {J : Nat → Nat → Int64} {R : Nat → Nat → Option Nat} {S : Nat → Nat × Nat} {nx : Nat} {κ : Nat → Nat} {hb pb : Nat}
theorem cut_c {y s : Nat} {v : Int64} (hn : y < nx) (hs : (S y).1 = 9) (h0 : I y 0 = nI s) (h3 : s ≤ 3) : Cal l G k 0 0 mX9_cut [.ref y, .long v] (I, J, R, S, nx) (fun r μ' => r = .inl (some (.long (qcut s v))) ∧ ∃ I', μ' = (I', J, R, S, nx) ∧ I' = I) := by
  have ht := nI_toInt (n := s) (by omega)
  refine Cal.of rfl (by decide +kernel) (by simp) (Nat.le_of_ble_eq_true rfl) rfl (sX9_cut_0 hn hs (fun g => ?_) (fun g => ?_) (fun g => ?_) (fun g => ?_))
  · rw [h0, ht] at g
    have : s = 3 := by omega
    subst this; exact ⟨by rw [← cut3 v], _, rfl, rfl⟩
  · rw [h0] at g
    have : s = 0 := (nI_eq (b := 0) (by omega) (by decide)).mp g
    subst this; exact ⟨by rw [cut0 v], _, rfl, rfl⟩
  · rw [h0] at g
    have : s = 1 := (nI_eq (b := 1) (by omega) (by decide)).mp g
    subst this; exact ⟨by rw [cut1 v], _, rfl, rfl⟩
  · rw [h0] at g
    have : s = 2 := (nI_eq (b := 2) (by omega) (by decide)).mp g
    subst this; exact ⟨by rw [cut2 v], _, rfl, rfl⟩
end A
