/-! the class: rows filled; hours to come -/
/-- a block of cells apart from a land -/
def AP (o n L dl pl : Nat) : Prop := 72 ≤ o ∧ (o + n ≤ L ∨ L + 10 ≤ o) ∧ (dl < o ∨ o + n ≤ dl) ∧ (pl < o ∨ o + n ≤ pl)
section A
variable {l : Launch} {G : Gh} {k : Nat} {I : Nat → Nat → Int32} {J : Nat → Nat → Int64} {R : Nat → Nat → Option Nat} {S : Nat → Nat × Nat} {nx : Nat} {κ : Nat → Nat} {hb pb : Nat}
theorem CK.ag {L dl pl ld lp : Nat} {I' : Nat → Nat → Int32} (h : CK I κ L dl pl ld lp) (e : ∀ b, (b = 25 ∨ b = 29 ∨ (L ≤ b ∧ b < L + 10) ∨ b = dl ∨ b = pl) → I' b = I b) : CK I' κ L dl pl ld lp := by
  obtain ⟨hN, ⟨h1, h2, h3, h4, h5, h6⟩, hP⟩ := h
  refine ⟨fun i hi => by rw [e 25 (by omega)]; exact hN i hi, ⟨?_, fun w hw => ?_, fun a ha => ?_, fun k hk => ?_, ⟨h5.1, fun i hi => ?_⟩, ⟨h6.1, fun i hi => ?_⟩⟩, fun w h' a g1 g2 g3 => by rw [e 29 (by omega)]; exact hP w h' a g1 g2 g3⟩
  · rw [e L (by omega)]; exact h1
  · rw [e (L + 1) (by omega), e (L + 2) (by omega)]; exact h2 w hw
  · rw [e (L + 3) (by omega), e (L + 4) (by omega)]; exact h3 a ha
  · rw [e (L + 7) (by omega)]; exact h4 k hk
  · rw [e dl (by omega)]; exact h5.2 i hi
  · rw [e pl (by omega)]; exact h6.2 i hi
theorem CK.dy {L dl pl ld lp o n a i : Nat} {v : Int32} (h : CK I κ L dl pl ld lp) (ap : AP o n L dl pl) (ha : o ≤ a ∧ a < o + n) : CK (up2 I a i v) κ L dl pl ld lp := by
  obtain ⟨a0, a1, a2, a3⟩ := ap
  refine h.ag (fun b hb => ?_)
  have : b ≠ a := by omega
  funext j
  simp [up2, this]
theorem CK.df {L dl pl ld lp o n a : Nat} {I' : Nat → Nat → Int32} (h : CK I κ L dl pl ld lp) (ap : AP o n L dl pl) (ha : o ≤ a ∧ a < o + n) (hF : Fr [a] I I') : CK I' κ L dl pl ld lp := by
  obtain ⟨a0, a1, a2, a3⟩ := ap
  refine h.ag (fun b hb => hF b ?_)
  simp; omega
theorem ofN (n : Nat) : Int32.ofNat n = nI n := rfl
theorem fill_i {a n : Nat} {v : Int32} (hs : S a = (100, n)) (ha : a < nx) (hn : n < 2 ^ 31) : Cal l G k 0 0 mJ7_fill_53178 [.ref a, .int v] (I, J, R, S, nx) (fun r μ' => r = .inl none ∧ ∃ I', μ' = (I', J, R, S, nx) ∧ Fr [a] I I' ∧ ∀ j, j < n → I' a j = v) := by
  refine Cal.of rfl (by decide +kernel) (by simp) (Nat.le_of_ble_eq_true rfl) rfl (sJ7_fill_53178_0 hs ha ?_)
  refine upto (W := fun i I3 => hJ7_fill_53178_5 l G k _ a v (nI i) (nI n) (I3, J, R, S, nx)) (P := fun i I3 => Fr [a] I I3 ∧ ∀ j, j < i → I3 a j = v) n ?_ ?_ (i := 0) (Nat.zero_le _) ⟨Fr.rf, fun j hj => absurd hj (Nat.not_lt_zero _)⟩
  · intro I3 ⟨hF, hv⟩
    have c1 : nI n ≤ nI n := nI_le (Nat.le_refl _) (by omega)
    refine sJ7_fill_53178_5 hs ha ?_ ?_ ?_ <;> intros <;> (first | exact absurd (by with_reducible assumption) c1 | exact absurd c1 (by with_reducible assumption) | skip)
    exact ⟨rfl, _, rfl, hF, hv⟩
  · intro i I3 hi ⟨hF, hv⟩ ih
    have c1 : ¬ nI n ≤ nI i := nI_ge hi (by omega)
    refine sJ7_fill_53178_5 hs ha ?_ ?_ ?_ <;> intros <;> (first | exact absurd (by with_reducible assumption) c1 | exact absurd c1 (by with_reducible assumption) | skip)
    · exact vp_in_nI hi hn
    · rw [nI_1, nI_clamp (by omega)]
      refine ih _ ⟨hF.up (by simp), fun j hj => ?_⟩
      by_cases c : j = i
      · simp [up2, c]
      · simp only [up2, if_true, if_neg c]; exact hv j (by omega)
theorem fill_l {a n : Nat} {v : Int64} (hs : S a = (101, n)) (ha : a < nx) (hn : n < 2 ^ 31) : Cal l G k 0 0 mJ7_fill_d0a16 [.ref a, .long v] (I, J, R, S, nx) (fun r μ' => r = .inl none ∧ ∃ J', μ' = (I, J', R, S, nx) ∧ (∀ b, b ≠ a → J' b = J b) ∧ ∀ j, j < n → J' a j = v) := by
  refine Cal.of rfl (by decide +kernel) (by simp) (Nat.le_of_ble_eq_true rfl) rfl (sJ7_fill_d0a16_0 hs ha ?_)
  refine upto (W := fun i (J3 : Nat → Nat → Int64) => hJ7_fill_d0a16_6 l G k _ a v (nI i) (nI n) (I, J3, R, S, nx)) (P := fun i J3 => (∀ b, b ≠ a → J3 b = J b) ∧ ∀ j, j < i → J3 a j = v) n ?_ ?_ (i := 0) (Nat.zero_le _) ⟨fun _ _ => rfl, fun j hj => absurd hj (Nat.not_lt_zero _)⟩
  · intro I3 ⟨hF, hv⟩
    have c1 : nI n ≤ nI n := nI_le (Nat.le_refl _) (by omega)
    refine sJ7_fill_d0a16_6 hs ha ?_ ?_ ?_ <;> intros <;> (first | exact absurd (by with_reducible assumption) c1 | exact absurd c1 (by with_reducible assumption) | skip)
    exact ⟨rfl, _, rfl, hF, hv⟩
  · intro i I3 hi ⟨hF, hv⟩ ih
    have c1 : ¬ nI n ≤ nI i := nI_ge hi (by omega)
    refine sJ7_fill_d0a16_6 hs ha ?_ ?_ ?_ <;> intros <;> (first | exact absurd (by with_reducible assumption) c1 | exact absurd c1 (by with_reducible assumption) | skip)
    · exact vp_in_nI hi hn
    · rw [nI_1, nI_clamp (by omega)]
      refine ih _ ⟨fun b hb => ?_, fun j hj => ?_⟩
      · funext j; simp only [up2, if_neg hb]; exact congrFun (hF b hb) j
      · by_cases c : j = i
        · simp [up2, c]
        · simp only [up2, if_true, if_neg c]; exact hv j (by omega)
theorem fill_b {a n : Nat} (hs : S a = (102, n)) (ha : a < nx) (hn : n < 2 ^ 31) : Cal l G k 0 0 mJ7_fill_031fb [.ref a, .int 0] (I, J, R, S, nx) (fun r μ' => r = .inl none ∧ ∃ I', μ' = (I', J, R, S, nx) ∧ Fr [a] I I' ∧ ∀ j, j < n → I' a j = 0) := by
  refine Cal.of rfl (by decide +kernel) (by simp) (Nat.le_of_ble_eq_true rfl) rfl (sJ7_fill_031fb_0 hs ha ?_)
  refine upto (W := fun i I3 => hJ7_fill_031fb_5 l G k _ a 0 (nI i) (nI n) (I3, J, R, S, nx)) (P := fun i I3 => Fr [a] I I3 ∧ ∀ j, j < i → I3 a j = 0) n ?_ ?_ (i := 0) (Nat.zero_le _) ⟨Fr.rf, fun j hj => absurd hj (Nat.not_lt_zero _)⟩
  · intro I3 ⟨hF, hv⟩
    have c1 : nI n ≤ nI n := nI_le (Nat.le_refl _) (by omega)
    refine sJ7_fill_031fb_5 hs ha ?_ ?_ ?_ <;> intros <;> (first | exact absurd (by with_reducible assumption) c1 | exact absurd c1 (by with_reducible assumption) | skip)
    exact ⟨rfl, _, rfl, hF, hv⟩
  · intro i I3 hi ⟨hF, hv⟩ ih
    have c1 : ¬ nI n ≤ nI i := nI_ge hi (by omega)
    refine sJ7_fill_031fb_5 hs ha ?_ ?_ ?_ <;> intros <;> (first | exact absurd (by with_reducible assumption) c1 | exact absurd c1 (by with_reducible assumption) | skip)
    · exact vp_in_nI hi hn
    · rw [nI_1, nI_clamp (by omega)]
      refine ih _ ⟨hF.up (by simp), fun j hj => ?_⟩
      by_cases c : j = i
      · simp [up2, c]
      · simp only [up2, if_true, if_neg c]; exact hv j (by omega)
/-- the degrees laid; the acts laid that bar -/
def DG (I : Nat → Nat → Int32) (κ : Nat → Nat) (O wn ah n : Nat) : Prop := ∀ j, j < n → I (O + 1) j = nI (qdeg κ wn (κ 54 + ah + j))
def BR (I : Nat → Nat → Int32) (κ : Nat → Nat) (O kd wn ah n : Nat) (wm : Int) : Prop := ∀ j, j < n → I (O + 2) j = nI (qcd κ kd wn (κ 54 + ah + j) wm)
theorem DG.fr {O wn ah n : Nat} {rs : List Nat} {I' : Nat → Nat → Int32} (h : DG I κ O wn ah n) (hF : Fr rs I I') (hr : O + 1 ∉ rs) : DG I' κ O wn ah n := fun j hj => by rw [hF _ hr]; exact h j hj
theorem layDegrees_c {wn ah n : Nat} {L dl pl ld lp : Nat} (w : CF R S nx) (wL : R 14 0 = some L) (wl : LW R S nx L dl pl ld lp) (h : CK I κ L dl pl ld lp) (ho : qok hb pb κ) (hhb : hb < 2 ^ 29) {O : Nat} (wO : OW R S nx O) (ap : AP O 5 L dl pl) (hw : wn < 5) (hn : n ≤ 224) (hah : ah ≤ 1000) : Cal l G (k + 3) 0 0 mX4_layDegrees [.ref O, .int (nI wn), .int (nI ah), .int (nI n)] (I, J, R, S, nx) (fun r μ' => r = .inl none ∧ ∃ I', μ' = (I', J, R, S, nx) ∧ Fr [27, 28, 29, O + 1] I I' ∧ CK I' κ L dl pl ld lp ∧ DG I' κ O wn ah n) := by
  have h54 : κ 54 ≤ hb := ho.2.2.2.2.2.2.2.2.2.2.1
  refine Cal.of rfl (by decide +kernel) (by simp) (Nat.le_of_ble_eq_true rfl) rfl (sX4_layDegrees_0 wO ?_)
  refine upto (W := fun i I3 => hX4_layDegrees_3 l G k _ O (nI wn) (nI ah) (nI n) (nI i) (I3, J, R, S, nx)) (P := fun i I3 => Fr [27, 28, 29, O + 1] I I3 ∧ CK I3 κ L dl pl ld lp ∧ DG I3 κ O wn ah i) n ?_ ?_ (i := 0) (Nat.zero_le _) ⟨Fr.rf, h, fun j hj => absurd hj (Nat.not_lt_zero _)⟩
  · intro I3 ⟨hF, hK, hD⟩
    have c1 : nI n ≤ nI n := nI_le (Nat.le_refl _) (by omega)
    refine sX4_layDegrees_3 (u1 := 0) (P1 := fun _ _ => True) w wO ?_ ?_ ?_ ?_ ?_ <;> intros <;> (first | exact absurd (by with_reducible assumption) c1 | exact absurd c1 (by with_reducible assumption) | skip)
    exact ⟨rfl, _, rfl, hF, hK, hD⟩
  · intro i I3 hi ⟨hF, hK, hD⟩ ih
    have c1 : ¬ nI n ≤ nI i := nI_ge hi (by omega)
    have c2 : ¬ Int32.ofNat 224 ≤ nI i := nI_ge (by omega) (by omega)
    refine sX4_layDegrees_3 (u1 := nI (qdeg κ wn (κ 54 + ah + i))) (P1 := fun I I' => Fr [27, 28] I I' ∧ CK I' κ L dl pl ld lp) w wO ?_ ?_ ?_ ?_ ?_ <;> intros <;> (first | exact absurd (by with_reducible assumption) c1 | exact absurd c1 (by with_reducible assumption) | exact absurd (by with_reducible assumption) c2 | exact absurd c2 (by with_reducible assumption) | skip)
    · rw [hK.1.h.1, nI_add, nI_add]; exact degreeIn_c (k := k) w wL wl hK ho hhb hw (by omega)
    · exact vp_in_nI (by omega) (by decide)
    · rename_i I4 h4
      rw [nI_1, nI_clamp (by omega)]
      refine ih _ ⟨(hF.tr (r3 := [27, 28, 29, O + 1]) h4.1 (by simp)).up (by simp), h4.2.dy ap (by omega), fun j hj => ?_⟩
      by_cases c : j = i
      · simp [up2, c]
      · simp only [up2, if_true, if_neg c]
        rw [h4.1 (O + 1) (by have := ap.1; simp; omega)]
        exact hD j (by omega)
theorem layBarring_c {kd wn ah n : Nat} {wm : Int} {L dl pl ld lp : Nat} (w : CF R S nx) (wL : R 14 0 = some L) (wl : LW R S nx L dl pl ld lp) (h : CK I κ L dl pl ld lp) (ho : qok hb pb κ) (hhb : hb < 2 ^ 29) {O : Nat} (wO : OW R S nx O) (ap : AP O 5 L dl pl) (hk : kd < 10) (hw : wn < 5) (hn : n ≤ 224) (hah : ah ≤ 1000) (hwm : -100 ≤ wm ∧ wm ≤ 100) (hD : DG I κ O wn ah n) : Cal l G (k + 3) 0 0 mX4_layBarring [.ref O, .int (nI kd), .int (nI wn), .int (nI ah), .int (nI n), .int (zI wm)] (I, J, R, S, nx) (fun r μ' => r = .inl none ∧ ∃ I', μ' = (I', J, R, S, nx) ∧ Fr [27, 28, 29, O + 2] I I' ∧ CK I' κ L dl pl ld lp ∧ BR I' κ O kd wn ah n wm) := by
  have h54 : κ 54 ≤ hb := ho.2.2.2.2.2.2.2.2.2.2.1
  have hac := qac_lt ho kd
  refine Cal.of rfl (by decide +kernel) (by simp) (Nat.le_of_ble_eq_true rfl) rfl (sX4_layBarring_0 (u1 := nI (qac κ kd)) (P1 := fun I I' => I' = I) w wO (actsOf_c (k := k + 1) w wL wl h ho hhb hk) (fun I1 h1 => ?_))
  subst h1
  refine upto (W := fun i I3 => hX4_layBarring_13 l G k _ O (nI wn) (nI ah) (nI n) (zI wm) (nI (qac κ kd)) (nI i) (I3, J, R, S, nx)) (P := fun i I3 => Fr [27, 28, 29, O + 2] I1 I3 ∧ CK I3 κ L dl pl ld lp ∧ BR I3 κ O kd wn ah i wm) n ?_ ?_ (i := 0) (Nat.zero_le _) ⟨Fr.rf, h, fun j hj => absurd hj (Nat.not_lt_zero _)⟩
  · intro I3 ⟨hF, hK, hB⟩
    have c1 : nI n ≤ nI n := nI_le (Nat.le_refl _) (by omega)
    refine sX4_layBarring_13 (u1 := 0) (P1 := fun _ _ => True) w wO ?_ ?_ ?_ ?_ ?_ ?_ <;> intros <;> (first | exact absurd (by with_reducible assumption) c1 | exact absurd c1 (by with_reducible assumption) | skip)
    exact ⟨rfl, _, rfl, hF, hK, hB⟩
  · intro i I3 hi ⟨hF, hK, hB⟩ ih
    have c1 : ¬ nI n ≤ nI i := nI_ge hi (by omega)
    have c2 : ¬ Int32.ofNat 224 ≤ nI i := nI_ge (by omega) (by omega)
    have hq := qdeg_le κ wn (κ 54 + ah + i)
    have e1 : v_X7_keptDegree (I3 (O + 1) (nI i).toNatClampNeg + zI wm) = nI (qkept ((qdeg κ wn (κ 54 + ah + i) : Int) + wm)) := by
      rw [nI_clamp (by omega), hF (O + 1) (by have := ap.1; simp; omega), hD i hi, nI_z, zI_add, kept_c (by omega)]
    refine sX4_layBarring_13 (u1 := nI (qcd κ kd wn (κ 54 + ah + i) wm)) (P1 := fun I I' => Fr [27, 28, 29] I I' ∧ CK I' κ L dl pl ld lp) w wO ?_ ?_ ?_ ?_ ?_ ?_ <;> intros <;> (first | exact absurd (by with_reducible assumption) c1 | exact absurd c1 (by with_reducible assumption) | exact absurd (by with_reducible assumption) c2 | exact absurd c2 (by with_reducible assumption) | skip)
    · exact vp_in_nI (by omega) (by decide)
    · rw [hK.1.h.1, nI_add, nI_add, e1, ← qcd_ac]
      exact inForce_c w wL wl hK ho hhb hw (by omega) (qkept_le _) (by omega)
    · exact vp_in_nI (by omega) (by decide)
    · rename_i I4 h4
      rw [nI_1, nI_clamp (by omega)]
      refine ih _ ⟨(hF.tr (r3 := [27, 28, 29, O + 2]) h4.1 (by simp)).up (by simp), h4.2.dy ap (by omega), fun j hj => ?_⟩
      by_cases c : j = i
      · simp [up2, c]
      · simp only [up2, if_true, if_neg c]
        rw [h4.1 (O + 2) (by have := ap.1; simp; omega)]
        exact hB j (by omega)
theorem layOut_c {kd wn n : Nat} {L dl pl ld lp : Nat} (w : CF R S nx) (wL : R 14 0 = some L) (wl : LW R S nx L dl pl ld lp) (h : CK I κ L dl pl ld lp) (ho : qok hb pb κ) (hhb : hb < 2 ^ 29) {O : Nat} (wO : OW R S nx O) (ap : AP O 5 L dl pl) (hk : kd < 10) (hw : wn < 5) (hn : n ≤ 224) : Cal l G (k + 4) 0 0 mX4_layOut [.ref O, .int (nI kd), .int (nI wn), .int (nI n)] (I, J, R, S, nx) (fun r μ' => r = .inl none ∧ ∃ I', μ' = (I', J, R, S, nx) ∧ Fr [27, 28, 29, O + 1, O + 2] I I' ∧ CK I' κ L dl pl ld lp ∧ BR I' κ O kd wn 0 n 0) := by
  refine Cal.of rfl (by decide +kernel) (by simp) (Nat.le_of_ble_eq_true rfl) rfl (sX4_layOut_0 (P1 := fun I I' => Fr [27, 28, 29, O + 1] I I' ∧ CK I' κ L dl pl ld lp ∧ DG I' κ O wn 0 n) (P2 := fun I I' => Fr [27, 28, 29, O + 2] I I' ∧ CK I' κ L dl pl ld lp ∧ BR I' κ O kd wn 0 n 0) wO (layDegrees_c (k := k) (ah := 0) w wL wl h ho hhb wO ap hw hn (by omega)) ?_ ?_)
  · intro I1 h1; exact layBarring_c (ah := 0) (wm := 0) w wL wl h1.2.1 ho hhb wO ap hk hw hn (by omega) (by omega) h1.2.2
  · intro I1 h1 I2 h2; exact ⟨rfl, _, rfl, h1.1.tr h2.1 (by simp), h2.2⟩
theorem isFree_c {O c : Nat} {p : Nat → Bool} (wO : OW R S nx O) (hc : c ≤ 224) (hp : ∀ j, j < c → (I (O + 2) j = 0 ↔ p j = true)) : Cal l G k 0 0 mX4_isFree [.ref O, .int (nI c)] (I, J, R, S, nx) (fun r μ' => r = .inl (some (.int (if qfree p 0 c then 1 else 0))) ∧ ∃ I', μ' = (I', J, R, S, nx) ∧ I' = I) := by
  refine Cal.of rfl (by decide +kernel) (by simp) (Nat.le_of_ble_eq_true rfl) rfl (sX4_isFree_0 wO ?_)
  refine upto (σ := Unit) (W := fun i _ => hX4_isFree_2 l G k _ O (nI c) (nI i) (I, J, R, S, nx)) (P := fun i _ => ∀ j, j < i → p (0 + j) = true) c ?_ ?_ (i := 0) (s := ()) (Nat.zero_le _) (fun j hj => absurd hj (Nat.not_lt_zero _))
  · intro _ h
    have c1 : nI c ≤ nI c := nI_le (Nat.le_refl _) (by omega)
    refine sX4_isFree_2 wO ?_ ?_ ?_ ?_ ?_ <;> intros <;> (first | exact absurd (by with_reducible assumption) c1 | exact absurd c1 (by with_reducible assumption) | skip)
    exact ⟨by rw [if_pos (qfree_iff.mpr h)], _, rfl, rfl⟩
  · intro i _ hi h ih
    have c1 : ¬ nI c ≤ nI i := nI_ge hi (by omega)
    have c2 : ¬ Int32.ofNat 224 ≤ nI i := nI_ge (by omega) (by omega)
    have e1 := hp i hi
    refine sX4_isFree_2 wO ?_ ?_ ?_ ?_ ?_ <;> intros <;> (first | exact absurd (by with_reducible assumption) c1 | exact absurd c1 (by with_reducible assumption) | exact absurd (by with_reducible assumption) c2 | exact absurd c2 (by with_reducible assumption) | skip)
    · exact vp_in_nI (by omega) (by decide)
    · rename_i g; rw [nI_clamp (by omega)] at g
      rw [nI_1]
      refine ih () (fun j hj => ?_)
      by_cases c : j = i
      · rw [c, Nat.zero_add]; exact e1.mp g
      · exact h j (by omega)
    · rename_i g; rw [nI_clamp (by omega)] at g
      refine ⟨by rw [if_neg (fun q => g (e1.mpr (by have := qfree_iff.mp q i hi; rwa [Nat.zero_add] at this)))], _, rfl, rfl⟩
theorem qso_found {p : Nat → Bool} {fr c d : Nat} (hd : d < 201) (h1 : ∀ j, j < d → qfree p (fr + j) c = false) (h2 : qfree p (fr + d) c = true) : qso p fr c = some (fr + d) := by
  have := first_eq (p := fun d => qfree p (fr + d) c) (n := 201) h1 hd h2
  unfold qso; rw [this, if_pos hd]
theorem qso_none {p : Nat → Bool} {fr c : Nat} (h1 : ∀ j, j < 201 → qfree p (fr + j) c = false) : qso p fr c = none := by
  have := first_no (p := fun d => qfree p (fr + d) c) (n := 201) h1
  unfold qso; rw [this, if_neg (Nat.lt_irrefl _)]
/-- a row of free hours under way: at n, r of them -/
def Rw (p : Nat → Bool) (fr c n r : Nat) : Prop := r < c ∧ r ≤ n ∧ (∀ d, d + c ≤ n → qfree p (fr + d) c = false) ∧ (∀ j, n - r ≤ j → j < n → p (fr + j) = true) ∧ (r < n → p (fr + (n - r - 1)) = false)
theorem Rw.z {p : Nat → Bool} {fr c : Nat} (hc : 1 ≤ c) : Rw p fr c 0 0 := ⟨hc, Nat.le_refl _, fun d hd => absurd hd (by omega), fun j _ hj => absurd hj (Nat.not_lt_zero _), fun h => absurd h (Nat.lt_irrefl _)⟩
theorem qfree_no {p : Nat → Bool} {d c j : Nat} (hj : j < c) (h : p (d + j) = false) : qfree p d c = false := by
  cases hq : qfree p d c with
  | false => rfl
  | true => have := qfree_iff.mp hq j hj; rw [h] at this; cases this
theorem Rw.no {p : Nat → Bool} {fr c n r : Nat} (h : Rw p fr c n r) (hp : p (fr + n) = false) : Rw p fr c (n + 1) 0 := by
  obtain ⟨h1, h2, h3, h4, h5⟩ := h
  refine ⟨by omega, by omega, fun d hd => ?_, fun j g1 g2 => absurd g1 (by omega), fun _ => by rw [show n + 1 - 0 - 1 = n by omega]; exact hp⟩
  by_cases c1 : d + c ≤ n
  · exact h3 d c1
  · exact qfree_no (j := n - d) (by omega) (by rw [show fr + d + (n - d) = fr + n by omega]; exact hp)
theorem Rw.go {p : Nat → Bool} {fr c n r : Nat} (h : Rw p fr c n r) (hp : p (fr + n) = true) (hr : r + 1 ≠ c) : Rw p fr c (n + 1) (r + 1) := by
  obtain ⟨h1, h2, h3, h4, h5⟩ := h
  refine ⟨by omega, by omega, fun d hd => ?_, fun j g1 g2 => ?_, fun g => by rw [show n + 1 - (r + 1) - 1 = n - r - 1 by omega]; exact h5 (by omega)⟩
  · by_cases c1 : d + c ≤ n
    · exact h3 d c1
    · exact qfree_no (j := n - r - 1 - d) (by omega) (by rw [show fr + d + (n - r - 1 - d) = fr + (n - r - 1) by omega]; exact h5 (by omega))
  · by_cases c1 : j = n
    · rw [c1]; exact hp
    · exact h4 j (by omega) (by omega)
theorem Rw.yes {p : Nat → Bool} {fr c n r : Nat} (h : Rw p fr c n r) (hp : p (fr + n) = true) (hr : r + 1 = c) (hn : n < 200 + c) : qso p fr c = some (fr + (n + 1 - c)) := by
  obtain ⟨h1, h2, h3, h4, h5⟩ := h
  refine qso_found (by omega) (fun j hj => h3 j (by omega)) (qfree_iff.mpr (fun j hj => ?_))
  by_cases c1 : n + 1 - c + j = n
  · rw [Nat.add_assoc, c1]; exact hp
  · rw [Nat.add_assoc]; exact h4 _ (by omega) (by omega)
theorem Rw.end {p : Nat → Bool} {fr c r : Nat} (h : Rw p fr c (200 + c) r) : qso p fr c = none := qso_none (fun j hj => h.2.2.1 j (by omega))
theorem firstFree_c {O c : Nat} {p : Nat → Bool} (wO : OW R S nx O) (hc : 1 ≤ c ∧ c ≤ 24) (hp : ∀ j, j < 200 + c → (I (O + 2) j = 0 ↔ p j = true)) : Cal l G k 0 0 mX4_firstFree [.ref O, .int (nI c)] (I, J, R, S, nx) (fun r μ' => r = .inl (some (.int (jP (qso p 0 c)))) ∧ ∃ I', μ' = (I', J, R, S, nx) ∧ I' = I) := by
  have e2 : (200 : Int32) + nI c = nI (200 + c) := nI_add 200 c
  refine Cal.of rfl (by decide +kernel) (by simp) (Nat.le_of_ble_eq_true rfl) rfl (sX4_firstFree_0 wO ?_)
  refine upto (W := fun i (r : Nat) => hX4_firstFree_4 l G k _ O (nI c) (nI r) (nI i) (I, J, R, S, nx)) (P := fun i r => Rw p 0 c i r) (200 + c) ?_ ?_ (i := 0) (s := 0) (Nat.zero_le _) (Rw.z hc.1)
  · intro r h
    have c1 : (200 : Int32) + nI c ≤ nI (200 + c) := by rw [e2]; exact nI_le (Nat.le_refl _) (by omega)
    refine sX4_firstFree_4 wO ?_ ?_ ?_ ?_ ?_ <;> intros <;> (first | exact absurd (by with_reducible assumption) c1 | exact absurd c1 (by with_reducible assumption) | skip)
    exact ⟨by rw [h.end]; rfl, _, rfl, rfl⟩
  · intro i r hi h ih
    have c1 : ¬ (200 : Int32) + nI c ≤ nI i := by rw [e2]; exact nI_ge hi (by omega)
    have c2 : ¬ Int32.ofNat 224 ≤ nI i := nI_ge (by omega) (by omega)
    have e1 := hp i hi
    have hr := h.2.1
    refine sX4_firstFree_4 wO ?_ ?_ ?_ ?_ ?_ <;> intros <;> (first | exact absurd (by with_reducible assumption) c1 | exact absurd c1 (by with_reducible assumption) | exact absurd (by with_reducible assumption) c2 | exact absurd c2 (by with_reducible assumption) | skip)
    · exact vp_in_nI (by omega) (by decide)
    · rename_i g; rw [nI_clamp (by omega)] at g
      have hp0 : p (0 + i) = false := by rw [Nat.zero_add]; cases hh : p i with
        | false => rfl
        | true => exact absurd (e1.mpr hh) g
      refine sX4_firstFree_38 (s0 := nI 0) wO ?_ ?_
      · intro _; rw [nI_1]; exact ih 0 (h.no hp0)
      · intro g; exact absurd ((nI_eq (by omega) (by omega)).mp g) (by omega)
    · rename_i g; rw [nI_clamp (by omega)] at g
      have hp1 : p (0 + i) = true := by rw [Nat.zero_add]; exact e1.mp g
      rw [nI_1]
      refine sX4_firstFree_38 wO ?_ ?_
      · intro g; rw [nI_1]; exact ih (r + 1) (h.go hp1 (fun q => g (by rw [q])))
      · intro g
        have g := (nI_eq (by omega) (by omega)).mp g
        refine ⟨?_, _, rfl, rfl⟩
        rw [h.yes hp1 g hi, nI_1]
        show _ = Sum.inl (some (Value.int (nI _)))
        rw [pk_sub (by omega), Nat.zero_add]
theorem BR.p {O kd wn ah n : Nat} {wm : Int} (h : BR I κ O kd wn ah n wm) (ho : qok hb pb κ) : ∀ j, j < n → (I (O + 2) j = 0 ↔ (fun j => qfw κ kd wn wm (ah + j)) j = true) := by
  intro j hj
  have hlt := qcd_lt ho kd wn (κ 54 + ah + j) wm
  rw [h j hj]
  unfold qfw
  rw [decide_eq_true_eq, show κ 54 + (ah + j) = κ 54 + ah + j by omega]
  exact nI_eq (b := 0) (by omega) (by decide)
theorem qms_1 {ls : Nat} (h : 1 ≤ ls) : 1 ≤ qms κ ls := by unfold qms; split <;> omega
theorem isLawfulIn_c {kd wn n ls : Nat} {L dl pl ld lp : Nat} (w : CF R S nx) (wL : R 14 0 = some L) (wl : LW R S nx L dl pl ld lp) (h : CK I κ L dl pl ld lp) (ho : qok hb pb κ) (hhb : hb < 2 ^ 29) {O : Nat} (wO : OW R S nx O) (ap : AP O 5 L dl pl) (hk : kd < 10) (hw : wn < 5) (hn : n ≤ 999) (hls : 1 ≤ ls ∧ ls ≤ 24) : Cal l G (k + 4) 0 0 mX4_isLawfulIn [.ref O, .int (nI kd), .int (nI wn), .int (nI n), .int (nI ls)] (I, J, R, S, nx) (fun r μ' => r = .inl (some (.int (if qfree (qfr κ kd wn) (κ 54 + n) (qms κ ls) then 1 else 0))) ∧ ∃ I', μ' = (I', J, R, S, nx) ∧ Fr [27, 28, 29, O + 1, O + 2] I I' ∧ CK I' κ L dl pl ld lp) := by
  have hm := qms_le (κ := κ) hls.1
  have e : qfree (fun j => qfw κ kd wn 0 (n + j)) 0 (qms κ ls) = qfree (qfr κ kd wn) (κ 54 + n) (qms κ ls) := by
    rw [show (fun j => qfw κ kd wn 0 (n + j)) = (fun j => qfr κ kd wn (κ 54 + n + j)) by funext j; unfold qfw qfr; rw [Nat.add_assoc], qfree_sh]; rfl
  refine Cal.of rfl (by decide +kernel) (by simp) (Nat.le_of_ble_eq_true rfl) rfl (sX4_isLawfulIn_0 (u1 := nI (qms κ ls)) (u4 := if qfree (fun j => qfw κ kd wn 0 (n + j)) 0 (qms κ ls) then 1 else 0) (P1 := fun I I' => I' = I) (P2 := fun I I' => Fr [27, 28, 29, O + 1] I I' ∧ CK I' κ L dl pl ld lp ∧ DG I' κ O wn n (qms κ ls)) (P3 := fun I I' => Fr [27, 28, 29, O + 2] I I' ∧ CK I' κ L dl pl ld lp ∧ BR I' κ O kd wn n (qms κ ls) 0) (P4 := fun I I' => I' = I) w wO (measured_c w wL wl h ho hhb) ?_ ?_ ?_ ?_ ?_)
  · intro I1 h1; subst h1; exact layDegrees_c (k := k) w wL wl h ho hhb wO ap hw (by omega) (by omega)
  · intro I1 h1 I2 h2; exact layBarring_c (wm := 0) w wL wl h2.2.1 ho hhb wO ap hk hw (by omega) (by omega) (by omega) h2.2.2
  · intro I1 h1 I2 h2 I3 h3; exact isFree_c wO (by omega) (h3.2.2.p ho)
  · intro I1 h1 I2 h2 I3 h3 I4 h4; subst h1; subst h4; exact ⟨by rw [e], _, rfl, h2.1.tr h3.1 (by simp), h3.2.1⟩
  · intros; exact nb_if
theorem soonestIn_c {kd wn ls : Nat} {L dl pl ld lp : Nat} (w : CF R S nx) (wL : R 14 0 = some L) (wl : LW R S nx L dl pl ld lp) (h : CK I κ L dl pl ld lp) (ho : qok hb pb κ) (hhb : hb < 2 ^ 29) {O : Nat} (wO : OW R S nx O) (ap : AP O 5 L dl pl) (hk : kd < 10) (hw : wn < 5) (hls : 1 ≤ ls ∧ ls ≤ 24) : Cal l G (k + 5) 0 0 mX4_soonestIn [.ref O, .int (nI kd), .int (nI wn), .int (nI ls)] (I, J, R, S, nx) (fun r μ' => r = .inl (some (.int (jP (qsoon κ kd wn ls)))) ∧ ∃ I', μ' = (I', J, R, S, nx) ∧ Fr [27, 28, 29, O + 1, O + 2] I I' ∧ CK I' κ L dl pl ld lp) := by
  have hm := qms_le (κ := κ) hls.1
  have hm1 := qms_1 (κ := κ) hls.1
  have e : (fun j => qfw κ kd wn 0 (0 + j)) = qfa κ kd wn := by funext j; unfold qfw qfa qfr; rw [Nat.zero_add]
  refine Cal.of rfl (by decide +kernel) (by simp) (Nat.le_of_ble_eq_true rfl) rfl (sX4_soonestIn_0 (u1 := nI (qms κ ls)) (u3 := jP (qsoon κ kd wn ls)) (P1 := fun I I' => I' = I) (P2 := fun I I' => Fr [27, 28, 29, O + 1, O + 2] I I' ∧ CK I' κ L dl pl ld lp ∧ BR I' κ O kd wn 0 (200 + qms κ ls) 0) (P3 := fun I I' => I' = I) w wO (measured_c w wL wl h ho hhb) ?_ ?_ ?_)
  · intro I1 h1; subst h1; rw [show (200 : Int32) + nI (qms κ ls) = nI (200 + qms κ ls) from nI_add 200 _]; exact layOut_c w wL wl h ho hhb wO ap hk hw (by omega)
  · intro I1 h1 I2 h2
    have := h2.2.2.p ho
    rw [e] at this
    exact firstFree_c wO (by omega) this
  · intro I1 h1 I2 h2 I3 h3; subst h1; subst h3; exact ⟨rfl, _, rfl, h2.1, h2.2.1⟩
end A
