/-! the reference: codes, degrees and rows laid -/
theorem qcode_lt (κ : Nat → Nat) (w d h s : Nat) (h8 : κ 2 ≤ 8) : qcode κ w d h s < 256 := Nat.lt_of_lt_of_le (bset_lt _ _) (Nat.pow_le_pow_right (by decide) h8 : 2 ^ κ 2 ≤ 2 ^ 8)
theorem qaskP_h (κ : Nat → Nat) (a m h w : Nat) : qaskP κ a m (h % 24) w = qaskP κ a m h w := by
  funext j
  unfold qaskP
  split <;> simp
theorem qcode_h (κ : Nat → Nat) (w d h s : Nat) : qcode κ w d (h % 24) s = qcode κ w d h s := by
  unfold qcode qprv
  simp only [qaskP_h]
theorem nI_lt2 {a b : Nat} (h : a < b) (hb : b < 2 ^ 31) : ¬ nI b ≤ nI a := nI_ge h hb
section A
variable {l : Launch} {G : Gh} {k : Nat} {I : Nat → Nat → Int32} {J : Nat → Nat → Int64} {R : Nat → Nat → Option Nat} {S : Nat → Nat × Nat} {nx : Nat} {κ : Nat → Nat} {hb pb : Nat}
theorem codeAt_r {wn dg h sm : Nat} (w : MW R S nx) (hK : Kn I κ) (ho : qok hb pb κ) (hw : wn < 5) (hdg : dg < 2 ^ 30) (hh : h < 2 ^ 30) (hs : sm < 2 ^ 31) :
    Cal l G (k + 4) 0 0 mX12_codeAt [.ref 43, .int (nI wn), .int (nI dg), .int (nI h), .int (nI sm)] (I, J, R, S, nx) (fun r μ' => r = .inl (some (.int (nI (qcode κ wn dg h sm)))) ∧ ∃ I', μ' = (I', J, R, S, nx) ∧ Fr [49, 50] I I') := by
  refine Cal.of rfl (by decide +kernel) (by simp) (Nat.le_of_ble_eq_true rfl) rfl (sX12_codeAt_0 ?_)
  have ha8 : κ 2 ≤ 8 := ho.2.1
  have key : ∀ (d i : Nat) (I1 : Nat → Nat → Int32), i + d = κ 2 → Fr [49, 50] I I1 → WP l G (k + 4) 0 0 mX12_codeAt (fun r μ' => r = .inl (some (.int (nI (qcode κ wn dg h sm)))) ∧ ∃ I', μ' = (I', J, R, S, nx) ∧ Fr [49, 50] I I') 6 [some (.ref 43), some (.int (nI wn)), some (.int (nI dg)), some (.int (nI h)), some (.int (nI sm)), some (.int (nI (bset (fun a => qspk κ a dg sm && qprv κ a (qmany κ (κ (66 + a)) dg sm) h wn) i))), some (.int (nI i))] [] (I1, J, R, S, nx) 0 0 := by
    intro d
    induction d with
    | zero =>
      intro i I1 hi hF
      have ha : v_X12_acts I1 = nI (κ 2) := (hK.fr hF (by decide)) 2 (by decide)
      have hge : v_X12_acts I1 ≤ nI i := by rw [ha]; exact nI_le (by omega) (by omega)
      refine sX12_codeAt_6 (u1 := 0) (u2 := 0) (P1 := fun _ _ => True) (P2 := fun _ _ => True) w (fun _ => ?_) (fun h => absurd hge h) (fun h => absurd hge h) (fun h => absurd hge h) (fun h => absurd hge h) (fun h => absurd hge h) (fun h => absurd hge h) (fun h => absurd hge h) (fun h => absurd hge h)
      rw [show i = κ 2 by omega]; exact ⟨rfl, I1, rfl, hF⟩
    | succ d ih =>
      intro i I1 hi hF
      have hK1 : Kn I1 κ := hK.fr hF (by decide)
      have ha : v_X12_acts I1 = nI (κ 2) := hK1 2 (by decide)
      have hsp := spk_n (sm := sm) hK1 ho (show i < 8 by omega) hdg hs
      have hkv := kn_at hK1 66 i (by omega)
      have hkl := (ho.2.2.2.2.2.2.2.2.1 i (by omega)).2.2.1
      have hi1 : nI i + (1 : Int32) = nI (i + 1) := nI_1 i
      refine sX12_codeAt_6 (u1 := nI (qmany κ (κ (66 + i)) dg sm)) (u2 := if qprv κ i (qmany κ (κ (66 + i)) dg sm) h wn then 1 else 0) (P1 := fun I I' => I' = I) (P2 := fun I I' => Fr [49, 50] I I') w (fun h => absurd (show nI (κ 2) ≤ nI i by rw [← ha]; exact h) (nI_ge (by omega) (by omega))) (fun _ _ => vinA 37 i 2380 (by omega) (by decide)) (fun _ _ => vinA 45 i 2380 (by omega) (by decide)) (fun _ h0 => ?_) (fun _ _ => vinA 66 i 2380 (by omega) (by decide)) (fun _ _ => ?_) (fun _ _ I2 h2 => ?_) (fun _ h0 I2 h2 I3 h3 hu => ?_) (fun _ h0 I2 h2 I3 h3 hu => ?_)
      · rw [hsp, ifI] at h0
        have e : bset (fun a => qspk κ a dg sm && qprv κ a (qmany κ (κ (66 + a)) dg sm) h wn) i = bset (fun a => qspk κ a dg sm && qprv κ a (qmany κ (κ (66 + a)) dg sm) h wn) (i + 1) := by rw [bset_s]; simp [h0]
        rw [hi1, e]
        exact ih (i + 1) I1 (by omega) hF
      · rw [show (66 : Int32) = nI 66 from rfl, hkv]
        exact speaking_r w hK1 ho (by omega) hdg hs
      · subst h2
        exact prevails_r w hK1 ho (by omega) (qmany_le ho) hh hw
      · subst h2
        rw [ifI] at hu
        have e : bset (fun a => qspk κ a dg sm && qprv κ a (qmany κ (κ (66 + a)) dg sm) h wn) i = bset (fun a => qspk κ a dg sm && qprv κ a (qmany κ (κ (66 + a)) dg sm) h wn) (i + 1) := by rw [bset_s]; simp [hu]
        rw [hi1, e]
        exact ih (i + 1) I3 (by omega) (hF.trans h3 (by simp))
      · subst h2
        rw [hsp, ifI] at h0
        rw [ifI] at hu
        have h0' : qspk κ i dg sm = true := by simpa using h0
        have hu' : qprv κ i (qmany κ (κ (66 + i)) dg sm) h wn = true := by simpa using hu
        have e : nI (bset (fun a => qspk κ a dg sm && qprv κ a (qmany κ (κ (66 + a)) dg sm) h wn) i) ||| (1 : Int32) <<< (nI i &&& 31) = nI (bset (fun a => qspk κ a dg sm && qprv κ a (qmany κ (κ (66 + a)) dg sm) h wn) (i + 1)) := by
          rw [shl_n (by omega), fa_or, bset_s]; simp [h0', hu']
        rw [hi1, e]
        exact ih (i + 1) I3 (by omega) (hF.trans h3 (by simp))
  exact key (κ 2) 0 I (by omega) Fr.rf
theorem all_n (hK : Kn I κ) (ho : qok hb pb κ) : v_X12_allActs I = nI (qall κ) := by
  have ha : v_X12_acts I = nI (κ 2) := hK 2 (by decide)
  have h8 : κ 2 ≤ 8 := ho.2.1
  have hr : κ 53 < 256 := ho.2.2.2.2.2.2.2.2.2.1
  unfold v_X12_allActs
  rw [ha, hK 53 (by decide)]
  have fin : ∀ n, n < 9 → ∀ r, r < 256 → (((1 : Int32) <<< (nI n &&& 31)) - 1) &&& (nI r ^^^ (-1)) = nI (bset (fun a => !r.testBit a) n) := by decide +kernel
  exact fin (κ 2) (by omega) (κ 53) hr
theorem qall_lt (ho : qok hb pb κ) : qall κ < 256 := Nat.lt_of_lt_of_le (bset_lt _ _) (Nat.pow_le_pow_right (by decide) ho.2.1 : 2 ^ κ 2 ≤ 2 ^ 8)
theorem codeIn_r {wn h : Nat} (w : MW R S nx) (hK : Kn I κ) (ho : qok hb pb κ) (hhb : hb < 2 ^ 29) (hw : wn < 5) (hh : h < 2 ^ 30) :
    Cal l G (k + 5) 0 0 mX12_codeIn [.ref 43, .int (nI wn), .int (nI h)] (I, J, R, S, nx) (fun r μ' => r = .inl (some (.int (nI (qcode κ wn (qdeg κ wn h) h (qall κ))))) ∧ ∃ I', μ' = (I', J, R, S, nx) ∧ Fr [49, 50] I I') := by
  refine Cal.of rfl (by decide +kernel) (by simp) (Nat.le_of_ble_eq_true rfl) rfl (sX12_codeIn_0 (u1 := nI (qdeg κ wn h)) (u2 := nI (qcode κ wn (qdeg κ wn h) h (qall κ))) (P1 := fun I I' => Fr [49, 50] I I') (P2 := fun I I' => Fr [49, 50] I I') w ?_ (fun I1 h1 => ?_) (fun I1 h1 I2 h2 => ⟨rfl, I2, rfl, h1.trans h2 (by simp)⟩))
  · exact r_degreeIn w hK ho hhb hw hh
  · have hK1 : Kn I1 κ := hK.fr h1 (by decide)
    rw [all_n hK1 ho]
    have := qdeg_le κ wn h
    have := qall_lt ho
    exact codeAt_r w hK1 ho hw (by omega) hh (by omega)
/-- the codes of a ward laid by hours and degrees -/
def laidC (I : Nat → Nat → Int32) (κ : Nat → Nat) (wn sm : Nat) : Prop := ∀ hr dg, hr < 24 → dg < 100 → I 51 (100 * hr + dg) = nI (qcode κ wn dg hr sm)
def laidD (I : Nat → Nat → Int32) (κ : Nat → Nat) (wn fr n : Nat) : Prop := ∀ j, j < n → I 52 j = nI (qdeg κ wn (fr + j))
theorem laysCodes_r {wn sm : Nat} (w : MW R S nx) (hK : Kn I κ) (ho : qok hb pb κ) (hw : wn < 5) (hs : sm < 2 ^ 31) :
    Cal l G (k + 5) 0 0 mX12_laysCodes [.ref 43, .int (nI wn), .int (nI sm)] (I, J, R, S, nx) (fun r μ' => r = .inl none ∧ ∃ I', μ' = (I', J, R, S, nx) ∧ Fr [49, 50, 51] I I' ∧ laidC I' κ wn sm) := by
  refine Cal.of rfl (by decide +kernel) (by simp) (Nat.le_of_ble_eq_true rfl) rfl (sX12_laysCodes_0 ?_)
  -- the inner loop, then the outer
  have outer : ∀ (d i : Nat) (I1 : Nat → Nat → Int32), i + d = 24 → Fr [49, 50, 51] I I1 → (∀ hr dg, hr < i → dg < 100 → I1 51 (100 * hr + dg) = nI (qcode κ wn dg hr sm)) → WP l G (k + 5) 0 0 mX12_laysCodes (fun r μ' => r = .inl none ∧ ∃ I', μ' = (I', J, R, S, nx) ∧ Fr [49, 50, 51] I I' ∧ laidC I' κ wn sm) 2 [some (.ref 43), some (.int (nI wn)), some (.int (nI sm)), some (.int (nI i)), none] [] (I1, J, R, S, nx) 0 0 := by
    intro d
    induction d with
    | zero =>
      intro i I1 hi hF hC
      have hge : (24 : Int32) ≤ nI i := nI_le (a := 24) (by omega) (by omega)
      exact sX12_laysCodes_2 (fun _ => ⟨rfl, I1, rfl, hF, fun hr dg h1 h2 => hC hr dg (by omega) h2⟩) (fun h => absurd hge h)
    | succ d ihO =>
      intro i I1 hi hF hC
      have hlt : ¬ (24 : Int32) ≤ nI i := nI_ge (b := 24) (by omega) (by decide)
      refine sX12_laysCodes_2 (fun h => absurd h hlt) (fun _ => ?_)
      have inner : ∀ (e j : Nat) (I2 : Nat → Nat → Int32), j + e = 100 → Fr [49, 50, 51] I I2 → (∀ hr dg, hr < i → dg < 100 → I2 51 (100 * hr + dg) = nI (qcode κ wn dg hr sm)) → (∀ dg, dg < j → I2 51 (100 * i + dg) = nI (qcode κ wn dg i sm)) → WP l G (k + 5) 0 0 mX12_laysCodes (fun r μ' => r = .inl none ∧ ∃ I', μ' = (I', J, R, S, nx) ∧ Fr [49, 50, 51] I I' ∧ laidC I' κ wn sm) 11 [some (.ref 43), some (.int (nI wn)), some (.int (nI sm)), some (.int (nI i)), some (.int (nI j))] [] (I2, J, R, S, nx) 0 0 := by
        intro e
        induction e with
        | zero =>
          intro j I2 hj hF2 hC2 hD2
          have hgt : (99 : Int32) < nI j := nI_lt (a := 99) (by omega) (by omega)
          refine sX12_laysCodes_11 (u1 := 0) (P1 := fun _ _ => True) w (fun _ => ?_) (fun h => absurd hgt h) (fun h => absurd hgt h) (fun h => absurd hgt h)
          rw [show nI i + (1 : Int32) = nI (i + 1) from nI_1 i]
          refine ihO (i + 1) I2 (by omega) hF2 (fun hr dg h1 h2 => ?_)
          by_cases h3 : hr < i
          · exact hC2 hr dg h3 h2
          · rw [show hr = i by omega]; exact hD2 dg (by omega)
        | succ e ih =>
          intro j I2 hj hF2 hC2 hD2
          have hng : ¬ (99 : Int32) < nI j := nI_nlt (b := j) (a := 99) (by omega) (by decide)
          have hix : (100 : Int32) * nI i + nI j = nI (100 * i + j) := by rw [show (100 : Int32) = nI 100 from rfl, pk_mul, nI_add]
          refine sX12_laysCodes_11 (u1 := nI (qcode κ wn j i sm)) (P1 := fun I I' => Fr [49, 50] I I') w (fun h => absurd h hng) (fun _ => ?_) (fun _ I3 h3 => ?_) (fun _ I3 h3 => ?_)
          · exact codeAt_r w (hK.fr hF2 (by decide)) ho hw (by omega) (by omega) hs
          · rw [hix]; exact vp_in_nI (by omega) (by decide)
          · rw [hix, nI_clamp (by omega), show nI j + (1 : Int32) = nI (j + 1) from nI_1 j]
            have e51 : I3 51 = I2 51 := h3 51 (by decide)
            refine ih (j + 1) _ (by omega) ((hF2.trans h3 (by simp; omega)).up (by decide)) (fun hr dg g1 g2 => ?_) (fun dg g1 => ?_)
            · have hne : 100 * hr + dg ≠ 100 * i + j := by omega
              show up2 I3 51 (100 * i + j) _ 51 (100 * hr + dg) = _
              simp only [up2, if_true, if_neg hne]
              rw [e51]; exact hC2 hr dg g1 g2
            · show up2 I3 51 (100 * i + j) _ 51 (100 * i + dg) = _
              by_cases hdj : dg = j
              · subst hdj; simp [up2]
              · have hne : 100 * i + dg ≠ 100 * i + j := by omega
                simp only [up2, if_true, if_neg hne]
                rw [e51]; exact hD2 dg (by omega)
      exact inner 100 0 I1 (by omega) hF hC (fun dg h => absurd h (by omega))
  exact outer 24 0 I (by omega) Fr.rf (fun hr dg h => absurd h (by omega))
theorem laysDegrees_r {wn fr n : Nat} (w : MW R S nx) (hK : Kn I κ) (ho : qok hb pb κ) (hhb : hb < 2 ^ 29) (hw : wn < 5) (hfr : fr + n < 2 ^ 30) (hn : n ≤ 1024) :
    Cal l G (k + 4) 0 0 mX12_laysDegrees [.ref 43, .int (nI wn), .int (nI fr), .int (nI n)] (I, J, R, S, nx) (fun r μ' => r = .inl none ∧ ∃ I', μ' = (I', J, R, S, nx) ∧ Fr [49, 50, 52] I I' ∧ laidD I' κ wn fr n) := by
  refine Cal.of rfl (by decide +kernel) (by simp) (Nat.le_of_ble_eq_true rfl) rfl (sX12_laysDegrees_0 ?_)
  have key : ∀ (d i : Nat) (I1 : Nat → Nat → Int32), i + d = n → Fr [49, 50, 52] I I1 → laidD I1 κ wn fr i → WP l G (k + 4) 0 0 mX12_laysDegrees (fun r μ' => r = .inl none ∧ ∃ I', μ' = (I', J, R, S, nx) ∧ Fr [49, 50, 52] I I' ∧ laidD I' κ wn fr n) 3 [some (.ref 43), some (.int (nI wn)), some (.int (nI fr)), some (.int (nI n)), some (.int (nI i))] [] (I1, J, R, S, nx) 0 0 := by
    intro d
    induction d with
    | zero =>
      intro i I1 hi hF hD
      have hge : nI n ≤ nI i := nI_le (by omega) (by omega)
      refine sX12_laysDegrees_3 (u1 := 0) (P1 := fun _ _ => True) w (fun _ => ?_) (fun h => absurd hge h) (fun h => absurd hge h) (fun h => absurd hge h)
      rw [show i = n by omega] at hD
      exact ⟨rfl, I1, rfl, hF, hD⟩
    | succ d ih =>
      intro i I1 hi hF hD
      have hlt : ¬ nI n ≤ nI i := nI_ge (by omega) (by omega)
      refine sX12_laysDegrees_3 (u1 := nI (qdeg κ wn (fr + i))) (P1 := fun I I' => Fr [49, 50] I I') w (fun h => absurd h hlt) (fun _ => ?_) (fun _ I2 h2 => ?_) (fun _ I2 h2 => ?_)
      · rw [nI_add]; exact r_degreeIn w (hK.fr hF (by decide)) ho hhb hw (by omega)
      · exact vp_in_nI (by omega) (by decide)
      · rw [nI_clamp (by omega), show nI i + (1 : Int32) = nI (i + 1) from nI_1 i]
        have e52 : I2 52 = I1 52 := h2 52 (by decide)
        refine ih (i + 1) _ (by omega) ((hF.trans h2 (by simp; omega)).up (by decide)) (fun j hj => ?_)
        show up2 I2 52 i _ 52 j = _
        by_cases hji : j = i
        · subst hji; simp [up2]
        · simp only [up2, if_true, if_neg hji]
          rw [e52]; exact hD j (by omega)
  exact key n 0 I (by omega) Fr.rf (fun j hj => absurd hj (by omega))
end A
