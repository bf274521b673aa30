/-! rows of fines and bars; deeds measured -/
theorem upto {σ : Type} {W P : Nat → σ → Prop} (n : Nat) (hx : ∀ s, P n s → W n s) (hs : ∀ i s, i < n → P i s → (∀ s', P (i + 1) s' → W (i + 1) s') → W i s) {i : Nat} {s : σ} (hi : i ≤ n) (h : P i s) : W i s := by
  have key : ∀ (d i : Nat) (s : σ), i + d = n → P i s → W i s := by
    intro d
    induction d with
    | zero => intro i s hi hp; rw [show i = n by omega] at hp ⊢; exact hx s hp
    | succ d ih => intro i s hi hp; exact hs i s (by omega) hp (fun s' hs' => ih (i + 1) s' (by omega) hs')
  exact key (n - i) i s (by omega) h
theorem Cal.eqI {l : Launch} {G : Gh} {k : Nat} {M : Mt} {av : List Value} {I : Nat → Nat → Int32} {J : Nat → Nat → Int64} {R : Nat → Nat → Option Nat} {S : Nat → Nat × Nat} {nx : Nat} {v : Option Value} (h : Cal l G k 0 0 M av (I, J, R, S, nx) (fun r μ' => r = .inl v ∧ μ' = (I, J, R, S, nx))) : Cal l G k 0 0 M av (I, J, R, S, nx) (fun r μ' => r = .inl v ∧ ∃ I', μ' = (I', J, R, S, nx) ∧ I' = I) :=
  h.mono (fun r μ' hq => ⟨hq.1, I, hq.2, rfl⟩)
theorem rem24' {h : Nat} (hh : h < 2 ^ 31) : nI h - nI h / nI 24 * nI 24 = nI (h % 24) := pk_rem hh (by decide) (by decide)
theorem add0 (n : Nat) : ((n : Nat) : Int) + 0 = n := by omega
theorem qkept_n {n : Nat} (h : n ≤ 99) : qkept (n : Int) = n := by unfold qkept; omega
section A
variable {l : Launch} {G : Gh} {k : Nat} {I : Nat → Nat → Int32} {J : Nat → Nat → Int64} {R : Nat → Nat → Option Nat} {S : Nat → Nat × Nat} {nx : Nat} {κ : Nat → Nat} {hb pb : Nat}
/-- the acts of a kind in force in an hour, so much warmer -/
def qcd (κ : Nat → Nat) (kd wn h : Nat) (wm : Int) : Nat := qcode κ wn (qkept ((qdeg κ wn h : Int) + wm)) h (qall κ) &&& qkind κ kd
theorem qcd_lt (ho : qok hb pb κ) (kd wn h : Nat) (wm : Int) : qcd κ kd wn h wm < 256 := Nat.and_lt_two_pow _ (Nat.lt_of_lt_of_le (bset_lt _ _) (Nat.pow_le_pow_right (by decide) ho.2.1 : 2 ^ κ 2 ≤ 2 ^ 8))
def laidR (I : Nat → Nat → Int32) (κ : Nat → Nat) (row kd wn fr n : Nat) (wm : Int) : Prop := ∀ j, j < n → I 53 (1024 * row + j) = nI (qfin κ (qcd κ kd wn (fr + j) wm)) ∧ I 54 (1024 * row + j) = if qcd κ kd wn (fr + j) wm = 0 then 0 else 1
theorem qkind_lt (ho : qok hb pb κ) (kd : Nat) : qkind κ kd < 256 := Nat.lt_of_lt_of_le (bset_lt _ _) (Nat.pow_le_pow_right (by decide) ho.2.1 : 2 ^ κ 2 ≤ 2 ^ 8)
theorem laysRow_r {row kd wn fr n : Nat} {wm : Int} (w : MW R S nx) (hK : Kn I κ) (ho : qok hb pb κ) (hhb : hb < 2 ^ 29) (hrow : row < 4) (hkd : kd < 2 ^ 31) (hfr : fr + n < 2 ^ 30) (hn : n ≤ 1024) (hwm : -100 ≤ wm ∧ wm ≤ 100) (hC : laidC I κ wn (qall κ)) (hD : laidD I κ wn fr n) :
    Cal l G (k + 2) 0 0 mX12_laysRow [.ref 43, .int (nI row), .int (nI kd), .int (nI fr), .int (nI n), .int (zI wm)] (I, J, R, S, nx) (fun r μ' => r = .inl none ∧ ∃ I', μ' = (I', J, R, S, nx) ∧ Fr [53, 54] I I' ∧ laidR I' κ row kd wn fr n wm ∧ (∀ i, (i < 1024 * row ∨ 1024 * row + 1024 ≤ i) → I' 53 i = I 53 i ∧ I' 54 i = I 54 i)) := by
  refine Cal.of rfl (by decide +kernel) (by simp) (Nat.le_of_ble_eq_true rfl) rfl (sX12_laysRow_0 (u1 := nI (qkind κ kd)) (P1 := fun I I' => I' = I) w (r_ofKind w hK ho hkd).eqI (fun I1 h => ?_))
  subst h
  refine upto (W := fun i I1 => hX12_laysRow_10 l G k _ (nI row) (nI fr) (nI n) (zI wm) (nI (qkind κ kd)) (nI i) (I1, J, R, S, nx)) (P := fun i I' => Fr [53, 54] I1 I' ∧ laidR I' κ row kd wn fr i wm ∧ (∀ i, (i < 1024 * row ∨ 1024 * row + 1024 ≤ i) → I' 53 i = I1 53 i ∧ I' 54 i = I1 54 i)) n ?_ ?_ (Nat.zero_le _) ⟨Fr.rf, fun j hj => absurd hj (Nat.not_lt_zero j), fun _ _ => ⟨rfl, rfl⟩⟩
  · intro I2 hp
    have hge : nI n ≤ nI n := nI_le (by omega) (by omega)
    exact sX12_laysRow_10 (u1 := 0) (P1 := fun _ _ => True) w (fun _ => ⟨rfl, I2, rfl, hp⟩) (fun h => absurd hge h) (fun h => absurd hge h) (fun h => absurd hge h) (fun h => absurd hge h) (fun h => absurd hge h) (fun h => absurd hge h) (fun h => absurd hge h) (fun h => absurd hge h)
  · intro i I2 hi ⟨hF, hL, hO⟩ ih
    have hlt : ¬ nI n ≤ nI i := nI_ge hi (by omega)
    have hq := qdeg_le κ wn (fr + i)
    have hm : (fr + i) % 24 < 24 := Nat.mod_lt _ (by decide)
    have hk := qkept_le ((qdeg κ wn (fr + i) : Int) + wm)
    have e1 : v_X12_kept (I2 52 (nI i).toNatClampNeg + zI wm) = nI (qkept ((qdeg κ wn (fr + i) : Int) + wm)) := by
      rw [nI_clamp (by omega), hF 52 (by decide), hD i hi, nI_z, zI_add, kept_z (by omega)]
    have e2 : (100 : Int32) * ((nI fr + nI i) - (nI fr + nI i) / (24 : Int32) * (24 : Int32)) + v_X12_kept (I2 52 (nI i).toNatClampNeg + zI wm) = nI (100 * ((fr + i) % 24) + qkept ((qdeg κ wn (fr + i) : Int) + wm)) := by
      rw [e1, nI_add, rem24 (by omega), show (100 : Int32) = nI 100 from rfl, pk_mul, nI_add]
    have e3 : (I2 51 ((100 : Int32) * ((nI fr + nI i) - (nI fr + nI i) / (24 : Int32) * (24 : Int32)) + v_X12_kept (I2 52 (nI i).toNatClampNeg + zI wm)).toNatClampNeg) &&& nI (qkind κ kd) = nI (qcd κ kd wn (fr + i) wm) := by
      rw [e2, nI_clamp (by omega), hF 51 (by decide), hC _ _ hm (by omega), fa_and, qcode_h]; rfl
    have hlt2 := qcd_lt ho kd wn (fr + i) wm
    have e4 : (1024 : Int32) * nI row + nI i = nI (1024 * row + i) := by rw [show (1024 : Int32) = nI 1024 from rfl, pk_mul, nI_add]
    have hb4 : vp_in ((1024 : Int32) * nI row + nI i) 4096 := by rw [e4]; exact vp_in_nI (by omega) (by decide)
    have inv : ∀ v : Int32, v = (if qcd κ kd wn (fr + i) wm = 0 then 0 else 1) → ∀ I3, I3 = up2 (up2 I2 53 (1024 * row + i) (nI (qfin κ (qcd κ kd wn (fr + i) wm)))) 54 (1024 * row + i) v → (Fr [53, 54] I1 I3 ∧ laidR I3 κ row kd wn fr (i + 1) wm ∧ (∀ i, (i < 1024 * row ∨ 1024 * row + 1024 ≤ i) → I3 53 i = I1 53 i ∧ I3 54 i = I1 54 i)) := by
      intro v hv I3 e
      subst e
      refine ⟨(hF.up (by decide)).up (by decide), fun j hj => ?_, fun j hj => ?_⟩
      · by_cases hji : j = i
        · subst hji; simp [up2, hv]
        · have := hL j (by omega)
          simp [up2, hji, this.1, this.2]
      · have := hO j hj
        have hne : j ≠ 1024 * row + i := by omega
        simp [up2, hne, this.1, this.2]
    refine sX12_laysRow_10 (u1 := nI (qfin κ (qcd κ kd wn (fr + i) wm))) (P1 := fun I I' => I' = I) w (fun h => absurd h hlt) (fun _ => vp_in_nI (by omega) (by decide)) (fun _ => by rw [e2]; exact vp_in_nI (by omega) (by decide)) (fun _ => ?_) (fun _ _ _ => hb4) (fun _ _ _ _ => hb4) (fun _ I3 h3 h0 => ?_) (fun _ _ _ _ => hb4) (fun _ I3 h3 h0 => ?_)
    · rw [e3]; exact fin_r w (hK.fr hF (by decide)) ho (by omega)
    · subst h3
      rw [e3] at h0
      rw [e4, nI_clamp (by omega), nI_1]
      exact ih _ (inv 0 (by rw [if_pos ((nI_eq (by omega) (by decide)).mp (show _ = nI 0 from h0))]) _ rfl)
    · subst h3
      rw [e3] at h0
      rw [e4, nI_clamp (by omega), nI_1]
      exact ih _ (inv 1 (by rw [if_neg (fun h => h0 (by rw [h]; rfl))]) _ rfl)
theorem Kn.h {i : Nat} (h : Kn I κ) (hi : i < 2380) : I 44 i = nI (κ i) := h i hi
theorem laysHours_r {row kd wn n : Nat} (w : MW R S nx) (hK : Kn I κ) (ho : qok hb pb κ) (hhb : hb < 2 ^ 29) (hw : wn < 5) (hrow : row < 4) (hkd : kd < 2 ^ 31) (hn : n ≤ 1024) :
    Cal l G (k + 6) 0 0 mX12_laysHours [.ref 43, .int (nI row), .int (nI kd), .int (nI wn), .int (nI n)] (I, J, R, S, nx) (fun r μ' => r = .inl none ∧ ∃ I', μ' = (I', J, R, S, nx) ∧ Fr [49, 50, 51, 52, 53, 54] I I' ∧ laidC I' κ wn (qall κ) ∧ laidD I' κ wn (κ 54) n ∧ laidR I' κ row kd wn (κ 54) n 0 ∧ (∀ i, (i < 1024 * row ∨ 1024 * row + 1024 ≤ i) → I' 53 i = I 53 i ∧ I' 54 i = I 54 i)) := by
  have h54 : κ 54 ≤ hb := ho.2.2.2.2.2.2.2.2.2.2.1
  refine Cal.of rfl (by decide +kernel) (by simp) (Nat.le_of_ble_eq_true rfl) rfl (sX12_laysHours_0 (P1 := fun I I' => Fr [49, 50, 51] I I' ∧ laidC I' κ wn (qall κ)) (P2 := fun I I' => Fr [49, 50, 52] I I' ∧ laidD I' κ wn (κ 54) n) (P3 := fun I I' => Fr [53, 54] I I' ∧ laidR I' κ row kd wn (κ 54) n 0 ∧ (∀ i, (i < 1024 * row ∨ 1024 * row + 1024 ≤ i) → I' 53 i = I 53 i ∧ I' 54 i = I 54 i)) w ?_ ?_ ?_ ?_)
  · rw [all_n hK ho]; exact laysCodes_r w hK ho hw (Nat.lt_trans (qall_lt ho) (by decide))
  · intro I1 ⟨h1, _⟩
    have hK1 := hK.fr h1 (by decide)
    rw [hK1.h (by decide)]
    exact laysDegrees_r w hK1 ho hhb hw (by omega) hn
  · intro I1 ⟨h1, hC⟩ I2 ⟨h2, hD⟩
    have hK2 := (hK.fr h1 (by decide)).fr h2 (by decide)
    rw [hK2.h (by decide)]
    exact laysRow_r (wm := 0) w hK2 ho hhb hrow hkd (by omega) hn (by omega) (fun hr dg a b => by rw [h2 51 (by decide)]; exact hC hr dg a b) hD
  · intro I1 ⟨h1, hC⟩ I2 ⟨h2, hD⟩ I3 ⟨h3, hR, hO⟩
    refine ⟨rfl, I3, rfl, ?_, ?_, ?_, hR, ?_⟩
    · exact ((h1.trans h2 (r3 := [49, 50, 51, 52]) (by simp; omega)).trans h3 (by simp; omega))
    · intro hr dg a b; rw [h3 51 (by decide), h2 51 (by decide)]; exact hC hr dg a b
    · intro j hj; rw [h3 52 (by decide)]; exact hD j hj
    · intro i hi
      have := hO i hi
      rw [this.1, this.2, h2 53 (by decide), h1 53 (by decide), h2 54 (by decide), h1 54 (by decide)]
      exact ⟨rfl, rfl⟩
/-- how many hours of a deed count -/
def qms (κ : Nat → Nat) (lasts : Nat) : Nat := if κ 6 = 1 then lasts else 1
theorem ms_n {n ls : Nat} (hK : Kn I κ) (ho : qok hb pb κ) : (I 44 6 = (1 : Int32)) = (κ 6 = 1) := by
  rw [hK.h (by decide), show (1 : Int32) = nI 1 from rfl]
  have := ho.2.2.2.2.2.1
  exact propext (nI_eq (by omega) (by decide))
/-- whether nothing bars in some hours of a row -/
def qfree (p : Nat → Bool) (n c : Nat) : Bool := (List.range c).all (fun j => p (n + j))
theorem qfree_iff {p : Nat → Bool} {n c : Nat} : qfree p n c = true ↔ ∀ j, j < c → p (n + j) = true := by
  simp [qfree]
theorem isLawful_r {row n ls N : Nat} {p : Nat → Bool} (w : MW R S nx) (hK : Kn I κ) (ho : qok hb pb κ) (hrow : row < 4) (hN : N ≤ 1024) (hn : n + qms κ ls ≤ N) (hls : n + ls < 2 ^ 30) (hp : ∀ j, j < N → I 54 (1024 * row + j) = if p j then 0 else 1) :
    Cal l G k 0 0 mX12_isLawful [.ref 43, .int (nI row), .int (nI n), .int (nI ls)] (I, J, R, S, nx) (fun r μ' => r = .inl (some (.int (if qfree p n (qms κ ls) then 1 else 0))) ∧ ∃ I', μ' = (I', J, R, S, nx) ∧ I' = I) := by
  refine Cal.of rfl (by decide +kernel) (by simp) (Nat.le_of_ble_eq_true rfl) rfl (sX12_isLawful_0 ?_)
  have hm := ms_n (n := 0) (ls := 0) hK ho
  refine upto (σ := Unit) (W := fun i _ => hX12_isLawful_3 l G k _ (nI row) (nI n) (nI ls) (nI (n + i)) (I, J, R, S, nx)) (P := fun i _ => ∀ j, j < i → p (n + j) = true) (qms κ ls) ?_ ?_ (i := 0) (s := ()) (Nat.zero_le _) (fun j hj => absurd hj (Nat.not_lt_zero j))
  · intro _ hp2
    have e1 : qfree p n (qms κ ls) = true := qfree_iff.mpr hp2
    rw [e1]
    by_cases h6 : κ 6 = 1
    · have c1 : I 44 6 = (1 : Int32) := hm.mpr h6
      have c2 : nI n + nI ls ≤ nI (n + qms κ ls) := by rw [nI_add, show qms κ ls = ls by simp [qms, h6]]; exact nI_le (by omega) (by omega)
      exact sX12_isLawful_3 w (fun h => absurd c1 h) (fun h => absurd c1 h) (fun h => absurd c1 h) (fun h => absurd c1 h) (fun _ _ => ⟨rfl, I, rfl, rfl⟩) (fun _ h => absurd c2 h) (fun _ h => absurd c2 h) (fun _ h => absurd c2 h)
    · have c1 : ¬ I 44 6 = (1 : Int32) := fun h => h6 (hm.mp h)
      have c2 : nI n + (1 : Int32) ≤ nI (n + qms κ ls) := by rw [nI_1, show qms κ ls = 1 by simp [qms, h6]]; exact nI_le (by omega) (by omega)
      exact sX12_isLawful_3 w (fun _ _ => ⟨rfl, I, rfl, rfl⟩) (fun _ h => absurd c2 h) (fun _ h => absurd c2 h) (fun _ h => absurd c2 h) (fun h => absurd h c1) (fun h => absurd h c1) (fun h => absurd h c1) (fun h => absurd h c1)
  · intro i _ hi hp2 ih
    have e4 : (1024 : Int32) * nI row + nI (n + i) = nI (1024 * row + (n + i)) := by rw [show (1024 : Int32) = nI 1024 from rfl, pk_mul, nI_add]
    have hb4 : vp_in ((1024 : Int32) * nI row + nI (n + i)) 4096 := by rw [e4]; exact vp_in_nI (by omega) (by decide)
    have hv : I 54 ((1024 : Int32) * nI row + nI (n + i)).toNatClampNeg = if p (n + i) then 0 else 1 := by rw [e4, nI_clamp (by omega)]; exact hp _ (by omega)
    have f1 : I 54 ((1024 : Int32) * nI row + nI (n + i)).toNatClampNeg = 0 → hX12_isLawful_3 l G k (fun r μ' => r = .inl (some (.int (if qfree p n (qms κ ls) then 1 else 0))) ∧ ∃ I', μ' = (I', J, R, S, nx) ∧ I' = I) (nI row) (nI n) (nI ls) (nI (n + i) + (1 : Int32)) (I, J, R, S, nx) := by
      intro h0
      rw [hv] at h0
      have hpi : p (n + i) = true := by
        by_cases hc : p (n + i) = true
        · exact hc
        · simp [hc] at h0
      rw [nI_1]
      exact ih () (fun j hj => by
        by_cases hji : j = i
        · rw [hji]; exact hpi
        · exact hp2 j (by omega))
    have f2 : ¬ I 54 ((1024 : Int32) * nI row + nI (n + i)).toNatClampNeg = 0 → qfree p n (qms κ ls) = false := by
      intro h0
      rw [hv] at h0
      have hpi : ¬ p (n + i) = true := fun hc => h0 (by rw [if_pos hc])
      cases hq : qfree p n (qms κ ls) with
      | false => rfl
      | true => exact absurd (qfree_iff.mp hq i hi) hpi
    by_cases h6 : κ 6 = 1
    · have c1 : I 44 6 = (1 : Int32) := hm.mpr h6
      have c2 : ¬ nI n + nI ls ≤ nI (n + i) := by rw [show qms κ ls = ls by simp [qms, h6]] at hi; rw [nI_add]; exact nI_ge (by omega) (by omega)
      exact sX12_isLawful_3 w (fun h => absurd c1 h) (fun h => absurd c1 h) (fun h => absurd c1 h) (fun h => absurd c1 h) (fun _ h => absurd h c2) (fun _ _ => hb4) (fun _ _ h => f1 h) (fun _ _ h => ⟨by rw [f2 h]; rfl, I, rfl, rfl⟩)
    · have c1 : ¬ I 44 6 = (1 : Int32) := fun h => h6 (hm.mp h)
      have c2 : ¬ nI n + (1 : Int32) ≤ nI (n + i) := by rw [show qms κ ls = 1 by simp [qms, h6]] at hi; rw [nI_1]; exact nI_ge (by omega) (by omega)
      exact sX12_isLawful_3 w (fun _ h => absurd h c2) (fun _ _ => hb4) (fun _ _ h => f1 h) (fun _ _ h => ⟨by rw [f2 h]; rfl, I, rfl, rfl⟩) (fun h => absurd h c1) (fun h => absurd h c1) (fun h => absurd h c1) (fun h => absurd h c1)
theorem fineOf_r {row n ls N : Nat} {f : Nat → Nat} (w : MW R S nx) (hK : Kn I κ) (ho : qok hb pb κ) (hrow : row < 4) (hN : N ≤ 1024) (hn : n + qms κ ls ≤ N) (hls : n + ls < 2 ^ 30) (hp : ∀ j, j < N → I 53 (1024 * row + j) = nI (f j)) :
    Cal l G k 0 0 mX12_fineOf [.ref 43, .int (nI row), .int (nI n), .int (nI ls)] (I, J, R, S, nx) (fun r μ' => r = .inl (some (.int (nI (qsum (fun j => f (n + j)) (qms κ ls))))) ∧ ∃ I', μ' = (I', J, R, S, nx) ∧ I' = I) := by
  refine Cal.of rfl (by decide +kernel) (by simp) (Nat.le_of_ble_eq_true rfl) rfl (sX12_fineOf_0 ?_)
  have hm := ms_n (n := 0) (ls := 0) hK ho
  refine upto (σ := Int32) (W := fun i x => hX12_fineOf_6 l G k _ (nI row) (nI n) (nI ls) x (nI (n + i)) (I, J, R, S, nx)) (P := fun i x => x = nI (qsum (fun j => f (n + j)) i)) (qms κ ls) ?_ ?_ (i := 0) (Nat.zero_le _) rfl
  · intro x hx
    subst hx
    by_cases h6 : κ 6 = 1
    · have c1 : I 44 6 = (1 : Int32) := hm.mpr h6
      have c2 : nI n + nI ls ≤ nI (n + qms κ ls) := by rw [nI_add, show qms κ ls = ls by simp [qms, h6]]; exact nI_le (by omega) (by omega)
      exact sX12_fineOf_6 w (fun h => absurd c1 h) (fun h => absurd c1 h) (fun h => absurd c1 h) (fun _ _ => ⟨rfl, I, rfl, rfl⟩) (fun _ h => absurd c2 h) (fun _ h => absurd c2 h)
    · have c1 : ¬ I 44 6 = (1 : Int32) := fun h => h6 (hm.mp h)
      have c2 : nI n + (1 : Int32) ≤ nI (n + qms κ ls) := by rw [nI_1, show qms κ ls = 1 by simp [qms, h6]]; exact nI_le (by omega) (by omega)
      exact sX12_fineOf_6 w (fun _ _ => ⟨rfl, I, rfl, rfl⟩) (fun _ h => absurd c2 h) (fun _ h => absurd c2 h) (fun h => absurd h c1) (fun h => absurd h c1) (fun h => absurd h c1)
  · intro i x hi hx ih
    subst hx
    have e4 : (1024 : Int32) * nI row + nI (n + i) = nI (1024 * row + (n + i)) := by rw [show (1024 : Int32) = nI 1024 from rfl, pk_mul, nI_add]
    have hb4 : vp_in ((1024 : Int32) * nI row + nI (n + i)) 4096 := by rw [e4]; exact vp_in_nI (by omega) (by decide)
    have hv : I 53 ((1024 : Int32) * nI row + nI (n + i)).toNatClampNeg = nI (f (n + i)) := by rw [e4, nI_clamp (by omega)]; exact hp _ (by omega)
    by_cases h6 : κ 6 = 1
    · have c1 : I 44 6 = (1 : Int32) := hm.mpr h6
      have c2 : ¬ nI n + nI ls ≤ nI (n + i) := by rw [show qms κ ls = ls by simp [qms, h6]] at hi; rw [nI_add]; exact nI_ge (by omega) (by omega)
      refine sX12_fineOf_6 w (fun h => absurd c1 h) (fun h => absurd c1 h) (fun h => absurd c1 h) (fun _ h => absurd h c2) (fun _ _ => hb4) (fun _ _ => ?_)
      rw [hv, nI_add, nI_1]; exact ih _ rfl
    · have c1 : ¬ I 44 6 = (1 : Int32) := fun h => h6 (hm.mp h)
      have c2 : ¬ nI n + (1 : Int32) ≤ nI (n + i) := by rw [show qms κ ls = 1 by simp [qms, h6]] at hi; rw [nI_1]; exact nI_ge (by omega) (by omega)
      refine sX12_fineOf_6 w (fun _ h => absurd h c2) (fun _ _ => hb4) (fun _ _ => ?_) (fun h => absurd h c1) (fun h => absurd h c1) (fun h => absurd h c1)
      rw [hv, nI_add, nI_1]; exact ih _ rfl
end A
