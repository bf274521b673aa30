/-! the reference: who speaks, what prevails, codes -/
section A
variable {l : Launch} {G : Gh} {k : Nat} {I : Nat → Nat → Int32} {J : Nat → Nat → Int64} {R : Nat → Nat → Option Nat} {S : Nat → Nat × Nat} {nx : Nat} {κ : Nat → Nat} {hb pb : Nat}
theorem spk_n {a d sm : Nat} (hK : Kn I κ) (ho : qok hb pb κ) (ha : a < 8) (hd : d < 2 ^ 30) (hs : sm < 2 ^ 31) : v_X12_speaks I (nI a) (nI d) (nI sm) = if qspk κ a d sm then 1 else 0 := by
  have hbd := ho.2.2.2.2.2.2.2.2.1 a ha
  unfold v_X12_speaks qspk
  rw [has_n hs (by omega), show (37 : Int32) = nI 37 from rfl, show (45 : Int32) = nI 45 from rfl, kn_at hK 37 a (by omega), kn_at hK 45 a (by omega), wi_t, n64 (by omega), n64 (by omega), n64 (by omega)]
  simp only [ifI]
  by_cases c1 : sm.testBit a = true
  · by_cases c2 : κ (37 + a) ≤ d
    · by_cases c3 : d ≤ κ (45 + a)
      · rw [if_neg (by simp [c1]), if_neg (by omega)]; simp [c1, c2, c3]
      · rw [if_neg (by simp [c1]), if_pos (by omega)]; simp [c1, c2, c3]
    · rw [if_neg (by simp [c1]), if_pos (by omega)]; simp [c1, c2]
  · rw [if_pos (by simp [c1])]; simp [c1]
theorem fin_r {s : Nat} (w : MW R S nx) (hK : Kn I κ) (ho : qok hb pb κ) (hs : s < 2 ^ 31) : Cal l G (k + 1) 0 0 mX12_finesOf [.ref 43, .int (nI s)] (I, J, R, S, nx) (fun r μ' => r = .inl (some (.int (nI (qfin κ s)))) ∧ ∃ I', μ' = (I', J, R, S, nx) ∧ I' = I) := by
  refine Cal.of rfl (by decide +kernel) (by simp) (Nat.le_of_ble_eq_true rfl) rfl (sX12_finesOf_0 ?_)
  have ha : v_X12_acts I = nI (κ 2) := hK 2 (by decide)
  have ha8 : κ 2 ≤ 8 := ho.2.1
  have key : ∀ (d i : Nat), i + d = κ 2 → WP l G (k + 1) 0 0 mX12_finesOf (fun r μ' => r = .inl (some (.int (nI (qfin κ s)))) ∧ ∃ I', μ' = (I', J, R, S, nx) ∧ I' = I) 4 [some (.ref 43), some (.int (nI s)), some (.int (nI (qsum (fun a => if s.testBit a then κ (74 + a) else 0) i))), some (.int (nI i))] [] (I, J, R, S, nx) 0 0 := by
    intro d
    induction d with
    | zero =>
      intro i hi
      refine sX12_finesOf_4 w (fun _ => ?_) (fun h => absurd ?_ h) (fun h => absurd ?_ h) (fun h => absurd ?_ h)
      · rw [show i = κ 2 by omega]; exact ⟨rfl, I, rfl, rfl⟩
      all_goals (rw [ha]; exact nI_le (by omega) (by omega))
    | succ d ih =>
      intro i hi
      have hhas := has_n hs (show i < 31 by omega)
      refine sX12_finesOf_4 w (fun h => absurd (show nI (κ 2) ≤ nI i by rw [← ha]; exact h) (nI_ge (by omega) (by omega))) (fun _ h => ?_) (fun _ _ => vinA 74 i 2380 (by omega) (by decide)) (fun _ h => ?_)
      · rw [hhas, ifI] at h
        rw [show (0 : Int32) = nI 0 from rfl, nI_add, show nI i + (1 : Int32) = nI (i + 1) from nI_1 i]
        have e : qsum (fun a => if s.testBit a then κ (74 + a) else 0) i + 0 = qsum (fun a => if s.testBit a then κ (74 + a) else 0) (i + 1) := by rw [qsum_s]; simp [h]
        rw [e]
        exact ih (i + 1) (by omega)
      · rw [hhas, ifI] at h
        have h' : s.testBit i = true := by simpa using h
        rw [show (74 : Int32) = nI 74 from rfl, kn_at hK 74 i (by omega), nI_add, show nI i + (1 : Int32) = nI (i + 1) from nI_1 i]
        have e : qsum (fun a => if s.testBit a then κ (74 + a) else 0) i + κ (74 + i) = qsum (fun a => if s.testBit a then κ (74 + a) else 0) (i + 1) := by rw [qsum_s]; simp [h']
        rw [e]
        exact ih (i + 1) (by omega)
  exact key (κ 2) 0 (by omega)
theorem speaking_r {kd dg sm : Nat} (w : MW R S nx) (hK : Kn I κ) (ho : qok hb pb κ) (hkd : kd < 2 ^ 31) (hdg : dg < 2 ^ 30) (hs : sm < 2 ^ 31) : Cal l G (k + 2) 0 0 mX12_speaking [.ref 43, .int (nI kd), .int (nI dg), .int (nI sm)] (I, J, R, S, nx) (fun r μ' => r = .inl (some (.int (nI (qmany κ kd dg sm)))) ∧ ∃ I', μ' = (I', J, R, S, nx) ∧ I' = I) := by
  refine Cal.of rfl (by decide +kernel) (by simp) (Nat.le_of_ble_eq_true rfl) rfl (sX12_speaking_0 ?_)
  have ha : v_X12_acts I = nI (κ 2) := hK 2 (by decide)
  have ha8 : κ 2 ≤ 8 := ho.2.1
  have key : ∀ (d i : Nat), i + d = κ 2 → WP l G (k + 2) 0 0 mX12_speaking (fun r μ' => r = .inl (some (.int (nI (qmany κ kd dg sm)))) ∧ ∃ I', μ' = (I', J, R, S, nx) ∧ I' = I) 6 [some (.ref 43), some (.int (nI kd)), some (.int (nI dg)), some (.int (nI sm)), some (.int (nI (qsum (fun a => if κ (66 + a) = kd ∧ qspk κ a dg sm = true then 1 else 0) i))), some (.int (nI i))] [] (I, J, R, S, nx) 0 0 := by
    intro d
    induction d with
    | zero =>
      intro i hi
      refine sX12_speaking_6 w (fun _ => ?_) (fun h => absurd ?_ h) (fun h => absurd ?_ h) (fun h => absurd ?_ h) (fun h => absurd ?_ h) (fun h => absurd ?_ h) (fun h => absurd ?_ h)
      · rw [show i = κ 2 by omega]; exact ⟨rfl, I, rfl, rfl⟩
      all_goals (rw [ha]; exact nI_le (by omega) (by omega))
    | succ d ih =>
      intro i hi
      have hsp := spk_n (sm := sm) hK ho (show i < 8 by omega) hdg hs
      have hkv := kn_at hK 66 i (by omega)
      have hkl := (ho.2.2.2.2.2.2.2.2.1 i (by omega)).2.2.1
      have e0 : nI (qsum (fun a => if κ (66 + a) = kd ∧ qspk κ a dg sm = true then 1 else 0) i) + (0 : Int32) = nI (qsum (fun a => if κ (66 + a) = kd ∧ qspk κ a dg sm = true then 1 else 0) i) := by rw [show (0 : Int32) = nI 0 from rfl, nI_add]; rfl
      refine sX12_speaking_6 w (fun h => absurd (show nI (κ 2) ≤ nI i by rw [← ha]; exact h) (nI_ge (by omega) (by omega))) (fun _ => vinA 66 i 2380 (by omega) (by decide)) (fun _ h => ?_) (fun _ _ _ => vinA 37 i 2380 (by omega) (by decide)) (fun _ _ _ => vinA 45 i 2380 (by omega) (by decide)) (fun _ hk h => ?_) (fun _ hk h => ?_)
      · rw [show (66 : Int32) = nI 66 from rfl, hkv, nI_eq (by omega) hkd] at h
        rw [e0, show nI i + (1 : Int32) = nI (i + 1) from nI_1 i]
        have e : qsum (fun a => if κ (66 + a) = kd ∧ qspk κ a dg sm = true then 1 else 0) i = qsum (fun a => if κ (66 + a) = kd ∧ qspk κ a dg sm = true then 1 else 0) (i + 1) := by rw [qsum_s, if_neg (fun h9 => h h9.1)]; rfl
        rw [e]
        exact ih (i + 1) (by omega)
      · rw [hsp, ifI] at h
        rw [e0, show nI i + (1 : Int32) = nI (i + 1) from nI_1 i]
        have e : qsum (fun a => if κ (66 + a) = kd ∧ qspk κ a dg sm = true then 1 else 0) i = qsum (fun a => if κ (66 + a) = kd ∧ qspk κ a dg sm = true then 1 else 0) (i + 1) := by rw [qsum_s, if_neg (fun h9 => h h9.2)]; rfl
        rw [e]
        exact ih (i + 1) (by omega)
      · rw [hsp, ifI] at h
        rw [show (66 : Int32) = nI 66 from rfl, hkv, nI_eq (by omega) hkd] at hk
        rw [show nI (qsum (fun a => if κ (66 + a) = kd ∧ qspk κ a dg sm = true then 1 else 0) i) + (1 : Int32) = nI (qsum (fun a => if κ (66 + a) = kd ∧ qspk κ a dg sm = true then 1 else 0) i + 1) from nI_1 _, show nI i + (1 : Int32) = nI (i + 1) from nI_1 i]
        have h' : qspk κ i dg sm = true := by simpa using h
        have e : qsum (fun a => if κ (66 + a) = kd ∧ qspk κ a dg sm = true then 1 else 0) i + 1 = qsum (fun a => if κ (66 + a) = kd ∧ qspk κ a dg sm = true then 1 else 0) (i + 1) := by rw [qsum_s, if_pos ⟨hk, h'⟩]
        rw [e]
        exact ih (i + 1) (by omega)
  exact key (κ 2) 0 (by omega)
theorem qmany_le {kd dg sm : Nat} (ho : qok hb pb κ) : qmany κ kd dg sm ≤ 8 := by
  have := qsum_le (f := fun a => if κ (66 + a) = kd ∧ qspk κ a dg sm = true then 1 else 0) (c := 1) (n := κ 2) (fun i _ => by split <;> omega)
  unfold qmany
  have := ho.2.1
  omega
set_option maxHeartbeats 2000000 in
theorem prevails_r {a mn h wn : Nat} (w : MW R S nx) (hK : Kn I κ) (ho : qok hb pb κ) (ha : a < 8) (hmn : mn ≤ 8) (hh : h < 2 ^ 30) (hw : wn < 5) :
    Cal l G (k + 3) 0 0 mX12_prevails [.ref 43, .int (nI a), .int (nI mn), .int (nI h), .int (nI wn)] (I, J, R, S, nx) (fun r μ' => r = .inl (some (.int (if qprv κ a mn h wn then 1 else 0))) ∧ ∃ I', μ' = (I', J, R, S, nx) ∧ Fr [49, 50] I I') := by
  have hbd := ho.2.2.2.2.2.2.2.2.1 a ha
  have e4 : I 44 4 = nI (κ 4) := hK 4 (by decide)
  have k1 : I 44 ((66 : Int32) + nI a).toNatClampNeg = nI (κ (66 + a)) := kn_at hK 66 a (by omega)
  have k2 : I 44 ((74 : Int32) + nI a).toNatClampNeg = nI (κ (74 + a)) := kn_at hK 74 a (by omega)
  have k3 : I 44 ((45 : Int32) + nI a).toNatClampNeg = nI (κ (45 + a)) := kn_at hK 45 a (by omega)
  have k4 : I 44 ((37 : Int32) + nI a).toNatClampNeg = nI (κ (37 + a)) := kn_at hK 37 a (by omega)
  have hb9 : ∀ c, c + a < 2380 → vp_in (nI c + nI a) 2380 := fun c hc => vinA c a 2380 hc (by decide)
  have hask9 : ∀ j, j < 7 → -1000000 ≤ qaskP κ a mn h wn j ∧ qaskP κ a mn h wn j ≤ 1000000 := by
    intro j hj
    have hj6 : j = 0 ∨ j = 1 ∨ j = 2 ∨ j = 3 ∨ j = 4 ∨ j = 5 ∨ j = 6 := by omega
    rcases hj6 with rfl | rfl | rfl | rfl | rfl | rfl | rfl
    · show -1000000 ≤ ((a : Nat) : Int) ∧ ((a : Nat) : Int) ≤ 1000000; omega
    · show -1000000 ≤ ((κ (66 + a) : Nat) : Int) ∧ ((κ (66 + a) : Nat) : Int) ≤ 1000000; omega
    · show -1000000 ≤ ((κ (74 + a) : Nat) : Int) ∧ ((κ (74 + a) : Nat) : Int) ≤ 1000000; omega
    · show -1000000 ≤ ((κ (45 + a) : Nat) : Int) - ((κ (37 + a) : Nat) : Int) ∧ ((κ (45 + a) : Nat) : Int) - ((κ (37 + a) : Nat) : Int) ≤ 1000000; omega
    · show -1000000 ≤ ((mn : Nat) : Int) ∧ ((mn : Nat) : Int) ≤ 1000000; omega
    · show -1000000 ≤ ((h % 24 : Nat) : Int) ∧ ((h % 24 : Nat) : Int) ≤ 1000000; omega
    · show -1000000 ≤ ((wn : Nat) : Int) ∧ ((wn : Nat) : Int) ≤ 1000000; omega
  have hF0 : ∀ v0 v1 v2 v3 v4 v5 v6 : Int32, Fr [50] I (up2 (up2 (up2 (up2 (up2 (up2 (up2 I 50 0 v0) 50 1 v1) 50 2 v2) 50 3 v3) 50 4 v4) 50 5 v5) 50 6 v6) := fun v0 v1 v2 v3 v4 v5 v6 =>
    Fr.up (Fr.up (Fr.up (Fr.up (Fr.up (Fr.up (Fr.up Fr.rf (by decide)) (by decide)) (by decide)) (by decide)) (by decide)) (by decide)) (by decide)
  refine Cal.of rfl (by decide +kernel) (by simp) (Nat.le_of_ble_eq_true rfl) rfl (sX12_prevails_0 (u1 := zI (qval (qaskP κ a mn h wn) (qsteps κ 4 1472))) (P1 := fun I1 I2 => Fr [49] I1 I2) w (fun _ => hb9 66 (by omega)) (fun _ => hb9 74 (by omega)) (fun _ => hb9 45 (by omega)) (fun _ => hb9 37 (by omega)) (fun hne => ?_) (fun hne I1 hF hu => ?_) (fun hne I1 hF hu => ?_) (fun h0 => ?_))
  · have hk4 : κ 4 ≠ 0 := fun h0 => hne (by rw [e4, h0]; rfl)
    rw [k1, k2, k3, k4, rem24 (by omega)]
    refine r_lawOf (mn := 4) (bs := 1472) (m := 7) (t := true) w (hK.fr (hF0 _ _ _ _ _ _ _) (by decide)) (by decide) ho.2.2.2.1 (by decide) (ho.2.2.2.2.2.2.2.2.2.2.2.2.2 hk4) (by decide) (fun j hj => ⟨?_, hask9 j hj⟩)
    have hj6 : j = 0 ∨ j = 1 ∨ j = 2 ∨ j = 3 ∨ j = 4 ∨ j = 5 ∨ j = 6 := by omega
    rcases hj6 with rfl | rfl | rfl | rfl | rfl | rfl | rfl
    · rfl
    · rfl
    · rfl
    · show nI (κ (45 + a)) - nI (κ (37 + a)) = zI ((κ (45 + a) : Int) - κ (37 + a))
      rw [nI_z, nI_z, zI_sub]
    · rfl
    · rfl
    · rfl
  · have hk4 : κ 4 ≠ 0 := fun h0 => hne (by rw [e4, h0]; rfl)
    refine ⟨?_, I1, rfl, (hF0 _ _ _ _ _ _ _).trans hF (by simp)⟩
    have hz := tyV_b (qval_ty (m := 7) (by decide) hask9 (ho.2.2.2.2.2.2.2.2.2.2.2.2.2 hk4))
    have hq : qprv κ a mn h wn = false := by
      unfold qprv
      simp only [Bool.or_eq_false_iff, decide_eq_false_iff_not]
      exact ⟨hk4, fun h9 => hu (by rw [h9]; rfl)⟩
    rw [hq]; rfl
  · have hk4 : κ 4 ≠ 0 := fun h0 => hne (by rw [e4, h0]; rfl)
    refine ⟨?_, I1, rfl, (hF0 _ _ _ _ _ _ _).trans hF (by simp)⟩
    have hz := tyV_b (qval_ty (m := 7) (by decide) hask9 (ho.2.2.2.2.2.2.2.2.2.2.2.2.2 hk4))
    have hv : qval (qaskP κ a mn h wn) (qsteps κ 4 1472) = 1 := by
      have h1 := congrArg Int32.toInt hu
      rw [zI_toInt (by omega)] at h1
      rw [h1]; decide
    have hq : qprv κ a mn h wn = true := by
      unfold qprv
      simp [hv]
    rw [hq]; rfl
  · have hk4 : κ 4 = 0 := by rw [e4] at h0; exact (nI_eq (by have := ho.2.2.2.1; omega) (by decide)).mp h0
    refine ⟨?_, I, rfl, Fr.rf⟩
    have hq : qprv κ a mn h wn = true := by unfold qprv; simp [hk4]
    rw [hq]; rfl
end A
