/-! the reference's degrees and codes -/
theorem zI_add (a b : Int) : zI a + zI b = zI (a + b) := (Int32.ofInt_add a b).symm
theorem zI_sub (a b : Int) : zI a - zI b = zI (a - b) := (Int32.ofInt_sub a b).symm
theorem wi_t (x lo hi : Int64) : v_X12_within x lo hi = if lo.toInt ≤ x.toInt ∧ x.toInt ≤ hi.toInt then 1 else 0 := by
  rw [wi_eq]
  simp only [fa_le64]
theorem n64 {n : Nat} (h : n < 2 ^ 31) : (nI n).toInt64.toInt = (n : Int) := by rw [nI_z]; exact z64 (by omega)
theorem qrun_ty {ask : Nat → Int} {m : Nat} (hm : m ≤ 7) (hask : ∀ j, j < m → -1000000 ≤ ask j ∧ ask j ≤ 1000000) : ∀ (steps : List Nat) (ts fin : List Bool) (st : List Int), tyR st ts → qtyp m steps ts = some fin → tyR (qrun ask steps st) fin
  | [], ts, fin, st, h, hq => by
    have : ts = fin := by simpa [qtyp] using hq
    subst this
    exact h
  | s :: r, ts, fin, st, h, hq => by
    rcases qtyp_inv hq with ⟨g1, g2, _, g4⟩ | ⟨rfl, tt, rfl, g4⟩ | ⟨g1, g2, a, b, tt, rfl, g4, g5⟩
    · rw [qrun_push g1]
      refine qrun_ty hm hask r (false :: ts) fin _ ⟨?_, h⟩ g4
      by_cases c : 1000 ≤ s
      · rw [if_pos c]; show -1000000 ≤ _ ∧ _ ≤ _; omega
      · rw [if_neg c]; exact hask _ (by omega)
    · match st, h with
      | x :: t1, h =>
        rw [qrun_not]
        refine qrun_ty hm hask r (true :: tt) fin _ ⟨?_, h.2⟩ g4
        have ha : x = 0 ∨ x = 1 := by simpa [tyV] using h.1
        rcases ha with rfl | rfl <;> simp [tyV]
    · match st, h with
      | y :: x :: t1, h =>
        rw [qrun_op g2]
        exact qrun_ty hm hask r (b :: tt) fin _ ⟨g5 x y h.2.1 h.1, h.2.2⟩ g4
theorem qval_ty {ask : Nat → Int} {m : Nat} {steps : List Nat} {t : Bool} (hm : m ≤ 7) (hask : ∀ j, j < m → -1000000 ≤ ask j ∧ ask j ≤ 1000000) (hq : qtyp m steps [] = some [t]) : tyV t (qval ask steps) := by
  have h := qrun_ty hm hask steps [] [t] [] trivial hq
  unfold qval
  match hr : qrun ask steps [], h with
  | [x], h => simpa [hr] using h.1
theorem kept_z {z : Int} (h : -2147483648 ≤ z ∧ z < 2147483648) : v_X12_kept (zI z) = nI (qkept z) := by
  unfold v_X12_kept qkept
  have e99 : (99 : Int32) = zI 99 := by decide
  have e0 : (0 : Int32) = zI 0 := by decide
  have hlt : ∀ {a b : Int}, (-2147483648 ≤ a ∧ a < 2147483648) → (-2147483648 ≤ b ∧ b < 2147483648) → (zI a < zI b ↔ a < b) := fun ha hb => by rw [fa_lt, zI_toInt ha, zI_toInt hb]
  rw [e99, nI_z]
  by_cases c1 : z < 99
  · rw [if_pos ((hlt h (by omega)).mpr c1)]
    by_cases c2 : 0 < z
    · rw [e0, if_pos ((hlt (by omega) h).mpr c2)]; congr 1; omega
    · rw [e0, if_neg (fun h9 => c2 ((hlt (by omega) h).mp h9))]; congr 1; omega
  · rw [if_neg (fun h9 => c1 ((hlt h (by omega)).mp h9)), e0, if_pos ((hlt (by omega) (by omega)).mpr (by omega))]; congr 1; omega
section A
variable {l : Launch} {G : Gh} {k : Nat} {I : Nat → Nat → Int32} {J : Nat → Nat → Int64} {R : Nat → Nat → Option Nat} {S : Nat → Nat × Nat} {nx : Nat} {κ : Nat → Nat} {hb pb : Nat}
theorem ix3 {a b c : Nat} : (nI a + nI b) + nI c = nI (a + b + c) := by rw [nI_add, nI_add]
theorem laid_n {what w h : Nat} (hK : Kn I κ) (hw : what + 10 + w < 2380) (h1 : κ (what + 5 + w) < 2 ^ 30) (h2 : κ (what + 10 + w) < 2 ^ 30) (hh : h < 2 ^ 30) : v_X12_laidOn I (nI what) (nI w) (nI h) = nI (qlaid κ what w h) := by
  unfold v_X12_laidOn qlaid
  have hsub : nI (κ (what + 10 + w)) - (1 : Int32) = zI ((κ (what + 10 + w) : Int) - 1) := by rw [nI_z, show (1 : Int32) = zI 1 from rfl, zI_sub]
  rw [show (5 : Int32) = nI 5 from rfl, show (10 : Int32) = nI 10 from rfl, ix3, ix3, nI_add, nI_clamp (n := what + 5 + w) (by omega), nI_clamp (n := what + 10 + w) (by omega), nI_clamp (n := what + w) (by omega), hK _ (by omega), hK _ (by omega), hK _ (by omega), hsub, wi_t, n64 (by omega), n64 (by omega), z64 (by omega)]
  simp only [ifI]
  by_cases c : κ (what + 5 + w) ≤ h ∧ h < κ (what + 10 + w)
  · rw [if_neg (by omega), if_pos c]
  · rw [if_pos (by omega), if_neg c]; rfl
theorem rem24 {h : Nat} (hh : h < 2 ^ 31) : nI h - nI h / (24 : Int32) * (24 : Int32) = nI (h % 24) := pk_rem hh (by decide) (by decide)
theorem div24 {h : Nat} (hh : h < 2 ^ 31) : nI h / (24 : Int32) = nI (h / 24) := pk_div hh (by decide) (by decide)
theorem rem1000 {h : Nat} (hh : h < 2 ^ 31) : nI h - nI h / (1000 : Int32) * (1000 : Int32) = nI (h % 1000) := pk_rem hh (by decide) (by decide)
theorem qlaid_le {w h : Nat} (ho : qok hb pb κ) (hw : w < 5) : qlaid κ 7 w h ≤ 60 ∧ qlaid κ 22 w h ≤ 60 := by
  have := ho.2.2.2.2.2.2.2.1 w hw
  unfold qlaid
  constructor <;> split <;> omega
set_option maxHeartbeats 2000000 in
theorem r_degreeIn {wn h : Nat} (w : MW R S nx) (hK : Kn I κ) (ho : qok hb pb κ) (hhb : hb < 2 ^ 29) (hw : wn < 5) (hh : h < 2 ^ 30) :
    Cal l G (k + 3) 0 0 mX12_degreeIn [.ref 43, .int (nI wn), .int (nI h)] (I, J, R, S, nx) (fun r μ' => r = .inl (some (.int (nI (qdeg κ wn h)))) ∧ ∃ I', μ' = (I', J, R, S, nx) ∧ Fr [49, 50] I I') := by
  have hbd := ho.2.2.2.2.2.2.2.1 wn hw
  have hl := qlaid_le (h := h) ho hw
  have e1 : v_X12_laidOn I (7 : Int32) (nI wn) (nI h) = nI (qlaid κ 7 wn h) := laid_n (what := 7) hK (by omega) (by rw [show 7 + 5 + wn = 12 + wn by omega]; omega) (by rw [show 7 + 10 + wn = 17 + wn by omega]; omega) hh
  have e2 : v_X12_laidOn I (22 : Int32) (nI wn) (nI h) = nI (qlaid κ 22 wn h) := laid_n (what := 22) hK (by omega) (by rw [show 22 + 5 + wn = 27 + wn by omega]; omega) (by rw [show 22 + 10 + wn = 32 + wn by omega]; omega) hh
  have e3 : I 44 ((56 : Int32) + nI wn).toNatClampNeg = nI (κ (56 + wn)) := kn_at hK 56 wn (by omega)
  have e4 : I 44 3 = nI (κ 3) := hK 3 (by decide)
  have hb9 : ∀ c, c + wn < 2380 → vp_in (nI c + nI wn) 2380 := fun c hc => vinA c wn 2380 hc (by decide)
  have hd31 : κ 3 < 2 ^ 31 := by have := ho.2.2.1; omega
  have hask9 : ∀ j, j < 6 → -1000000 ≤ qaskD κ wn h j ∧ qaskD κ wn h j ≤ 1000000 := by
    intro j hj
    have hj6 : j = 0 ∨ j = 1 ∨ j = 2 ∨ j = 3 ∨ j = 4 ∨ j = 5 := by omega
    rcases hj6 with rfl | rfl | rfl | rfl | rfl | rfl
    · show -1000000 ≤ ((κ (56 + wn) : Nat) : Int) ∧ ((κ (56 + wn) : Nat) : Int) ≤ 1000000; omega
    · show -1000000 ≤ ((qlaid κ 7 wn h : Nat) : Int) ∧ ((qlaid κ 7 wn h : Nat) : Int) ≤ 1000000; omega
    · show -1000000 ≤ ((qlaid κ 22 wn h : Nat) : Int) ∧ ((qlaid κ 22 wn h : Nat) : Int) ≤ 1000000; omega
    · show -1000000 ≤ ((h % 24 : Nat) : Int) ∧ ((h % 24 : Nat) : Int) ≤ 1000000; omega
    · show -1000000 ≤ ((h / 24 % 1000 : Nat) : Int) ∧ ((h / 24 % 1000 : Nat) : Int) ≤ 1000000; omega
    · show -1000000 ≤ ((wn : Nat) : Int) ∧ ((wn : Nat) : Int) ≤ 1000000; omega
  refine Cal.of rfl (by decide +kernel) (by simp) (Nat.le_of_ble_eq_true rfl) rfl (sX12_degreeIn_0 (u1 := zI (qval (qaskD κ wn h) (qsteps κ 3 572))) (P1 := fun I1 I2 => Fr [49] I1 I2) w (hb9 12 (by omega)) (hb9 17 (by omega)) (fun _ => hb9 7 (by omega)) (hb9 27 (by omega)) (hb9 32 (by omega)) (fun _ => hb9 22 (by omega)) (fun _ => hb9 56 (by omega)) (fun hne => ?_) (fun hne I1 hF => ?_) (fun _ => hb9 56 (by omega)) (fun h0 => ?_))
  · have hk3 : κ 3 ≠ 0 := fun h0 => hne (by rw [e4, h0]; rfl)
    rw [e1, e2, e3, rem24 (by omega), div24 (by omega), rem1000 (by omega)]
    have hF : Fr [50] I (up2 (up2 (up2 (up2 (up2 (up2 I 50 0 (nI (κ (56 + wn)))) 50 1 (nI (qlaid κ 7 wn h))) 50 2 (nI (qlaid κ 22 wn h))) 50 3 (nI (h % 24))) 50 4 (nI (h / 24 % 1000))) 50 5 (nI wn)) :=
      Fr.up (Fr.up (Fr.up (Fr.up (Fr.up (Fr.up Fr.rf (by decide)) (by decide)) (by decide)) (by decide)) (by decide)) (by decide)
    refine r_lawOf (mn := 3) (bs := 572) (m := 6) (t := false) w (hK.fr hF (by decide)) (by decide) ho.2.2.1 (by decide) (ho.2.2.2.2.2.2.2.2.2.2.2.2.1 hk3) (by decide) (fun j hj => ?_)
    have hj6 : j = 0 ∨ j = 1 ∨ j = 2 ∨ j = 3 ∨ j = 4 ∨ j = 5 := by omega
    rcases hj6 with rfl | rfl | rfl | rfl | rfl | rfl
    all_goals exact ⟨rfl, hask9 _ (by decide)⟩
  · have hk3 : κ 3 ≠ 0 := fun h0 => hne (by rw [e4, h0]; rfl)
    have hF0 : Fr [50] I _ := Fr.up (Fr.up (Fr.up (Fr.up (Fr.up (Fr.up (I := I) (I' := I) (rows := [50]) (a := 50) (i := 0) (v := I 44 ((56 : Int32) + nI wn).toNatClampNeg) Fr.rf (by decide)) (a := 50) (i := 1) (v := v_X12_laidOn I (7 : Int32) (nI wn) (nI h)) (by decide)) (a := 50) (i := 2) (v := v_X12_laidOn I (22 : Int32) (nI wn) (nI h)) (by decide)) (a := 50) (i := 3) (v := nI h - nI h / (24 : Int32) * (24 : Int32)) (by decide)) (a := 50) (i := 4) (v := (nI h / (24 : Int32)) - (nI h / (24 : Int32)) / (1000 : Int32) * (1000 : Int32)) (by decide)) (a := 50) (i := 5) (v := nI wn) (by decide)
    refine ⟨?_, I1, rfl, hF0.trans hF (by simp)⟩
    unfold qdeg
    rw [if_neg hk3]
    have hz := tyV_b (qval_ty (ask := qaskD κ wn h) (m := 6) (by decide) (fun j hj => hask9 j hj) (ho.2.2.2.2.2.2.2.2.2.2.2.2.1 hk3))
    rw [kept_z (by omega)]
  · have hk3 : κ 3 = 0 := by rw [e4] at h0; exact (nI_eq hd31 (by decide)).mp h0
    refine ⟨?_, I, rfl, Fr.rf⟩
    unfold qdeg
    rw [if_pos hk3, e1, e2, e3]
    simp only [nI_z]
    rw [zI_add, zI_sub, kept_z (by omega)]
    rfl
end A
