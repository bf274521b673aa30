/-! the class: what it knows -/
def prm (i : Nat) : Nat := if i = 0 then 47 else if i = 1 then 48 else if i = 2 then 46 else i - 3
/-- the row now -/
def CN (I : Nat → Nat → Int32) (κ : Nat → Nat) : Prop := ∀ i, i < 49 → I 25 i = nI (κ (7 + prm i))
/-- the land at L -/
def CL (I : Nat → Nat → Int32) (κ : Nat → Nat) (L dl pl ld lp : Nat) : Prop := (I L 0 = nI (κ 0) ∧ I L 1 = nI (κ 1) ∧ I L 2 = nI (κ 2) ∧ I L 4 = nI (κ 6)) ∧ (∀ w, w < 5 → I (L + 1) w = nI (κ (56 + w)) ∧ I (L + 2) w = nI (κ (61 + w))) ∧ (∀ a, a < 8 → I (L + 3) a = nI (κ (66 + a)) ∧ I (L + 4) a = nI (κ (74 + a))) ∧ (∀ kd, kd < 10 → I (L + 7) kd = nI (qkind κ kd)) ∧ (ld = κ 3 ∧ ∀ i, i < κ 3 → I dl i = cst false (κ (572 + i))) ∧ (lp = κ 4 ∧ ∀ i, i < κ 4 → I pl i = cst true (κ (1472 + i)))
/-- what is known of which act prevails -/
def PV (I : Nat → Nat → Int32) (κ : Nat → Nat) : Prop := ∀ w h a, w < 5 → h < 24 → a < 8 → ∃ kn : Nat, I 29 ((w * 24 + h) * 8 + a) = nI kn ∧ kn < 2 ^ 25 ∧ ∀ m, m ≤ 8 → (kn.testBit m = true → kn.testBit (16 + m) = qprv κ a m h w) ∧ (kn.testBit (16 + m) = true → kn.testBit m = true)
def CK (I : Nat → Nat → Int32) (κ : Nat → Nat) (L dl pl ld lp : Nat) : Prop := CN I κ ∧ CL I κ L dl pl ld lp ∧ PV I κ
section A
variable {l : Launch} {G : Gh} {k : Nat} {I : Nat → Nat → Int32} {J : Nat → Nat → Int64} {R : Nat → Nat → Option Nat} {S : Nat → Nat × Nat} {nx : Nat} {κ : Nat → Nat} {hb pb : Nat}
theorem CN.h (h : CN I κ) : I 25 0 = nI (κ 54) ∧ I 25 1 = nI (κ 55) ∧ I 25 2 = nI (κ 53) := by
  have a := h 0 (by decide)
  have b := h 1 (by decide)
  have c := h 2 (by decide)
  have e0 : 7 + prm 0 = 54 := by decide
  have e1 : 7 + prm 1 = 55 := by decide
  have e2 : 7 + prm 2 = 53 := by decide
  rw [e0] at a; rw [e1] at b; rw [e2] at c
  exact ⟨a, b, c⟩
theorem CN.j (h : CN I κ) {j : Nat} (hj : j < 46) : I 25 (3 + j) = nI (κ (7 + j)) := by
  have := h (3 + j) (by omega)
  rw [show prm (3 + j) = j by unfold prm; rw [if_neg (by omega), if_neg (by omega), if_neg (by omega)]; omega] at this
  exact this
theorem LW.ne {L dl pl ld lp : Nat} (wl : LW R S nx L dl pl ld lp) : ((L = 3 ∨ L = 15 ∨ 72 ≤ L) ∧ (dl = L + 8 ∨ 72 ≤ dl) ∧ (pl = L + 9 ∨ 72 ≤ pl)) := wl.2.2.2.2.2.2
theorem CL.fr {L dl pl ld lp : Nat} {rs : List Nat} {I' : Nat → Nat → Int32} (h : CL I κ L dl pl ld lp) (wl : LW R S nx L dl pl ld lp) (hF : Fr rs I I') (hr : ∀ a ∈ rs, 25 ≤ a ∧ a < 72) : CL I' κ L dl pl ld lp := by
  obtain ⟨n1, n2, n3⟩ := wl.ne
  have e : ∀ a, (a < 25 ∨ 72 ≤ a) → I' a = I a := fun a ha => hF a (fun g => by have := hr a g; omega)
  obtain ⟨h1, h2, h3, h4, h5, h6⟩ := h
  refine ⟨?_, fun w hw => ?_, fun a ha => ?_, fun k hk => ?_, ⟨h5.1, fun i hi => ?_⟩, ⟨h6.1, fun i hi => ?_⟩⟩
  · rw [e L (by omega)]; exact h1
  · rw [e (L + 1) (by omega), e (L + 2) (by omega)]; exact h2 w hw
  · rw [e (L + 3) (by omega), e (L + 4) (by omega)]; exact h3 a ha
  · rw [e (L + 7) (by omega)]; exact h4 k hk
  · rw [e dl (by omega)]; exact h5.2 i hi
  · rw [e pl (by omega)]; exact h6.2 i hi
theorem CN.fr {rs : List Nat} {I' : Nat → Nat → Int32} (h : CN I κ) (hF : Fr rs I I') (hr : 25 ∉ rs) : CN I' κ := fun i hi => by rw [hF 25 hr]; exact h i hi
theorem PV.fr {rs : List Nat} {I' : Nat → Nat → Int32} (h : PV I κ) (hF : Fr rs I I') (hr : 29 ∉ rs) : PV I' κ := fun w h' a h1 h2 h3 => by rw [hF 29 hr]; exact h w h' a h1 h2 h3
theorem CK.fr {L dl pl ld lp : Nat} {rs : List Nat} {I' : Nat → Nat → Int32} (h : CK I κ L dl pl ld lp) (wl : LW R S nx L dl pl ld lp) (hF : Fr rs I I') (h1 : 25 ∉ rs) (h2 : 29 ∉ rs) (hr : ∀ a ∈ rs, 25 ≤ a ∧ a < 72) : CK I' κ L dl pl ld lp := ⟨h.1.fr hF h1, h.2.1.fr wl hF hr, h.2.2.fr hF h2⟩
theorem bit_n {s i : Nat} (hs : s < 2 ^ 31) (hi : i < 31) : ((nI s >>> (nI i &&& 31)) &&& (1 : Int32) = 0) = ¬ s.testBit i = true := by
  have h1 : nI i &&& 31 = nI i := by
    rw [show (31 : Int32) = nI (2 ^ 5 - 1) from rfl, fa_mask, Nat.mod_eq_of_lt (by omega)]
  have h2 : ((nI i).toBitVec.smod 32).toNat = i := by
    have : ∀ i, i < 31 → ((nI i).toBitVec.smod 32).toNat = i := by decide +kernel
    exact this i hi
  rw [h1, pk_shrN hs (nI i) i h2, show (1 : Int32) = nI (2 ^ 1 - 1) from rfl, fa_mask, Nat.testBit_eq_decide_div_mod_eq]
  have h3 : s / 2 ^ i % 2 ^ 1 < 2 := Nat.mod_lt _ (by decide)
  apply propext
  rw [show (0 : Int32) = nI 0 from rfl, nI_eq (by omega) (by decide)]
  simp
theorem bit_v {s i : Nat} (hs : s < 2 ^ 31) (hi : i < 31) : (nI s >>> (nI i &&& 31)) &&& (1 : Int32) = nI (if s.testBit i then 1 else 0) := by
  have h1 : nI i &&& 31 = nI i := by
    rw [show (31 : Int32) = nI (2 ^ 5 - 1) from rfl, fa_mask, Nat.mod_eq_of_lt (by omega)]
  have h2 : ((nI i).toBitVec.smod 32).toNat = i := by
    have : ∀ i, i < 31 → ((nI i).toBitVec.smod 32).toNat = i := by decide +kernel
    exact this i hi
  rw [h1, pk_shrN hs (nI i) i h2, show (1 : Int32) = nI (2 ^ 1 - 1) from rfl, fa_mask, Nat.testBit_eq_decide_div_mod_eq]
  congr 1
  by_cases c : s / 2 ^ i % 2 = 1
  · simp [c]
  · simp [c]; omega
theorem finesOf_c {L dl pl ld lp s : Nat} (wl : LW R S nx L dl pl ld lp) (hL : CL I κ L dl pl ld lp) (h2 : κ 2 ≤ 8) (hs : s < 2 ^ 31) : Cal l G k 0 0 mX2_finesOf [.ref L, .int (nI s)] (I, J, R, S, nx) (fun r μ' => r = .inl (some (.int (nI (qfin κ s)))) ∧ ∃ I', μ' = (I', J, R, S, nx) ∧ I' = I) := by
  refine Cal.of rfl (by decide +kernel) (by simp) (Nat.le_of_ble_eq_true rfl) rfl (sX2_finesOf_0 wl ?_)
  have e2 : I L 2 = nI (κ 2) := hL.1.2.2.1
  refine upto (σ := Unit) (W := fun i _ => hX2_finesOf_4 l G k _ L (nI s) (nI (qsum (fun a => if s.testBit a then κ (74 + a) else 0) i)) (nI i) (I, J, R, S, nx)) (P := fun i _ => True) (κ 2) ?_ ?_ (i := 0) (s := ()) (Nat.zero_le _) trivial
  · intro _ _
    have c1 : I L 2 ≤ nI (κ 2) := by rw [e2]; exact nI_le (Nat.le_refl _) (by omega)
    refine sX2_finesOf_4 wl ?_ ?_ ?_ ?_ <;> intros <;> (first | exact absurd (by with_reducible assumption) c1 | exact absurd c1 (by with_reducible assumption) | skip)
    exact ⟨rfl, _, rfl, rfl⟩
  · intro i _ hi _ ih
    have c1 : ¬ I L 2 ≤ nI i := by rw [e2]; exact nI_ge hi (by omega)
    have eb := bit_n (s := s) (i := i) hs (by omega)
    have hx := ih () trivial
    refine sX2_finesOf_4 wl ?_ ?_ ?_ ?_ <;> intros <;> (first | exact absurd (by with_reducible assumption) c1 | exact absurd c1 (by with_reducible assumption) | skip)
    · rename_i g; rw [eb] at g
      rw [qsum_s, if_neg g] at hx
      rw [nI_1]; exact hx
    · exact vp_in_nI (by omega) (by decide)
    · rename_i g; rw [eb, Decidable.not_not] at g
      rw [qsum_s, if_pos g] at hx
      rw [nI_1, nI_clamp (by omega), (hL.2.2.1 i (by omega)).2, nI_add]; exact hx
theorem laid_c {wn h what : Nat} (hN : CN I κ) (hw : what + 10 + wn < 46) (h1 : κ (7 + (what + 5 + wn)) < 2 ^ 30) (h2 : κ (7 + (what + 10 + wn)) < 2 ^ 30) (hh : h < 2 ^ 30) : v_X7_laidOn I (nI (3 + what)) (nI wn) (nI h) = nI (qlaid κ (7 + what) wn h) := by
  unfold v_X7_laidOn qlaid
  have e5 : nI (3 + what) + (5 : Int32) + nI wn = nI (3 + (what + 5 + wn)) := by rw [show (5 : Int32) = nI 5 from rfl, nI_add, nI_add]; congr 1; omega
  have e10 : nI (3 + what) + (10 : Int32) + nI wn = nI (3 + (what + 10 + wn)) := by rw [show (10 : Int32) = nI 10 from rfl, nI_add, nI_add]; congr 1; omega
  have e0 : nI (3 + what) + nI wn = nI (3 + (what + wn)) := by rw [nI_add]; congr 1; omega
  rw [e5, e10, e0, nI_clamp (by omega), nI_clamp (by omega), nI_clamp (by omega), hN.j (by omega), hN.j (by omega), hN.j (by omega)]
  rw [show 7 + what + 5 + wn = 7 + (what + 5 + wn) by omega, show 7 + what + 10 + wn = 7 + (what + 10 + wn) by omega, show 7 + what + wn = 7 + (what + wn) by omega]
  have l1 : (nI h < nI (κ (7 + (what + 5 + wn)))) = (h < κ (7 + (what + 5 + wn))) := propext (nI_ltI (by omega) (by omega))
  have l2 : (nI (κ (7 + (what + 10 + wn))) ≤ nI h) = (κ (7 + (what + 10 + wn)) ≤ h) := propext (nI_leI (by omega) (by omega))
  by_cases c1 : h < κ (7 + (what + 5 + wn))
  · rw [if_pos (by rw [l1]; exact c1), if_neg (by omega)]; rfl
  · rw [if_neg (by rw [l1]; exact c1)]
    by_cases c2 : κ (7 + (what + 10 + wn)) ≤ h
    · rw [if_pos (by rw [l2]; exact c2), if_neg (by omega)]; rfl
    · rw [if_neg (by rw [l2]; exact c2), if_pos (by omega)]
theorem kept_c {z : Int} (h : -2147483648 ≤ z ∧ z < 2147483648) : v_X7_keptDegree (zI z) = nI (qkept z) := by
  have e : v_X7_keptDegree (zI z) = v_X12_kept (zI z) := by
    unfold v_X7_keptDegree v_X12_kept
    first | rfl | (split <;> split <;> rfl)
  rw [e]; exact kept_z h
theorem qsteps_at {mn bs i s : Nat} (h : (qsteps κ mn bs)[i]? = some s) : i < κ mn ∧ s = κ (bs + i) := by
  unfold qsteps at h
  rw [List.getElem?_map] at h
  by_cases c : i < κ mn
  · rw [List.getElem?_range c] at h; exact ⟨c, (Option.some.inj h).symm⟩
  · rw [List.getElem?_eq_none (by rw [List.length_range]; omega)] at h; cases h
theorem xor_nn {a b : Int32} (ha : 0 ≤ a) (hb : 0 ≤ b) : 0 ≤ a ^^^ b := by
  have q : ∀ c : Int32, 0 ≤ c ↔ c.toBitVec.msb = false := fun c => by
    rw [Int32.le_iff_toInt_le, BitVec.msb_eq_toInt, decide_eq_false_iff_not, Int.not_lt]
    exact Iff.rfl
  rw [q] at ha hb ⊢
  rw [Int32.toBitVec_xor, BitVec.msb_xor, ha, hb]; rfl
theorem hod {h : Nat} (hh : h < 2 ^ 31) : v_X7_hourOfDay (nI h) = nI (h % 24) := by
  unfold v_X7_hourOfDay v_J9_floorMod_7cf53
  rw [if_pos (xor_nn (nI_le (a := 0) (Nat.zero_le h) hh) (by decide))]
  exact rem24 hh
theorem degreeIn_c {wn hh : Nat} {L dl pl ld lp : Nat} (w : CF R S nx) (wL : R 14 0 = some L) (wl : LW R S nx L dl pl ld lp) (h : CK I κ L dl pl ld lp) (ho : qok hb pb κ) (hhb : hb < 2 ^ 29) (hw : wn < 5) (hh2 : hh < 2 ^ 30) : Cal l G (k + 2) 0 0 mX7_degreeIn [.ref 14, .int (nI wn), .int (nI hh)] (I, J, R, S, nx) (fun r μ' => r = .inl (some (.int (nI (qdeg κ wn hh)))) ∧ ∃ I', μ' = (I', J, R, S, nx) ∧ Fr [27, 28] I I' ∧ CK I' κ L dl pl ld lp) := by
  obtain ⟨n1, n2, n3⟩ := wl.ne
  have hbd := ho.2.2.2.2.2.2.2.1 wn hw
  have hl := qlaid_le (h := hh) ho hw
  have e1 : v_X7_laidOn I (3 : Int32) (nI wn) (nI hh) = nI (qlaid κ 7 wn hh) := laid_c (what := 0) h.1 (by omega) (by rw [show 7 + (0 + 5 + wn) = 12 + wn by omega]; omega) (by rw [show 7 + (0 + 10 + wn) = 17 + wn by omega]; omega) hh2
  have e2 : v_X7_laidOn I (18 : Int32) (nI wn) (nI hh) = nI (qlaid κ 22 wn hh) := laid_c (what := 15) h.1 (by omega) (by rw [show 7 + (15 + 5 + wn) = 27 + wn by omega]; omega) (by rw [show 7 + (15 + 10 + wn) = 32 + wn by omega]; omega) hh2
  have e3 : I (L + 1) (nI wn).toNatClampNeg = nI (κ (56 + wn)) := by rw [nI_clamp (by omega)]; exact (h.2.1.2.1 wn hw).1
  have hld : ld = κ 3 := h.2.1.2.2.2.2.1.1
  have h3 := ho.2.2.1
  have hb9 : ∀ c, c + wn < 49 → vp_in (nI c + nI wn) 49 := fun c hc => vinA c wn 49 hc (by decide)
  by_cases c0 : κ 3 = 0
  · have d1 : Int32.ofNat ld = 0 := by rw [hld, c0]; rfl
    refine Cal.of rfl (by decide +kernel) (by simp) (Nat.le_of_ble_eq_true rfl) rfl (sX7_degreeIn_0 (u1 := 0) (P1 := fun _ _ => True) w wL wl (hb9 8 (by omega)) (fun _ => hb9 13 (by omega)) (fun _ _ => hb9 3 (by omega)) (hb9 23 (by omega)) (fun _ => hb9 28 (by omega)) (fun _ _ => hb9 18 (by omega)) ?_ ?_ ?_ ?_ ?_) <;> intros <;> (first | exact absurd (by with_reducible assumption) d1 | exact absurd d1 (by with_reducible assumption) | skip)
    · exact vp_in_nI hw (by decide)
    · refine ⟨?_, _, rfl, Fr.rf, h⟩
      rw [e1, e2, e3, nI_z, nI_z, nI_z, zI_add, zI_sub, kept_c (by omega)]
      unfold qdeg; rw [if_pos c0]
  · have d1 : ¬ Int32.ofNat ld = 0 := by rw [hld]; exact nI_ne0 (by omega) (by omega)
    have ht := ho.2.2.2.2.2.2.2.2.2.2.2.2.1 c0
    rw [show qdeg κ wn hh = qkept (qval (qaskD κ wn hh) (qsteps κ 3 572)) by unfold qdeg; rw [if_neg c0]]
    have hF : ∀ a b c d e f : Int32, Fr [27] I (up2 (up2 (up2 (up2 (up2 (up2 I 27 14 a) 27 15 b) 27 16 c) 27 6 d) 27 17 e) 27 0 f) := fun a b c d e f => (((((Fr.rf.up (by decide)).up (by decide)).up (by decide)).up (by decide)).up (by decide)).up (by decide)
    refine Cal.of rfl (by decide +kernel) (by simp) (Nat.le_of_ble_eq_true rfl) rfl (sX7_degreeIn_0 (u1 := zI (qval (qaskD κ wn hh) (qsteps κ 3 572))) (P1 := fun I1 I2 => Fr [28] I1 I2 ∧ tyV false (qval (qaskD κ wn hh) (qsteps κ 3 572))) w wL wl (hb9 8 (by omega)) (fun _ => hb9 13 (by omega)) (fun _ _ => hb9 3 (by omega)) (hb9 23 (by omega)) (fun _ => hb9 28 (by omega)) (fun _ _ => hb9 18 (by omega)) ?_ ?_ ?_ ?_ ?_) <;> intros <;> (first | exact absurd (by with_reducible assumption) d1 | exact absurd d1 (by with_reducible assumption) | skip)
    · exact vp_in_nI hw (by decide)
    · rw [e1, e2, e3, hod (by omega), div24 (by omega), rem1000 (by omega)]
      refine valueOf_c (m := false) (mm := 6) w (lw_sdl wl) (lw_ndl wl) (by omega) (by rw [hld]; unfold qsteps; simp) (by omega) (fun i s hs => ?_) ht (by decide) (fun j hj => ?_)
      · obtain ⟨q1, q2⟩ := qsteps_at hs
        rw [hF _ _ _ _ _ _ dl (by simp; omega), q2]; exact h.2.1.2.2.2.2.1.2 i q1
      · have hj6 : j = 0 ∨ j = 1 ∨ j = 2 ∨ j = 3 ∨ j = 4 ∨ j = 5 := by omega
        rcases hj6 with rfl | rfl | rfl | rfl | rfl | rfl
        · exact ⟨rfl, by show -1000000 ≤ ((κ (56 + wn) : Nat) : Int) ∧ ((κ (56 + wn) : Nat) : Int) ≤ 1000000; omega⟩
        · exact ⟨rfl, by show -1000000 ≤ ((qlaid κ 7 wn hh : Nat) : Int) ∧ ((qlaid κ 7 wn hh : Nat) : Int) ≤ 1000000; omega⟩
        · exact ⟨rfl, by show -1000000 ≤ ((qlaid κ 22 wn hh : Nat) : Int) ∧ ((qlaid κ 22 wn hh : Nat) : Int) ≤ 1000000; omega⟩
        · exact ⟨rfl, by show -1000000 ≤ ((hh % 24 : Nat) : Int) ∧ ((hh % 24 : Nat) : Int) ≤ 1000000; omega⟩
        · exact ⟨rfl, by show -1000000 ≤ ((hh / 24 % 1000 : Nat) : Int) ∧ ((hh / 24 % 1000 : Nat) : Int) ≤ 1000000; omega⟩
        · exact ⟨rfl, by show -1000000 ≤ ((wn : Nat) : Int) ∧ ((wn : Nat) : Int) ≤ 1000000; omega⟩
    · rename_i I1 h1
      have hz := tyV_b h1.2
      have hall : Fr [27, 28] I I1 := (hF _ _ _ _ _ _).tr h1.1 (by decide)
      exact ⟨by rw [kept_c (by omega)], _, rfl, hall, h.fr wl hall (by decide) (by decide) (by decide)⟩
end A
