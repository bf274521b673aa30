/-! the class: acts of a kind, codes, fines; deeds of state on the row -/
theorem live_n : ∀ n, n < 9 → ∀ s, s < 256 → (((1 : Int32) <<< (nI n &&& 31)) - (1 : Int32)) &&& (nI s ^^^ (-1 : Int32)) = nI (bset (fun a => !s.testBit a) n) := by decide +kernel
theorem qsum_cg0 {f g : Nat → Nat} {n : Nat} (h : ∀ i, i < n → f i = g i) : qsum f n = qsum g n := qsum_congr h
section A
variable {l : Launch} {G : Gh} {k : Nat} {I : Nat → Nat → Int32} {J : Nat → Nat → Int64} {R : Nat → Nat → Option Nat} {S : Nat → Nat × Nat} {nx : Nat} {κ : Nat → Nat} {hb pb : Nat}
theorem qcode_kd (κ : Nat → Nat) (wn d h s kd : Nat) : qcode κ wn d h s &&& qkind κ kd = qcode κ wn d h (s &&& qkind κ kd) := by
  have hl : qcode κ wn d h s &&& qkind κ kd < 2 ^ κ 2 := Nat.and_lt_two_pow _ (bset_lt _ _)
  refine bset_ext hl (bset_lt _ _) (fun a ha => ?_)
  have hk : (qkind κ kd).testBit a = decide (κ (66 + a) = kd) := by unfold qkind; rw [bset_bit]; simp [ha]
  have spk : ∀ b, b < κ 2 → qspk κ b d (s &&& qkind κ kd) = (qspk κ b d s && decide (κ (66 + b) = kd)) := by
    intro b hb
    have hkb : (qkind κ kd).testBit b = decide (κ (66 + b) = kd) := by unfold qkind; rw [bset_bit]; simp [hb]
    unfold qspk
    rw [Nat.testBit_and, hkb]
    cases s.testBit b <;> cases decide (κ (66 + b) = kd) <;> simp
  unfold qcode
  rw [Nat.testBit_and, hk, bset_bit, bset_bit]
  simp only [ha, decide_true, Bool.true_and]
  rw [spk a ha]
  by_cases c : κ (66 + a) = kd
  · have hm : qmany κ (κ (66 + a)) d (s &&& qkind κ kd) = qmany κ (κ (66 + a)) d s := by
      unfold qmany
      apply qsum_congr
      intro b hb
      rw [spk b hb, c]
      by_cases cb : κ (66 + b) = kd
      · simp [cb]
      · simp [cb]
    rw [hm, show decide (κ (66 + a) = kd) = true from decide_eq_true_eq.mpr c]; simp
  · rw [show decide (κ (66 + a) = kd) = false from decide_eq_false_iff_not.mpr c]; simp
/-- the acts of a kind that aren't repealed -/
def qac (κ : Nat → Nat) (kd : Nat) : Nat := qall κ &&& qkind κ kd
theorem qac_lt (ho : qok hb pb κ) (kd : Nat) : qac κ kd < 256 := Nat.and_lt_two_pow _ (n := 8) (qkind_lt ho kd)
theorem qcd_ac (κ : Nat → Nat) (kd wn h : Nat) (wm : Int) : qcode κ wn (qkept ((qdeg κ wn h : Int) + wm)) h (qac κ kd) = qcd κ kd wn h wm := (qcode_kd κ wn _ h (qall κ) kd).symm
theorem qcd_ac0 (κ : Nat → Nat) (kd wn h : Nat) : qcode κ wn (qdeg κ wn h) h (qac κ kd) = qcd κ kd wn h 0 := by
  rw [← qcd_ac, add0, qkept_n (qdeg_le κ wn h)]
theorem live_c {L dl pl ld lp : Nat} (w : CF R S nx) (wL : R 14 0 = some L) (wl : LW R S nx L dl pl ld lp) (h : CK I κ L dl pl ld lp) (ho : qok hb pb κ) (hhb : hb < 2 ^ 29) : Cal l G k 0 0 mX7_liveActs [.ref 14] (I, J, R, S, nx) (fun r μ' => r = .inl (some (.int (nI (qall κ)))) ∧ ∃ I', μ' = (I', J, R, S, nx) ∧ I' = I) := by
  have h2 := ho.2.1
  have h53 : κ 53 < 256 := ho.2.2.2.2.2.2.2.2.2.1
  refine Cal.of rfl (by decide +kernel) (by simp) (Nat.le_of_ble_eq_true rfl) rfl (sX7_liveActs_0 w wL wl ?_)
  refine ⟨?_, _, rfl, rfl⟩
  rw [h.2.1.1.2.2.1, h.1.h.2.2, live_n (κ 2) (by omega) (κ 53) h53]; rfl
theorem actsOf_c {kd : Nat} {L dl pl ld lp : Nat} (w : CF R S nx) (wL : R 14 0 = some L) (wl : LW R S nx L dl pl ld lp) (h : CK I κ L dl pl ld lp) (ho : qok hb pb κ) (hhb : hb < 2 ^ 29) (hk : kd < 10) : Cal l G (k + 1) 0 0 mX7_actsOf [.ref 14, .int (nI kd)] (I, J, R, S, nx) (fun r μ' => r = .inl (some (.int (nI (qac κ kd)))) ∧ ∃ I', μ' = (I', J, R, S, nx) ∧ I' = I) := by
  refine Cal.of rfl (by decide +kernel) (by simp) (Nat.le_of_ble_eq_true rfl) rfl (sX7_actsOf_0 (u1 := nI (qall κ)) (P1 := fun I I' => I' = I) w wL wl (live_c w wL wl h ho hhb) ?_ ?_)
  · intro _ _; exact vp_in_nI hk (by decide)
  · intro I1 h1
    subst h1
    exact ⟨by rw [nI_clamp (by omega), h.2.1.2.2.2.1 kd hk, fa_and]; rfl, _, rfl, rfl⟩
theorem codeIn_c {wn hh : Nat} {L dl pl ld lp : Nat} (w : CF R S nx) (wL : R 14 0 = some L) (wl : LW R S nx L dl pl ld lp) (h : CK I κ L dl pl ld lp) (ho : qok hb pb κ) (hhb : hb < 2 ^ 29) (hw : wn < 5) (hh2 : hh < 2 ^ 30) : Cal l G (k + 3) 0 0 mX7_codeIn [.ref 14, .int (nI wn), .int (nI hh)] (I, J, R, S, nx) (fun r μ' => r = .inl (some (.int (nI (qcin κ wn hh)))) ∧ ∃ I', μ' = (I', J, R, S, nx) ∧ Fr [27, 28, 29] I I' ∧ CK I' κ L dl pl ld lp) := by
  have hal := qall_lt ho
  refine Cal.of rfl (by decide +kernel) (by simp) (Nat.le_of_ble_eq_true rfl) rfl (sX7_codeIn_0 (u1 := nI (qdeg κ wn hh)) (u2 := nI (qall κ)) (u3 := nI (qcin κ wn hh)) (P1 := fun I I' => Fr [27, 28] I I' ∧ CK I' κ L dl pl ld lp) (P2 := fun I I' => I' = I) (P3 := fun I I' => Fr [27, 28, 29] I I' ∧ CK I' κ L dl pl ld lp) w (degreeIn_c w wL wl h ho hhb hw hh2) ?_ ?_ ?_)
  · intro I1 h1; exact live_c w wL wl h1.2 ho hhb
  · intro I1 h1 I2 h2; subst h2; exact inForce_c w wL wl h1.2 ho hhb hw hh2 (qdeg_le _ _ _) (by omega)
  · intro I1 h1 I2 h2 I3 h3; subst h2; exact ⟨rfl, _, rfl, h1.1.tr h3.1 (by decide), h3.2⟩
theorem measured_c {ls : Nat} {L dl pl ld lp : Nat} (w : CF R S nx) (wL : R 14 0 = some L) (wl : LW R S nx L dl pl ld lp) (h : CK I κ L dl pl ld lp) (ho : qok hb pb κ) (hhb : hb < 2 ^ 29) : Cal l G k 0 0 mX7_measured [.ref 14, .int (nI ls)] (I, J, R, S, nx) (fun r μ' => r = .inl (some (.int (nI (qms κ ls)))) ∧ ∃ I', μ' = (I', J, R, S, nx) ∧ I' = I) := by
  have h6 := ho.2.2.2.2.2.1
  have e4 : (I L 4 = 0) = (κ 6 = 0) := by rw [h.2.1.1.2.2.2]; exact propext (nI_eq (b := 0) (by omega) (by decide))
  refine Cal.of rfl (by decide +kernel) (by simp) (Nat.le_of_ble_eq_true rfl) rfl (sX7_measured_0 w wL wl ?_ ?_)
  · intro g; rw [e4] at g; exact ⟨by unfold qms; rw [if_neg (by omega)]; rfl, _, rfl, rfl⟩
  · intro g; rw [e4] at g; exact ⟨by unfold qms; rw [if_pos (by omega)], _, rfl, rfl⟩
theorem fineOfDeed_c {kd wn hh ls : Nat} {L dl pl ld lp : Nat} (w : CF R S nx) (wL : R 14 0 = some L) (wl : LW R S nx L dl pl ld lp) (h : CK I κ L dl pl ld lp) (ho : qok hb pb κ) (hhb : hb < 2 ^ 29) (hk : kd < 10) (hw : wn < 5) (hh2 : hh < 2 ^ 29) (hls : 1 ≤ ls ∧ ls ≤ 24) : Cal l G (k + 3) 0 0 mX7_fineOfDeed [.ref 14, .int (nI kd), .int (nI wn), .int (nI hh), .int (nI ls)] (I, J, R, S, nx) (fun r μ' => r = .inl (some (.int (nI (qcost κ kd wn hh ls)))) ∧ ∃ I', μ' = (I', J, R, S, nx) ∧ Fr [27, 28, 29] I I' ∧ CK I' κ L dl pl ld lp) := by
  have hm := qms_le (κ := κ) (ls := ls) hls.1
  have hac := qac_lt ho kd
  refine Cal.of rfl (by decide +kernel) (by simp) (Nat.le_of_ble_eq_true rfl) rfl (sX7_fineOfDeed_0 (u1 := nI (qac κ kd)) (u2 := nI (qms κ ls)) (P1 := fun I I' => I' = I) (P2 := fun I I' => I' = I) w (actsOf_c (k := k + 1) w wL wl h ho hhb hk) ?_ ?_)
  · intro I1 h1; subst h1; exact measured_c w wL wl h ho hhb
  · intro I1 h1 I2 h2
    subst h1; subst h2
    unfold qcost
    obtain ⟨f, hf⟩ : ∃ f, (fun j => qfin κ (qcd κ kd wn (hh + j) 0)) = f := ⟨_, rfl⟩
    have hfi : ∀ j, qfin κ (qcd κ kd wn (hh + j) 0) = f j := fun j => congrFun hf j
    rw [hf]
    refine upto (W := fun i I3 => hX7_fineOfDeed_21 l G k _ (nI wn) (nI hh) (nI (qac κ kd)) (nI (qms κ ls)) (nI (qsum f i)) (nI i) (I3, J, R, S, nx)) (P := fun i I3 => Fr [27, 28, 29] I2 I3 ∧ CK I3 κ L dl pl ld lp) (qms κ ls) ?_ ?_ (i := 0) (Nat.zero_le _) ⟨Fr.rf, h⟩
    · intro I3 ⟨hF, hK⟩
      have c1 : nI (qms κ ls) ≤ nI (qms κ ls) := nI_le (Nat.le_refl _) (by omega)
      refine sX7_fineOfDeed_21 (u1 := 0) (u2 := 0) (u3 := 0) (P1 := fun _ _ => True) (P2 := fun _ _ => True) (P3 := fun _ _ => True) w wL wl ?_ ?_ ?_ ?_ ?_ <;> intros <;> (first | exact absurd (by with_reducible assumption) c1 | exact absurd c1 (by with_reducible assumption) | skip)
      exact ⟨rfl, _, rfl, hF, hK⟩
    · intro i I3 hi ⟨hF, hK⟩ ih
      have c1 : ¬ nI (qms κ ls) ≤ nI i := nI_ge hi (by omega)
      have hcl : qcd κ kd wn (hh + i) 0 < 256 := qcd_lt ho kd wn (hh + i) 0
      refine sX7_fineOfDeed_21 (u1 := nI (qdeg κ wn (hh + i))) (u2 := nI (qcd κ kd wn (hh + i) 0)) (u3 := nI (f i)) (P1 := fun I I' => Fr [27, 28] I I' ∧ CK I' κ L dl pl ld lp) (P2 := fun I I' => Fr [27, 28, 29] I I' ∧ CK I' κ L dl pl ld lp) (P3 := fun I I' => I' = I) w wL wl ?_ ?_ ?_ ?_ ?_ <;> intros <;> (first | exact absurd (by with_reducible assumption) c1 | exact absurd c1 (by with_reducible assumption) | skip)
      · rw [nI_add]; exact degreeIn_c (k := k) w wL wl hK ho hhb hw (by omega)
      · rename_i I4 h4
        rw [nI_add, ← qcd_ac0]
        exact inForce_c w wL wl h4.2 ho hhb hw (by omega) (qdeg_le _ _ _) (by omega)
      · rename_i I4 h4 I5 h5
        rw [← hfi]
        exact finesOf_c wl h5.2.2.1 ho.2.1 (by omega)
      · rename_i I4 h4 I5 h5 I6 h6
        subst h6
        rw [nI_1, nI_add]
        exact ih I6 ⟨(hF.tr h4.1 (r3 := [27, 28, 29]) (by decide)).tr h5.1 (by decide), h5.2⟩
/-- the row now, one number changed -/
theorem CN.up {j v : Nat} (h : CN I κ) (hj : j < 46) : CN (up2 I 25 (3 + j) (nI v)) (qset κ (7 + j) v) := by
  intro i hi
  unfold qset
  by_cases c : i = 3 + j
  · subst c
    rw [if_pos (by unfold prm; rw [if_neg (by omega), if_neg (by omega), if_neg (by omega)]; omega)]
    simp [up2]
  · have : 7 + prm i ≠ 7 + j := by
      unfold prm
      split
      · omega
      · split
        · omega
        · split
          · omega
          · omega
    rw [if_neg this]
    simp only [up2, if_true, if_neg c]; exact h i hi
theorem CN.up0 {t v : Nat} (h : CN I κ) (ht : t < 3) : CN (up2 I 25 t (nI v)) (qset κ (7 + prm t) v) := by
  intro i hi
  unfold qset
  by_cases c : i = t
  · subst c; rw [if_pos rfl]; simp [up2]
  · have : 7 + prm i ≠ 7 + prm t := by
      have h1 : t = 0 ∨ t = 1 ∨ t = 2 := by omega
      unfold prm
      rcases h1 with rfl | rfl | rfl <;> (repeat' split) <;> omega
    rw [if_neg this]
    simp only [up2, if_true, if_neg c]; exact h i hi
theorem CN.cg {κ' : Nat → Nat} (h : CN I κ) (e : ∀ i, 7 ≤ i → i < 56 → κ' i = κ i) : CN I κ' := fun i hi => by
  rw [e _ (by omega) (by unfold prm; (repeat' split) <;> omega)]; exact h i hi
theorem qkind_cg {κ' : Nat → Nat} {kd : Nat} (h2 : κ 2 ≤ 8) (e : ∀ i, (i < 5 ∨ i = 6 ∨ (56 ≤ i ∧ i < 82) ∨ 572 ≤ i) → κ' i = κ i) : qkind κ' kd = qkind κ kd := by
  unfold qkind
  rw [e 2 (by omega)]
  exact bset_congr (fun i hi => by rw [e (66 + i) (by omega)])
theorem CL.cg {L dl pl ld lp : Nat} {κ' : Nat → Nat} (h : CL I κ L dl pl ld lp) (h2 : κ 2 ≤ 8) (e : ∀ i, (i < 5 ∨ i = 6 ∨ (56 ≤ i ∧ i < 82) ∨ 572 ≤ i) → κ' i = κ i) : CL I κ' L dl pl ld lp := by
  obtain ⟨g1, g2, g3, g4, g5, g6⟩ := h
  refine ⟨?_, fun w hw => ?_, fun a ha => ?_, fun k hk => ?_, ?_, ?_⟩
  · rw [e 0 (by omega), e 1 (by omega), e 2 (by omega), e 6 (by omega)]; exact g1
  · rw [e (56 + w) (by omega), e (61 + w) (by omega)]; exact g2 w hw
  · rw [e (66 + a) (by omega), e (74 + a) (by omega)]; exact g3 a ha
  · rw [qkind_cg h2 e]; exact g4 k hk
  · rw [e 3 (by omega)]; exact ⟨g5.1, fun i hi => by rw [e (572 + i) (by omega)]; exact g5.2 i hi⟩
  · rw [e 4 (by omega)]; exact ⟨g6.1, fun i hi => by rw [e (1472 + i) (by omega)]; exact g6.2 i hi⟩
theorem qprv_cg {κ' : Nat → Nat} {a m h w : Nat} (ha : a < 8) (e : ∀ i, (i = 4 ∨ (37 ≤ i ∧ i < 53) ∨ (66 ≤ i ∧ i < 82) ∨ 1472 ≤ i) → κ' i = κ i) : qprv κ' a m h w = qprv κ a m h w := by
  unfold qprv
  have e1 : qaskP κ' a m h w = qaskP κ a m h w := by
    funext j
    unfold qaskP
    rw [e (66 + a) (by omega), e (74 + a) (by omega), e (45 + a) (by omega), e (37 + a) (by omega)]
  rw [e1, e 4 (by omega), qsteps_congr (e 4 (by omega)) (fun i hi => e i (by omega))]
theorem PV.cg {κ' : Nat → Nat} (h : PV I κ) (e : ∀ i, (i = 4 ∨ (37 ≤ i ∧ i < 53) ∨ (66 ≤ i ∧ i < 82) ∨ 1472 ≤ i) → κ' i = κ i) : PV I κ' := fun w h' a h1 h2 h3 => by
  obtain ⟨kn, k1, k2, k3⟩ := h w h' a h1 h2 h3
  exact ⟨kn, k1, k2, fun m hm => ⟨fun g => by rw [qprv_cg h3 e]; exact (k3 m hm).1 g, (k3 m hm).2⟩⟩
/-- a deed of state that leaves acts as they are -/
theorem CK.st {L dl pl ld lp : Nat} {I' : Nat → Nat → Int32} {κ' : Nat → Nat} (h : CK I κ L dl pl ld lp) (wl : LW R S nx L dl pl ld lp) (h2 : κ 2 ≤ 8) (hF : Fr [25] I I') (hN : CN I' κ') (e : ∀ i, (i < 5 ∨ i = 6 ∨ (37 ≤ i ∧ i < 53) ∨ (56 ≤ i ∧ i < 82) ∨ 572 ≤ i) → κ' i = κ i) : CK I' κ' L dl pl ld lp :=
  ⟨hN, (h.2.1.fr wl hF (by decide)).cg h2 (fun i hi => e i (by omega)), (h.2.2.fr hF (by decide)).cg (fun i hi => e i (by omega))⟩
theorem layOn_c {what wn dg hrs : Nat} {L dl pl ld lp : Nat} (w : CF R S nx) (wL : R 14 0 = some L) (wl : LW R S nx L dl pl ld lp) (h : CK I κ L dl pl ld lp) (ho : qok hb pb κ) (hhb : hb < 2 ^ 29) (hw : wn < 5) (hwh : what = 0 ∨ what = 15) (hd : dg < 2 ^ 30) : Cal l G k 0 0 mX7_layOn [.ref 14, .int (nI (3 + what)), .int (nI wn), .int (nI dg), .int (nI hrs)] (I, J, R, S, nx) (fun r μ' => r = .inl none ∧ ∃ I', μ' = (I', J, R, S, nx) ∧ Fr [25] I I' ∧ CK I' (qlay κ (7 + what) wn dg hrs) L dl pl ld lp) := by
  have e0 : nI (3 + what) + nI wn = nI (3 + (what + wn)) := by rw [nI_add]; congr 1; omega
  have e5 : nI (3 + what) + (5 : Int32) + nI wn = nI (3 + (what + 5 + wn)) := by rw [show (5 : Int32) = nI 5 from rfl, nI_add, nI_add]; congr 1; omega
  have e10 : nI (3 + what) + (10 : Int32) + nI wn = nI (3 + (what + 10 + wn)) := by rw [show (10 : Int32) = nI 10 from rfl, nI_add, nI_add]; congr 1; omega
  have k0 := h.1.h.1
  have hb : ∀ q, q < 46 → vp_in (nI (3 + q)) 49 := fun q hq => vp_in_nI (by omega) (by decide)
  have r1 : ∀ v, up2 I 25 (3 + (what + wn)) v 25 0 = nI (κ 54) := fun v => by
    have : 0 ≠ 3 + (what + wn) := by omega
    simp only [up2, if_true, if_neg this]; exact k0
  have r2 : ∀ v u, up2 (up2 I 25 (3 + (what + wn)) v) 25 (3 + (what + 5 + wn)) u 25 0 = nI (κ 54) := fun v u => by
    have n1 : 0 ≠ 3 + (what + wn) := by omega
    have n2 : 0 ≠ 3 + (what + 5 + wn) := by omega
    simp only [up2, if_true, if_neg n1, if_neg n2]; exact k0
  have fin : ∀ v : Nat, v = (if dg = 0 then κ 54 else κ 54 + hrs) → ((Sum.inl none : Res) = .inl none ∧ ∃ I', ((up2 (up2 (up2 I 25 (3 + (what + wn)) (nI dg)) 25 (3 + (what + 5 + wn)) (nI (κ 54))) 25 (3 + (what + 10 + wn)) (nI v), J, R, S, nx) : Mem) = (I', J, R, S, nx) ∧ Fr [25] I I' ∧ CK I' (qlay κ (7 + what) wn dg hrs) L dl pl ld lp) := by
    intro v hv
    have hF : Fr [25] I (up2 (up2 (up2 I 25 (3 + (what + wn)) (nI dg)) 25 (3 + (what + 5 + wn)) (nI (κ 54))) 25 (3 + (what + 10 + wn)) (nI v)) := ((Fr.rf.up (by decide)).up (by decide)).up (by decide)
    have hN := ((h.1.up (j := what + wn) (v := dg) (by omega)).up (j := what + 5 + wn) (v := κ 54) (by omega)).up (j := what + 10 + wn) (v := v) (by omega)
    refine ⟨rfl, _, rfl, hF, h.st wl ho.2.1 hF ?_ (fun i hi => ?_)⟩
    · refine hN.cg (fun i _ _ => ?_)
      unfold qlay
      rw [hv, show 7 + (what + wn) = 7 + what + wn by omega, show 7 + (what + 5 + wn) = 7 + what + 5 + wn by omega, show 7 + (what + 10 + wn) = 7 + what + 10 + wn by omega]
    · unfold qlay
      rw [qset_ne (by omega), qset_ne (by omega), qset_ne (by omega)]
  by_cases c : dg = 0
  · have d1 : nI dg = 0 := by rw [c]; rfl
    refine Cal.of rfl (by decide +kernel) (by simp) (Nat.le_of_ble_eq_true rfl) rfl (sX7_layOn_0 w (by rw [e0]; exact hb _ (by omega)) (by rw [e5]; exact hb _ (by omega)) ?_ ?_ ?_ ?_) <;> intros <;> (first | exact absurd (by with_reducible assumption) d1 | exact absurd d1 (by with_reducible assumption) | skip)
    · rw [e10]; exact hb _ (by omega)
    · rw [e0, e5, e10, nI_clamp (by omega), nI_clamp (by omega), nI_clamp (by omega), r1, r2]
      exact fin (κ 54) (by rw [if_pos c])
  · have d1 : ¬ nI dg = 0 := nI_ne0 (by omega) (by omega)
    refine Cal.of rfl (by decide +kernel) (by simp) (Nat.le_of_ble_eq_true rfl) rfl (sX7_layOn_0 w (by rw [e0]; exact hb _ (by omega)) (by rw [e5]; exact hb _ (by omega)) ?_ ?_ ?_ ?_) <;> intros <;> (first | exact absurd (by with_reducible assumption) d1 | exact absurd d1 (by with_reducible assumption) | skip)
    · rw [e10]; exact hb _ (by omega)
    · rw [e0, e5, e10, nI_clamp (by omega), nI_clamp (by omega), nI_clamp (by omega), r1, r2, nI_add]
      exact fin (κ 54 + hrs) (by rw [if_neg c])
theorem doDeed_c {kd wn ls : Nat} {L dl pl ld lp : Nat} (w : CF R S nx) (wL : R 14 0 = some L) (wl : LW R S nx L dl pl ld lp) (h : CK I κ L dl pl ld lp) (ho : qok hb pb κ) (hhb : hb < 2 ^ 29) (hk : kd < 10) (hw : wn < 5) (hls : 1 ≤ ls ∧ ls ≤ 24) : Cal l G (k + 4) 0 0 mX7_doDeed [.ref 14, .int (nI kd), .int (nI wn), .int (nI ls)] (I, J, R, S, nx) (fun r μ' => r = .inl (some (.int (nI (qcost κ kd wn (κ 54) ls)))) ∧ ∃ I', μ' = (I', J, R, S, nx) ∧ Fr [25, 27, 28, 29] I I' ∧ CK I' (qdeed κ kd wn ls) L dl pl ld lp) := by
  have h54 : κ 54 ≤ hb := ho.2.2.2.2.2.2.2.2.2.2.1
  refine Cal.of rfl (by decide +kernel) (by simp) (Nat.le_of_ble_eq_true rfl) rfl (sX7_doDeed_0 (u1 := nI (qcost κ kd wn (κ 54) ls)) (P1 := fun I I' => Fr [27, 28, 29] I I' ∧ CK I' κ L dl pl ld lp) w ?_ (fun I1 h1 => ?_))
  · rw [h.1.h.1]; exact fineOfDeed_c w wL wl h ho hhb hk hw (by omega) hls
  · obtain ⟨q0, q1, q2⟩ := h1.2.1.h
    rw [q0, q1, nI_add, nI_add]
    have hF : Fr [25] I1 (up2 (up2 I1 25 1 (nI (κ 55 + qcost κ kd wn (κ 54) ls))) 25 0 (nI (κ 54 + ls))) := (Fr.rf.up (by decide)).up (by decide)
    have hN := (h1.2.1.up0 (t := 1) (v := κ 55 + qcost κ kd wn (κ 54) ls) (by decide)).up0 (t := 0) (v := κ 54 + ls) (by decide)
    have e0 : 7 + prm 0 = 54 := by decide
    have e1 : 7 + prm 1 = 55 := by decide
    rw [e0, e1] at hN
    refine ⟨rfl, _, rfl, h1.1.tr hF (by decide), h1.2.st wl ho.2.1 hF (hN.cg (fun i _ _ => ?_)) (fun i hi => ?_)⟩
    · unfold qdeed qset
      by_cases c1 : i = 54
      · subst c1; simp
      · by_cases c2 : i = 55
        · subst c2; simp
        · simp [c1, c2]
    · unfold qdeed; rw [qset_ne (by omega), qset_ne (by omega)]
end A
