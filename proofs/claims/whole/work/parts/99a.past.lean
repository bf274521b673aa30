/-! the class: what is kept, to be undone -/
/-- the rows that are kept, the eldest first -/
def PS (I : Nat → Nat → Int32) (p rw : Nat) (κ : Nat → Nat) : Prop := ∃ s, s < 10 ∧ I p 1 = nI s ∧ I p 2 = nI (κ 5) ∧ ∀ j, j < κ 5 → ∀ i, i < 49 → I rw (49 * ((s + 10 - κ 5 + j) % 10) + i) = nI (κ (82 + 49 * j + prm i))
theorem prm_lt : ∀ i, i < 49 → prm i < 49 := by decide
theorem qkeep_row {κ : Nat → Nat} {j p : Nat} (h5 : κ 5 ≤ 10) (hp : p < 49) (hj : j < qkeep κ 5) : qkeep κ (82 + 49 * j + p) = if j = (if κ 5 = 10 then 9 else κ 5) then κ (7 + p) else if κ 5 = 10 then κ (82 + 49 * (j + 1) + p) else κ (82 + 49 * j + p) := by
  rw [qkeep_5] at hj
  unfold qkeep
  rw [if_neg (by omega)]
  by_cases c : κ 5 = 10
  · simp only [if_pos c] at hj ⊢
    by_cases cj : j = 9
    · rw [if_pos (by omega), if_pos cj, show 82 + 49 * j + p - (82 + 49 * 9) = p by omega]
    · rw [if_neg (by omega), if_neg cj, if_pos (by omega), show 82 + 49 * j + p + 49 = 82 + 49 * (j + 1) + p by omega]
  · simp only [if_neg c] at hj ⊢
    by_cases cj : j = κ 5
    · rw [if_pos (by omega), if_pos cj, show 82 + 49 * j + p - (82 + 49 * κ 5) = p by omega]
    · rw [if_neg (by omega), if_neg cj, if_neg (by omega)]
section A
variable {l : Launch} {G : Gh} {k : Nat} {I : Nat → Nat → Int32} {J : Nat → Nat → Int64} {R : Nat → Nat → Option Nat} {S : Nat → Nat × Nat} {nx : Nat} {κ : Nat → Nat} {hb pb : Nat}
theorem PS.fr {p rw : Nat} {rs : List Nat} {I' : Nat → Nat → Int32} (h : PS I p rw κ) (hF : Fr rs I I') (h1 : p ∉ rs) (h2 : rw ∉ rs) : PS I' p rw κ := by
  obtain ⟨s, q1, q2, q3, q4⟩ := h
  refine ⟨s, q1, ?_, ?_, ?_⟩
  · rw [hF p h1]; exact q2
  · rw [hF p h1]; exact q3
  · rw [hF rw h2]; exact q4
theorem PS.cg {p rw : Nat} {κ' : Nat → Nat} (h : PS I p rw κ) (h5 : κ 5 ≤ 10) (e : ∀ i, (i = 5 ∨ (82 ≤ i ∧ i < 572)) → κ' i = κ i) : PS I p rw κ' := by
  obtain ⟨s, q1, q2, q3, q4⟩ := h
  refine ⟨s, q1, q2, by rw [e 5 (Or.inl rfl)]; exact q3, fun j hj i hi => ?_⟩
  rw [e 5 (Or.inl rfl)] at hj ⊢
  have := prm_lt i hi
  rw [e (82 + 49 * j + prm i) (by omega)]; exact q4 j hj i hi
theorem upC_in {f : Nat → Nat → Int32} {a0 a sp dp n j : Nat} (h : dp ≤ j ∧ j < dp + n) : upC f a0 a sp dp n a j = f a0 (sp + (j - dp)) := by unfold upC; rw [if_pos ⟨rfl, h⟩]
theorem upC_out {f : Nat → Nat → Int32} {a0 a sp dp n j : Nat} (h : ¬ (dp ≤ j ∧ j < dp + n)) : upC f a0 a sp dp n a j = f a j := by unfold upC; rw [if_neg (fun g => h g.2)]
theorem keep_c (w : CF R S nx) (hN : CN I κ) (hP : PS I 30 31 κ) (h5 : κ 5 ≤ 10) : Cal l G k 0 0 mX5_keep [.ref 30, .ref 25] (I, J, R, S, nx) (fun r μ' => r = .inl none ∧ ∃ I', μ' = (I', J, R, S, nx) ∧ Fr [30, 31] I I' ∧ PS I' 30 31 (qkeep κ)) := by
  obtain ⟨s, q1, q2, q3, q4⟩ := hP
  have e1 : I 30 1 * (49 : Int32) = nI (s * 49) := by rw [q2, show (49 : Int32) = nI 49 from rfl, pk_mul]
  have hc : (I 30 1 * (49 : Int32)).toNatClampNeg = s * 49 := by rw [e1, nI_clamp (by omega)]
  refine Cal.of rfl (by decide +kernel) (by simp) (Nat.le_of_ble_eq_true rfl) rfl (sX5_keep_0 (cf_a w (q := (25, 100, 49)) (by decide)) (cf_n w (by decide)) w ?_ ?_)
  · rw [hc, e1]
    exact ⟨⟨by decide, nI_nneg (by omega), by decide⟩, by decide, by show s * 49 + 49 ≤ 490; omega⟩
  · rw [hc]
    have eU : upC I 25 31 0 (s * 49) 49 30 = I 30 := upC_ne (by decide)
    have hF : ∀ v1 v2 : Int32, Fr [30, 31] I (up2 (up2 (upC I 25 31 0 (s * 49) 49) 30 1 v1) 30 2 v2) := fun v1 v2 a ha => by
      rw [up2_o (by simp at ha; omega), up2_o (by simp at ha; omega), upC_ne (by simp at ha; omega)]
    refine ⟨rfl, _, rfl, hF _ _, (s + 1) % 10, by omega, ?_, ?_, fun j hj i hi => ?_⟩
    · rw [up2_s, if_neg (by decide), up2_s, if_pos rfl, eU, q2, nI_1]
      exact pk_rem (d := 10) (by omega) (by decide) (by decide)
    · rw [up2_s, if_pos rfl, eU, q3, nI_1, qkeep_5]
      by_cases c : κ 5 = 10
      · rw [if_pos c, if_neg (by rw [c]; decide)]; rfl
      · rw [if_neg c]
        by_cases c9 : κ 5 = 9
        · rw [c9]; rfl
        · rw [if_pos (show nI (κ 5 + 1) < (10 : Int32) from nI_lt (b := 10) (by omega) (by decide))]
    · have hp := prm_lt i hi
      rw [up2_o (by decide), up2_o (by decide), qkeep_row h5 hp hj]
      rw [qkeep_5] at hj ⊢
      by_cases c : κ 5 = 10
      · simp only [if_pos c] at hj ⊢
        by_cases cj : j = 9
        · rw [if_pos cj, upC_in (by omega), show 0 + (49 * (((s + 1) % 10 + 10 - 10 + j) % 10) + i - s * 49) = i by omega]; exact hN i hi
        · rw [if_neg cj, upC_out (by omega)]
          have := q4 (j + 1) (by omega) i hi
          rw [show (s + 10 - κ 5 + (j + 1)) % 10 = ((s + 1) % 10 + 10 - 10 + j) % 10 by omega] at this
          exact this
      · simp only [if_neg c] at hj ⊢
        by_cases cj : j = κ 5
        · rw [if_pos cj, upC_in (by omega), show 0 + (49 * (((s + 1) % 10 + 10 - (κ 5 + 1) + j) % 10) + i - s * 49) = i by omega]; exact hN i hi
        · rw [if_neg cj, upC_out (by omega)]
          have := q4 j (by omega) i hi
          rw [show (s + 10 - κ 5 + j) % 10 = ((s + 1) % 10 + 10 - (κ 5 + 1) + j) % 10 by omega] at this
          exact this
theorem goBack_c {n : Nat} (w : CF R S nx) (hP : PS I 30 31 κ) (h5 : κ 5 ≤ 10) (hn : 1 ≤ n ∧ n ≤ κ 5) : Cal l G k 0 0 mX5_goBack [.ref 30, .int (nI n), .ref 25] (I, J, R, S, nx) (fun r μ' => r = .inl none ∧ ∃ I', μ' = (I', J, R, S, nx) ∧ Fr [25, 30] I I' ∧ PS I' 30 31 (qundo κ n) ∧ CN I' (qundo κ n)) := by
  obtain ⟨s, q1, q2, q3, q4⟩ := hP
  have e0 : (I 30 1 + (10 : Int32)) - nI n = nI (s + 10 - n) := by rw [q2, show (10 : Int32) = nI 10 from rfl, nI_add, pk_sub (by omega)]
  have e1 : ((I 30 1 + (10 : Int32)) - nI n) - ((I 30 1 + (10 : Int32)) - nI n) / (10 : Int32) * (10 : Int32) = nI ((s + 10 - n) % 10) := by rw [e0]; exact pk_rem (d := 10) (by omega) (by decide) (by decide)
  have e2 : nI ((s + 10 - n) % 10) * (49 : Int32) = nI ((s + 10 - n) % 10 * 49) := by rw [show (49 : Int32) = nI 49 from rfl, pk_mul]
  have hc : (nI ((s + 10 - n) % 10) * (49 : Int32)).toNatClampNeg = (s + 10 - n) % 10 * 49 := by rw [e2, nI_clamp (by omega)]
  have hu5 : qundo κ n 5 = κ 5 - n := if_pos rfl
  refine Cal.of rfl (by decide +kernel) (by simp) (Nat.le_of_ble_eq_true rfl) rfl (sX5_goBack_0 (cf_a w (q := (25, 100, 49)) (by decide)) (cf_n w (by decide)) w ?_ ?_)
  · rw [e1, hc, e2]
    exact ⟨⟨nI_nneg (by omega), by decide, by decide⟩, by show (s + 10 - n) % 10 * 49 + 49 ≤ 490; omega, by decide⟩
  · rw [e1, hc, q3, pk_sub (show n ≤ κ 5 by omega)]
    have hF : ∀ v1 v2 : Int32, Fr [25, 30] I (upC (up2 (up2 I 30 1 v1) 30 2 v2) 31 25 ((s + 10 - n) % 10 * 49) 0 49) := fun v1 v2 a ha => by
      rw [upC_ne (by simp at ha; omega), up2_o (by simp at ha; omega), up2_o (by simp at ha; omega)]
    refine ⟨rfl, _, rfl, hF _ _, ⟨(s + 10 - n) % 10, by omega, ?_, ?_, fun j hj i hi => ?_⟩, fun i hi => ?_⟩
    · rw [upC_ne (by decide), up2_s, if_neg (by decide), up2_s, if_pos rfl]
    · rw [upC_ne (by decide), up2_s, if_pos rfl, hu5]
    · rw [hu5] at hj ⊢
      have hp := prm_lt i hi
      rw [upC_ne (by decide), up2_o (by decide), up2_o (by decide)]
      have := q4 j (by omega) i hi
      rw [show (s + 10 - κ 5 + j) % 10 = ((s + 10 - n) % 10 + 10 - (κ 5 - n) + j) % 10 by omega] at this
      rw [this]
      unfold qundo; rw [if_neg (by omega), if_neg (by omega)]
    · have hp := prm_lt i hi
      rw [upC_in (by omega), up2_o (by decide), up2_o (by decide)]
      have := q4 (κ 5 - n) (by omega) i hi
      rw [show 49 * ((s + 10 - κ 5 + (κ 5 - n)) % 10) + i = (s + 10 - n) % 10 * 49 + (i - 0) by omega] at this
      rw [this]
      unfold qundo; rw [if_neg (by omega), if_pos (by omega)]; congr 2; omega
theorem become_c {p rw p' rw' : Nat} (w : CF R S nx) (hp : p < nx ∧ (S p).1 = 5 ∧ R p 0 = some rw ∧ S rw = (100, 490) ∧ rw < nx) (hp' : p' < nx ∧ (S p').1 = 5 ∧ R p' 0 = some rw' ∧ S rw' = (100, 490) ∧ rw' < nx) (hne : p ≠ rw ∧ p ≠ p' ∧ p ≠ rw' ∧ rw ≠ p' ∧ rw ≠ rw') (hP : PS I p' rw' κ) : Cal l G k 0 0 mX5_become [.ref p, .ref p'] (I, J, R, S, nx) (fun r μ' => r = .inl none ∧ ∃ I', μ' = (I', J, R, S, nx) ∧ Fr [p, rw] I I' ∧ PS I' p rw κ) := by
  obtain ⟨s, q1, q2, q3, q4⟩ := hP
  obtain ⟨n1, n2, n3, n4, n5⟩ := hne
  refine Cal.of rfl (by decide +kernel) (by simp) (Nat.le_of_ble_eq_true rfl) rfl (sX5_become_0 (x0_rows := rw) (x1_rows := rw') (n_x0_rows := 490) (n_x1_rows := 490) hp.2.2.2.1 hp'.2.2.2.1 hp.2.2.2.2 hp'.2.2.2.2 hp.1 hp'.1 hp.2.2.1 hp'.2.2.1 hp.2.1 hp'.2.1 (by decide) ?_)
  have ec : (Int32.ofNat 490).toNatClampNeg = 490 := by decide
  rw [ec]
  have hF : ∀ v1 v2 : Int32, Fr [p, rw] I (up2 (up2 (upC I rw' rw 0 0 490) p 1 v1) p 2 v2) := fun v1 v2 a ha => by
    rw [up2_o (by simp at ha; omega), up2_o (by simp at ha; omega), upC_ne (by simp at ha; omega)]
  refine ⟨rfl, _, rfl, hF _ _, s, q1, ?_, ?_, fun j hj i hi => ?_⟩
  · rw [up2_s, if_neg (by decide), up2_s, if_pos rfl, upC_ne (by omega)]; exact q2
  · rw [up2_s, if_pos rfl, up2_o (by omega), upC_ne (by omega)]; exact q3
  · rw [up2_o (by omega), up2_o (by omega), upC_in (by omega), show 0 + (49 * ((s + 10 - κ 5 + j) % 10) + i - 0) = 49 * ((s + 10 - κ 5 + j) % 10) + i by omega]
    exact q4 j hj i hi
end A
