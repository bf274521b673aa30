/-! the class: acts read -/
theorem up2_o {I : Nat → Nat → Int32} {a b i : Nat} {v : Int32} (h : b ≠ a) : up2 I a i v b = I b := by funext j; unfold up2; rw [if_neg h]
theorem up2_s {I : Nat → Nat → Int32} {a i j : Nat} {v : Int32} : up2 I a i v a j = if j = i then v else I a j := by unfold up2; rw [if_pos rfl]
theorem yact_ch {t : Nat → Nat} {n a : Nat} {s : Tok} {f : Nat → Nat} {v2 v4 v6 v8 : Nat × Zt} {Y : Er ⊕ Ln} (h8 : f 2 = a) (hne : a ≠ 8) (e2 : znu t n 0 10 (zad t n (none, s)) = v2) (e4 : znu t n 0 100 (zmu t n 308 v2.2) = v4) (e6 : znu t n v4.1 100 (zmu t n 309 v4.2) = v6) (e8 : znu t n 0 100 (zmu t n 310 v6.2) = v8) (hY : yact t n (s, f) = Y) :
    zr v8.2 = lt1 Y ∧ ∀ s', Y = .inr s' → s'.2 = yta f a v2.1 v4.1 v6.1 v8.1 ∧ v2.1 < 10 ∧ v4.1 < 100 ∧ v6.1 < 100 ∧ v8.1 < 100 := by
  unfold yact at hY
  rw [show (s, f).2 2 = a from h8, if_neg hne] at hY
  have n2 := zr_nu (t := t) (n := n) (lo := 0) (hi := 10) (z := zad t n (none, s))
  rw [e2] at n2
  have n21 : zr v2.2 = xb (ynum t n 0 10 (ynx t n s.1)) (fun v => .inr v.2) := n2.1
  have n4 := zr_nu (t := t) (n := n) (lo := 0) (hi := 100) (z := zmu t n 308 v2.2)
  rw [e4] at n4
  have n6 := zr_nu (t := t) (n := n) (lo := v4.1) (hi := 100) (z := zmu t n 309 v4.2)
  rw [e6] at n6
  have n8 := zr_nu (t := t) (n := n) (lo := 0) (hi := 100) (z := zmu t n 310 v6.2)
  rw [e8] at n8
  have b8 : ∀ e, zr v6.2 = .inl e → zr v8.2 = .inl e := fun e h => by rw [← e8]; exact zr_bn (zr_bm h)
  have b6 : ∀ e, zr v4.2 = .inl e → zr v8.2 = .inl e := fun e h => b8 e (by rw [← e6]; exact zr_bn (zr_bm h))
  have b4 : ∀ e, zr v2.2 = .inl e → zr v8.2 = .inl e := fun e h => b6 e (by rw [← e4]; exact zr_bn (zr_bm h))
  have bad : ∀ e, Y = .inl e → zr v8.2 = .inl e → zr v8.2 = lt1 Y ∧ ∀ s', Y = .inr s' → s'.2 = yta f a v2.1 v4.1 v6.1 v8.1 ∧ v2.1 < 10 ∧ v4.1 < 100 ∧ v6.1 < 100 ∧ v8.1 < 100 := fun e h1 h2 => ⟨by rw [h1, h2]; rfl, fun s' hs => by rw [h1] at hs; cases hs⟩
  cases q1 : ynum t n 0 10 (ynx t n s.1) with
  | inl e => rw [q1] at n21 hY; exact bad e hY.symm (b4 e n21)
  | inr r1 =>
    rw [q1] at n21 hY
    have m2 : v2.1 = r1.1 := n2.2 r1 q1
    have n21' : zr v2.2 = .inr r1.2 := n21
    have z3 : zr (zmu t n 308 v2.2) = ymust t n 308 r1.2 := by rw [zr_mu, n21']; rfl
    have hY1 : xb (ymust t n 308 r1.2) _ = Y := hY
    cases q2 : ymust t n 308 r1.2 with
    | inl e =>
      rw [q2] at z3 hY1
      exact bad e hY1.symm (b6 e (by rw [← e4]; exact zr_bn z3))
    | inr s2 =>
      rw [q2] at z3 hY1
      rw [z3] at n4
      have n41 : zr v4.2 = xb (ynum t n 0 100 s2) (fun v => .inr v.2) := n4.1
      have hY2 : xb (ynum t n 0 100 s2) _ = Y := hY1
      cases q3 : ynum t n 0 100 s2 with
      | inl e => rw [q3] at n41 hY2; exact bad e hY2.symm (b6 e n41)
      | inr r3 =>
        rw [q3] at n41 hY2
        have m4 : v4.1 = r3.1 := n4.2 r3 q3
        have n41' : zr v4.2 = .inr r3.2 := n41
        have z5 : zr (zmu t n 309 v4.2) = ymust t n 309 r3.2 := by rw [zr_mu, n41']; rfl
        have hY3 : xb (ymust t n 309 r3.2) _ = Y := hY2
        cases q4 : ymust t n 309 r3.2 with
        | inl e =>
          rw [q4] at z5 hY3
          exact bad e hY3.symm (b8 e (by rw [← e6]; exact zr_bn z5))
        | inr s4 =>
          rw [q4] at z5 hY3
          rw [z5, m4] at n6
          have n61 : zr v6.2 = xb (ynum t n r3.1 100 s4) (fun v => .inr v.2) := n6.1
          have hY4 : xb (ynum t n r3.1 100 s4) _ = Y := hY3
          cases q5 : ynum t n r3.1 100 s4 with
          | inl e => rw [q5] at n61 hY4; exact bad e hY4.symm (b8 e n61)
          | inr r5 =>
            rw [q5] at n61 hY4
            have m6 : v6.1 = r5.1 := n6.2 r5 q5
            have n61' : zr v6.2 = .inr r5.2 := n61
            have z7 : zr (zmu t n 310 v6.2) = ymust t n 310 r5.2 := by rw [zr_mu, n61']; rfl
            have hY5 : xb (ymust t n 310 r5.2) _ = Y := hY4
            cases q6 : ymust t n 310 r5.2 with
            | inl e =>
              rw [q6] at z7 hY5
              exact bad e hY5.symm (by rw [← e8]; exact zr_bn z7)
            | inr s6 =>
              rw [q6] at z7 hY5
              rw [z7] at n8
              have n81 : zr v8.2 = xb (ynum t n 0 100 s6) (fun v => .inr v.2) := n8.1
              have hY6 : xb (ynum t n 0 100 s6) _ = Y := hY5
              cases q7 : ynum t n 0 100 s6 with
              | inl e => rw [q7] at n81 hY6; exact bad e hY6.symm n81
              | inr r7 =>
                rw [q7] at n81 hY6
                have m8 : v8.1 = r7.1 := n8.2 r7 q7
                refine ⟨by rw [n81, ← hY6]; rfl, fun s' hs => ?_⟩
                rw [← hY6] at hs
                rw [← Sum.inr.inj hs, m2, m4, m6, m8]
                exact ⟨by rw [← h8], (ynum_lt q1).2.1, (ynum_lt q3).2.1, (ynum_lt q5).2.1, (ynum_lt q7).2.1⟩
section A
variable {l : Launch} {G : Gh} {k : Nat} {I : Nat → Nat → Int32} {J : Nat → Nat → Int64} {R : Nat → Nat → Option Nat} {S : Nat → Nat × Nat} {nx : Nat} {κ : Nat → Nat} {hb pb : Nat}
variable {t : Nat → Nat} {n F : Nat} {z : Zt} {L dl pl ld lp : Nat} {f : Nat → Nat}
theorem readAct_c {s : Tok} (w : CF R S nx) (wR : R 1 7 = some L) (wl : LW R S nx L dl pl ld lp) (hp : LPl L dl pl) (hG : GT G) (h : CX I t n (none, s)) (hl : LL I f L dl pl ld lp) (h2 : f 2 ≤ 8) : Cal l G (k + 8) 0 0 mX6_readAct [.ref 1] (I, J, R, S, nx) (fun r μ' => r = .inl none ∧ ∃ I', μ' = (I', J, R, S, nx) ∧ FW L I I' ∧ ∃ z', CX I' t n z' ∧ zr z' = lt1 (yact t n (s, f)) ∧ ∀ s', yact t n (s, f) = .inr s' → LL I' s'.2 L dl pl ld lp) := by
  obtain ⟨p1, p2, p3⟩ := hp
  obtain ⟨a, ha⟩ : ∃ a, f 2 = a := ⟨_, rfl⟩
  have e1 : I L 2 = nI a := by rw [← ha]; exact hl.1.2.2.1
  have ha8 : a ≤ 8 := by omega
  have elt : (I L 2 < (8 : Int32)) = (a < 8) := by rw [e1]; exact propext (nI_ltI (b := 8) (by omega) (by decide))
  obtain ⟨Y, hY⟩ : ∃ Y, yact t n (s, f) = Y := ⟨_, rfl⟩
  rw [hY]
  by_cases c8 : a = 8
  · have d1 : ¬ I L 2 < (8 : Int32) := by rw [elt]; omega
    have hYe : Y = .inl (4, s.2.1) := by rw [← hY]; unfold yact; rw [show (s, f).2 2 = a from ha, if_pos c8]
    have hf := fail_z (kd := 4) h (by decide)
    refine Cal.of rfl (by decide +kernel) (by simp) (Nat.le_of_ble_eq_true rfl) rfl (sX6_readAct_0 (u2 := 0) (u4 := 0) (u6 := 0) (u8 := 0) (P1 := fun _ _ => True) (P2 := fun _ _ => True) (P3 := fun _ _ => True) (P4 := fun _ _ => True) (P5 := fun _ _ => True) (P6 := fun _ _ => True) (P7 := fun _ _ => True) (P8 := fun _ _ => True) w wR wl ?_ ?_ ?_ ?_ ?_ ?_ ?_ ?_ ?_ ?_ ?_ ?_ ?_ ?_ ?_ ?_ ?_ ?_) <;> intros <;> (first | exact absurd (by with_reducible assumption) d1 | exact absurd d1 (by with_reducible assumption) | skip)
    refine ⟨rfl, _, rfl, hf.1.wk (by simp) (by decide), _, hf.2, by rw [hYe]; rfl, fun s' hs => by rw [hYe] at hs; cases hs⟩
  · have h8 : a < 8 := by omega
    have d1 : I L 2 < (8 : Int32) := by rw [elt]; exact h8
    obtain ⟨z1, hz1⟩ : ∃ z1, zad t n (none, s) = z1 := ⟨_, rfl⟩
    obtain ⟨v2, hv2⟩ : ∃ v2, znu t n 0 10 z1 = v2 := ⟨_, rfl⟩
    obtain ⟨z3, hz3⟩ : ∃ z3, zmu t n 308 v2.2 = z3 := ⟨_, rfl⟩
    obtain ⟨v4, hv4⟩ : ∃ v4, znu t n 0 100 z3 = v4 := ⟨_, rfl⟩
    obtain ⟨z5, hz5⟩ : ∃ z5, zmu t n 309 v4.2 = z5 := ⟨_, rfl⟩
    obtain ⟨v6, hv6⟩ : ∃ v6, znu t n v4.1 100 z5 = v6 := ⟨_, rfl⟩
    obtain ⟨z7, hz7⟩ : ∃ z7, zmu t n 310 v6.2 = z7 := ⟨_, rfl⟩
    obtain ⟨v8, hv8⟩ : ∃ v8, znu t n 0 100 z7 = v8 := ⟨_, rfl⟩
    have ych := yact_ch (v2 := v2) (v4 := v4) (v6 := v6) (v8 := v8) ha c8 (by rw [hz1]; exact hv2) (by rw [hz3]; exact hv4) (by rw [hz5]; exact hv6) (by rw [hz7]; exact hv8) hY
    have hv4l : v4.1 < 100 := by have := znu_le (t := t) (n := n) (lo := 0) (hi := 100) (z := z3); rw [hv4] at this; omega
    have hv2l : v2.1 < 10 := by have := znu_le (t := t) (n := n) (lo := 0) (hi := 10) (z := z1); rw [hv2] at this; omega
    have hb8 : vp_in (I L 2) 8 := by rw [e1]; exact vp_in_nI h8 (by decide)
    have hA1 := adv_z (l := l) (k := k + 1) (J := J) w hG h
    rw [hz1] at hA1
    have tn : ∀ (I1 : Nat → Nat → Int32) (zz : Zt) (lo hi : Nat) (y : Int32) (vv : Nat × Zt), CX I1 t n zz → lo < 1000 → hi ≤ 1000 → y.toInt = (hi : Int) - 1 → znu t n lo hi zz = vv → Cal l G (k + 7) 0 0 mX6_takeNumber [.ref 1, .int (nI lo), .int y] (I1, J, R, S, nx) (fun r μ' => r = .inl (some (.int (nI vv.1))) ∧ ∃ I', μ' = (I', J, R, S, nx) ∧ F1 [] [3, 4, 5, 6, 11, 12] I1 I' ∧ CX I' t n vv.2) := by
      intro I1 zz lo hi y vv g1 g2 g3 g4 g5
      have := takeNumber_z (l := l) (k := k) (J := J) w hG g1 g2 g3 g4
      rw [g5] at this
      exact this
    have tk : ∀ (I1 : Nat → Nat → Int32) (zz z' : Zt) (c : Nat), CX I1 t n zz → c < 1000 → zmu t n c zz = z' → Cal l G (k + 7) 0 0 mX6_take [.ref 1, .int (nI c)] (I1, J, R, S, nx) (fun r μ' => r = .inl none ∧ ∃ I', μ' = (I', J, R, S, nx) ∧ F1 [] [3, 4, 5, 6, 11, 12] I1 I' ∧ CX I' t n z') := by
      intro I1 zz z' c g1 g2 g3
      have := take_z (l := l) (k := k) (J := J) w hG g1 g2
      rw [g3] at this
      exact this
    have up : ∀ (I1 : Nat → Nat → Int32) (b : Nat) (v : Int32) (zz : Zt), b = L + 3 ∨ b = L + 4 ∨ b = L + 5 ∨ b = L + 6 ∨ b = L + 7 ∨ b = L → ∀ i, CX I1 t n zz → CX (up2 I1 b i v) t n zz := fun I1 b v zz hb i g => g.f1 (rs := [b]) (fs := []) (F1.rf.up (by simp) (by omega)) (by simp; omega) (by simp)
    refine Cal.of rfl (by decide +kernel) (by simp) (Nat.le_of_ble_eq_true rfl) rfl (sX6_readAct_0 (u2 := nI v2.1) (u4 := nI v4.1) (u6 := nI v6.1) (u8 := nI v8.1) (P1 := fun I I' => F1 [] [3, 4, 5, 6] I I' ∧ CX I' t n z1) (P2 := fun I I' => F1 [] [3, 4, 5, 6, 11, 12] I I' ∧ CX I' t n v2.2) (P3 := fun I I' => F1 [] [3, 4, 5, 6, 11, 12] I I' ∧ CX I' t n z3) (P4 := fun I I' => F1 [] [3, 4, 5, 6, 11, 12] I I' ∧ CX I' t n v4.2) (P5 := fun I I' => F1 [] [3, 4, 5, 6, 11, 12] I I' ∧ CX I' t n z5) (P6 := fun I I' => F1 [] [3, 4, 5, 6, 11, 12] I I' ∧ CX I' t n v6.2) (P7 := fun I I' => F1 [] [3, 4, 5, 6, 11, 12] I I' ∧ CX I' t n z7) (P8 := fun I I' => F1 [] [3, 4, 5, 6, 11, 12] I I' ∧ CX I' t n v8.2) w wR wl
      (fun _ => hA1) (fun _ I1 h1 => tn I1 z1 0 10 9 v2 h1.2 (by decide) (by decide) (by decide) hv2) (fun _ I1 h1 I2 h2 => tk I2 v2.2 z3 308 h2.2 (by decide) hz3) (fun _ I1 h1 I2 h2 I3 h3 => tn I3 z3 0 100 99 v4 h3.2 (by decide) (by decide) (by decide) hv4) (fun _ _ _ _ _ _ _ _ _ => hb8)
      (fun _ I1 h1 I2 h2 I3 h3 I4 h4 => tk _ v4.2 z5 309 (up I4 (L + 5) _ _ (by omega) _ h4.2) (by decide) hz5) (fun _ _ _ _ _ _ _ _ _ _ _ => hb8) ?_ (fun _ _ _ _ _ _ _ _ _ _ _ _ _ => hb8) (fun _ I1 h1 I2 h2 I3 h3 I4 h4 I5 h5 I6 h6 => tk _ v6.2 z7 310 (up I6 (L + 6) _ _ (by omega) _ h6.2) (by decide) hz7) (fun _ I1 h1 I2 h2 I3 h3 I4 h4 I5 h5 I6 h6 I7 h7 => tn I7 z7 0 100 99 v8 h7.2 (by decide) (by decide) (by decide) hv8) (fun _ _ _ _ _ _ _ _ _ _ _ _ _ _ _ _ _ => hb8) ?_ (fun _ _ _ _ _ _ _ _ _ _ _ _ _ _ _ _ _ _ => hb8) (fun _ _ _ _ _ _ _ _ _ _ _ _ _ _ _ _ _ _ => vp_in_nI hv2l (by decide)) (fun _ _ _ _ _ _ _ _ _ _ _ _ _ _ _ _ _ _ => vp_in_nI hv2l (by decide)) ?_ (fun g => absurd d1 g))
    · intro _ I1 h1 I2 h2 I3 h3 I4 h4 I5 h5
      have e5 : I5 (L + 5) (I L 2).toNatClampNeg = nI v4.1 := by
        rw [h5.1.1 (L + 5) (by omega) (by simp), up2_s, if_pos rfl]
      rw [e5]
      exact tn I5 z5 v4.1 100 99 v6 h5.2 (by omega) (by decide) (by decide) hv6
    all_goals
      intro _ I1 h1 I2 h2' I3 h3 I4 h4 I5 h5 I6 h6 I7 h7 I8 h8' g
      rw [e1, nI_clamp (by omega)] at g h5 h7 ⊢
      have fA : F1 [] [3, 4, 5, 6, 11, 12] I I4 := (((h1.1.wk (fun _ h => h) (by decide)).t h2'.1).t h3.1).t h4.1
      have fB : F1 [] [3, 4, 5, 6, 11, 12] (up2 I4 (L + 5) a (nI v4.1)) I6 := h5.1.t h6.1
      have fC : F1 [] [3, 4, 5, 6, 11, 12] (up2 I6 (L + 6) a (nI v6.1)) I8 := h7.1.t h8'.1
      have f5 : F1 [L + 5] [3, 4, 5, 6, 11, 12] I I6 := ((fA.wk (by simp) (fun _ h => h)).up (by simp) (by omega)).t (fB.wk (by simp) (fun _ h => h))
      have f6 : F1 [L + 5, L + 6] [3, 4, 5, 6, 11, 12] I I8 := ((f5.wk (by simp) (fun _ h => h)).up (by simp) (by omega)).t (fC.wk (by simp) (fun _ h => h))
      have f9 : F1 [L + 4, L + 5, L + 6] [3, 4, 5, 6, 11, 12] I (up2 I8 (L + 4) a (nI v8.1)) := (f6.wk (by simp) (fun _ h => h)).up (by simp) (by omega)
      have hC9 : CX (up2 I8 (L + 4) a (nI v8.1)) t n v8.2 := up I8 (L + 4) _ _ (by omega) _ h8'.2
    · refine ⟨rfl, _, rfl, f9.wk (by simp [rowsL]) (fun _ h => h), v8.2, hC9, ych.1, fun s' hs => ?_⟩
      have hy := ych.1
      rw [hs] at hy
      have hv := zr_i (s := s'.1) hy
      rw [hC9.bad] at g
      rw [hv] at g
      exact absurd rfl g
    · have r5 : ∀ j, I8 (L + 5) j = if j = a then nI v4.1 else I (L + 5) j := fun j => by
        rw [fC.1 (L + 5) (by omega) (by simp), up2_o (by omega), fB.1 (L + 5) (by omega) (by simp), up2_s, fA.1 (L + 5) (by omega) (by simp)]
      have r6 : ∀ j, I8 (L + 6) j = if j = a then nI v6.1 else I (L + 6) j := fun j => by
        rw [fC.1 (L + 6) (by omega) (by simp), up2_s, f5.1 (L + 6) (by omega) (by simp)]
      have r0 : ∀ b, b ≠ 1 → b ≠ L + 5 → b ≠ L + 6 → I8 b = I b := fun b b1 b2 b3 => f6.1 b b1 (by simp; omega)
      rw [nI_clamp (by omega), shl_n (by omega)]
      refine ⟨rfl, _, rfl, (((f9.wk (r2 := rowsL L) (by simp [rowsL]) (fun _ h => h)).up (by simp [rowsL]) (by omega)).up (by simp [rowsL]) (by omega)).up (by simp [rowsL]) (by omega), v8.2, up _ L _ _ (by omega) _ (up _ (L + 7) _ _ (by omega) _ (up _ (L + 3) _ _ (by omega) _ hC9)), ych.1, fun s' hs => ?_⟩
      obtain ⟨y1, y2, y3, y4, y5⟩ := ych.2 s' hs
      rw [y1]
      obtain ⟨q1, q2, q3, q4, q5⟩ := hl
      have oth : ∀ i, i ≠ 66 + a → i ≠ 37 + a → i ≠ 45 + a → i ≠ 74 + a → i ≠ 2 → yta f a v2.1 v4.1 v6.1 v8.1 i = f i := fun i x1 x2 x3 x4 x5 => yta_ne ⟨x1, x2, x3, x4, x5⟩
      refine ⟨⟨?_, ?_, ?_, ?_, ?_⟩, fun u hu => ?_, fun b hb => ⟨?_, ?_, ?_, ?_⟩, fun kd hk => ?_, ?_⟩
      · rw [up2_s, if_neg (by decide), up2_o (by omega), up2_o (by omega), up2_o (by omega), r0 L (by omega) (by omega) (by omega), oth 0 (by omega) (by omega) (by omega) (by omega) (by omega)]; exact q1.1
      · rw [up2_s, if_neg (by decide), up2_o (by omega), up2_o (by omega), up2_o (by omega), r0 L (by omega) (by omega) (by omega), oth 1 (by omega) (by omega) (by omega) (by omega) (by omega)]; exact q1.2.1
      · rw [up2_s, if_pos rfl, up2_o (by omega), up2_o (by omega), up2_o (by omega), r0 L (by omega) (by omega) (by omega), e1, nI_1]
        unfold yta; rw [qset_eq]
      · rw [up2_s, if_neg (by decide), up2_o (by omega), up2_o (by omega), up2_o (by omega), r0 L (by omega) (by omega) (by omega), oth 54 (by omega) (by omega) (by omega) (by omega) (by omega)]; exact q1.2.2.2.1
      · rw [up2_s, if_neg (by decide), up2_o (by omega), up2_o (by omega), up2_o (by omega), r0 L (by omega) (by omega) (by omega), oth 6 (by omega) (by omega) (by omega) (by omega) (by omega)]; exact q1.2.2.2.2
      · rw [up2_o (by omega), up2_o (by omega), up2_o (by omega), up2_o (by omega), up2_o (by omega), up2_o (by omega), up2_o (by omega), up2_o (by omega), r0 (L + 1) (by omega) (by omega) (by omega), r0 (L + 2) (by omega) (by omega) (by omega), oth (56 + u) (by omega) (by omega) (by omega) (by omega) (by omega), oth (61 + u) (by omega) (by omega) (by omega) (by omega) (by omega)]
        exact q2 u hu
      · rw [up2_o (by omega), up2_o (by omega), up2_s, up2_o (by omega), r0 (L + 3) (by omega) (by omega) (by omega)]
        by_cases cb : b = a
        · rw [if_pos cb, cb]; unfold yta; rw [qset_ne (by omega), qset_ne (by omega), qset_ne (by omega), qset_ne (by omega), qset_eq]
        · rw [if_neg cb, oth (66 + b) (by omega) (by omega) (by omega) (by omega) (by omega)]; exact (q3 b hb).1
      · rw [up2_o (by omega), up2_o (by omega), up2_o (by omega), up2_s, r0 (L + 4) (by omega) (by omega) (by omega)]
        by_cases cb : b = a
        · rw [if_pos cb, cb]; unfold yta; rw [qset_ne (by omega), qset_eq]
        · rw [if_neg cb, oth (74 + b) (by omega) (by omega) (by omega) (by omega) (by omega)]; exact (q3 b hb).2.1
      · rw [up2_o (by omega), up2_o (by omega), up2_o (by omega), up2_o (by omega), r5]
        by_cases cb : b = a
        · rw [if_pos cb, cb]; unfold yta; rw [qset_ne (by omega), qset_ne (by omega), qset_ne (by omega), qset_eq]
        · rw [if_neg cb, oth (37 + b) (by omega) (by omega) (by omega) (by omega) (by omega)]; exact (q3 b hb).2.2.1
      · rw [up2_o (by omega), up2_o (by omega), up2_o (by omega), up2_o (by omega), r6]
        by_cases cb : b = a
        · rw [if_pos cb, cb]; unfold yta; rw [qset_ne (by omega), qset_ne (by omega), qset_eq]
        · rw [if_neg cb, oth (45 + b) (by omega) (by omega) (by omega) (by omega) (by omega)]; exact (q3 b hb).2.2.2
      · rw [up2_o (by omega), up2_s, up2_o (by omega), up2_o (by omega), r0 (L + 7) (by omega) (by omega) (by omega)]
        have ek : qkind (yta f a v2.1 v4.1 v6.1 v8.1) kd = qkind f kd ||| (if v2.1 = kd then 2 ^ a else 0) := by
          unfold qkind
          rw [show yta f a v2.1 v4.1 v6.1 v8.1 2 = a + 1 by unfold yta; rw [qset_eq], ha]
          show bset _ a ||| _ = _
          rw [bset_congr (q := fun b => decide (f (66 + b) = kd)) (fun i hi => by rw [oth (66 + i) (by omega) (by omega) (by omega) (by omega) (by omega)])]
          congr 1
          show (if decide (yta f a v2.1 v4.1 v6.1 v8.1 (66 + a) = kd) = true then 2 ^ a else 0) = _
          rw [show yta f a v2.1 v4.1 v6.1 v8.1 (66 + a) = v2.1 by unfold yta; rw [qset_ne (by omega), qset_ne (by omega), qset_ne (by omega), qset_ne (by omega), qset_eq]]
          by_cases ck : v2.1 = kd
          · rw [if_pos ck, if_pos (by rw [decide_eq_true_eq]; exact ck)]
          · rw [if_neg ck, if_neg (by rw [decide_eq_true_eq]; exact ck)]
        rw [ek]
        by_cases ck : kd = v2.1
        · rw [if_pos ck, if_pos ck.symm, ← ck, q4 kd hk, fa_or]
        · rw [if_neg ck, if_neg (fun g => ck g.symm), Nat.or_zero]; exact q4 kd hk
      · refine LL.w (f := f) ?_ (fun i hi => oth i (by omega) (by omega) (by omega) (by omega) (by omega))
        unfold LLw
        rw [up2_o (by omega), up2_o (by omega), up2_o (by omega), up2_o (by omega), up2_o (by omega), up2_o (by omega), up2_o (by omega), up2_o (by omega), f6.1 dl (by omega) (by simp; omega), f6.1 pl (by omega) (by simp; omega)]
        exact q5
end A
