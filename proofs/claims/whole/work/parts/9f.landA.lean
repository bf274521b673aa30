/-! the class: readLand, beginWith -/
section A
variable {l : Launch} {G : Gh} {k : Nat} {I : Nat → Nat → Int32} {J : Nat → Nat → Int64} {R : Nat → Nat → Option Nat} {S : Nat → Nat × Nat} {nx : Nat} {κ : Nat → Nat} {hb pb : Nat}
variable {t : Nat → Nat} {n tp : Nat} {L dl pl ld lp : Nat} {f : Nat → Nat} {R' : Nat → Nat → Option Nat}
theorem Zk0 : Zk (fun _ => 0) := ⟨⟨by decide, fun u _ => ⟨by show 0 < 2 ^ 0; decide, Nat.zero_le _⟩, fun u v _ _ => by simp, fun u _ => by simp, fun u _ _ => rfl⟩, ⟨Nat.zero_le _, fun a _ => ⟨Nat.zero_le _, Nat.zero_le _, Nat.zero_le _, Nat.zero_le _⟩⟩, ⟨⟨Nat.zero_le _, Nat.zero_le _⟩, fun h => absurd rfl h, fun h => absurd rfl h⟩, rfl, Nat.zero_le _, fun i _ _ => rfl, rfl, Nat.zero_le _, rfl⟩
theorem CF.r1 (h : CF R S nx) (e : ∀ b, b < 72 → b ≠ 1 → R' b = R b) (e1 : ∀ j, j ≠ 7 → R' 1 j = R 1 j) : CF R' S nx := by
  obtain ⟨h1, h2, h3, h4, h5⟩ := h
  have c : ∀ q ∈ cwR, q.1 < 72 ∧ (q.1 = 1 → q.2.1 ≠ 7) := by decide
  refine ⟨h1, h2, fun q hq => ?_, h4, fun i hi => by rw [e 33 (by decide) (by decide)]; exact h5 i hi⟩
  obtain ⟨c1, c2⟩ := c q hq
  by_cases c3 : q.1 = 1
  · rw [c3, e1 _ (c2 c3), ← c3]; exact h3 q hq
  · rw [e _ c1 c3]; exact h3 q hq
theorem readLand_c (w : CF R S nx) (hG : GT G) (hT : TpC I t tp) (hn : n ≤ tp) : Cal l G (k + 102) 911 967 mX6_readLand [.ref 1, .int (nI n)] (I, J, R, S, nx) (RdQ (I, J, R, S, nx) t n nx (yland t n 1000)) := by
  have h72 := w.1
  have ht9 := hT.2.1
  have em : (if Int32.ofNat 900 < nI n then Int32.ofNat 900 else nI n) = nI n := if_neg (fun g => by
    have := (nI_ltI (a := 900) (b := n) (by decide) (by omega)).mp g
    omega)
  refine Cal.of rfl (by decide +kernel) (by simp) (Nat.le_of_ble_eq_true rfl) rfl (WP.less (cb' := 910 + 1) (sb' := 953 + 14) (by decide) (by decide) (wp_aload_n (q := 1) dX6_readLand_0 rfl rfl rfl (wp_new (q := 4) (t := 2) dX6_readLand_1 rfl rfl rfl (by decide) cl_RX6_34 ib_RX2 in_RX2 (wp_dup (q := 5) dX6_readLand_4 rfl rfl (wp_invIN (q := 8) (As := []) (host := RX11) (mc' := 9) (ms' := 52) dX6_readLand_5 rfl rfl ok_X2_init rfl rfl (List.mem_of_getElem? (i := 1) rfl) im_X2_init rfl rfl (Nat.le_of_ble_eq_true rfl) (by decide) (by decide) (i_X2_init (x0 := nx) (by omega) (by rw [up1_eq])) ?_ ?_)))))
  · rintro r μ' ⟨hr1, I1, J1, R1, S1, rfl, a1, a2, a3, a4, a5⟩
    obtain rfl := Sum.inl.inj hr1
    have old : ∀ b, b < nx → I1 b = I b ∧ J1 b = J b ∧ R1 b = R b ∧ S1 b = S b := fun b hb => by
      obtain ⟨b1, b2, b3⟩ := a1 b (by omega)
      obtain ⟨b4, b5⟩ := b1 (by omega)
      rw [up1_ne (by omega)] at b2 b3 b4 b5
      exact ⟨b4, b2, b5, b3⟩
    have hSn : S1 nx = (2, 0) := by rw [(a1 nx (by omega)).2.2, up1_eq]
    have w1 : CF R1 S1 (nx + 1 + 9) := w.ad ⟨by omega, fun a ha => (old a ha).2.2.2⟩ ⟨fun a ha _ => (old a ha).2.2.1, fun j _ => by rw [(old 0 (by omega)).2.2.1]⟩
    have eR : ∀ b, b ≠ 1 → up2 R1 1 7 (some nx) b = R1 b := fun b hb => up2_g hb
    have eR1 : ∀ j, j ≠ 7 → up2 R1 1 7 (some nx) 1 j = R1 1 j := fun j hj => by rw [up2_h, if_neg hj]
    have w2 : CF (up2 R1 1 7 (some nx)) S1 (nx + 1 + 9) := w1.r1 (fun b _ hb => eR b hb) eR1
    have hs1 : (S1 1).1 = 6 := cf_o w1 (q := (1, 6)) (by decide)
    refine wp_putR (q := 11) (ty := tyX6) dX6_readLand_8 rfl fl_RX6_37 rfl (Or.inl rfl) (fun _ => rfl) (fun _ => rfl) rfl (by omega) hs1 (wp_aload_n (q := 12) dX6_readLand_11 rfl rfl rfl (wp_iload_n (q := 13) dX6_readLand_12 rfl rfl rfl (wp_aload_n (q := 14) dX6_readLand_13 rfl rfl rfl (wp_getR (b := 2) (q := 17) dX6_readLand_14 rfl fl_RX6_11 rfl (by omega) hs1 (cf_r w2 (q := (1, 0, 2)) (by decide)) (wp_alen (q := 18) dX6_readLand_17 rfl (by omega) (cf_a w1 (q := (2, 102, 900)) (by decide)) (Or.inr (Or.inr (Or.inl rfl))) (wp_mmin (q := 21) dX6_readLand_18 rfl ml_RX6_58 sm_mmin in_Math cd_mmin (Nat.le_of_ble_eq_true rfl) ?_))))))
    rw [em]
    have e2 : (up2 (up2 (up2 (up2 I1 1 2 (nI n)) 1 3 (0 : Int32)) 1 11 (0 : Int32)) 1 12 (-1 : Int32)) 2 = I 2 := by rw [up2_o (by decide), up2_o (by decide), up2_o (by decide), up2_o (by decide), (old 2 (by omega)).1]
    have hT2 : CT (up2 (up2 (up2 (up2 I1 1 2 (nI n)) 1 3 (0 : Int32)) 1 11 (0 : Int32)) 1 12 (-1 : Int32)) t n := by
      refine ⟨?_, fun j hj => ?_, ⟨by omega, fun j hj => hT.2.2.2 j (by omega)⟩⟩
      · rw [up2_s, if_neg (by decide), up2_s, if_neg (by decide), up2_s, if_neg (by decide), up2_s, if_pos rfl]
      · rw [e2]; exact hT.2.2.1 j (by omega)
    refine wp_putI (q := 24) (ty := tyX6) dX6_readLand_21 rfl fl_RX6_19 rfl rfl rfl rfl rfl (by omega) hs1 (wp_aload_n (q := 25) dX6_readLand_24 rfl rfl rfl (wp_iconst (q := 26) dX6_readLand_25 rfl ki_0 (wp_putI (q := 29) (ty := tyX6) dX6_readLand_26 rfl fl_RX6_22 rfl rfl rfl rfl rfl (by omega) hs1 (wp_aload_n (q := 30) dX6_readLand_29 rfl rfl rfl (wp_iconst (q := 31) dX6_readLand_30 rfl ki_0 (wp_putI (q := 34) (ty := tyX6) dX6_readLand_31 rfl fl_RX6_52 rfl rfl rfl rfl rfl (by omega) hs1 (wp_aload_n (q := 35) dX6_readLand_34 rfl rfl rfl (wp_iconst (q := 36) dX6_readLand_35 rfl ki_m1 (wp_putI (q := 39) (ty := tyX6) dX6_readLand_36 rfl fl_RX6_55 rfl rfl rfl rfl rfl (by omega) hs1 (wp_aload_n (q := 40) dX6_readLand_39 rfl rfl rfl (wp_bV (q := 43) (As := []) (v := .null) dX6_readLand_40 rfl rfl ok_X6_advance ml_RX6_64 im_X6_advance se_X6_advance (t := 6) (by decide) ⟨_, rfl, rfl⟩ (by omega) hs1 rfl rfl (Nat.le_of_ble_eq_true rfl) (advance_c (k := k + 95) (h := 0) w2 hG hT2 (by rw [up2_s, if_neg (by decide), up2_s, if_neg (by decide), up2_s, if_pos rfl]; rfl) (Nat.zero_le _)) (fun I3 f3 => wp_iconst (q := 44) dX6_readLand_43 rfl ki_0 (wp_istore_n (L' := [some (.ref 1), some (.int (nI n)), some (.int (nI 0))]) (q := 45) dX6_readLand_44 rfl rfl (by decide) rfl ?_)))))))))))))
    have eI : ∀ b, b ≠ 1 → I3 b = I1 b := fun b hb => by rw [f3.1.1 b hb (by simp), up2_o hb, up2_o hb, up2_o hb, up2_o hb]
    have hCX : CX I3 t n (none, ynx t n 0) := by
      refine ⟨hT2.f1 f3.1 (by simp) (by decide), ⟨f3.2, 0, Nat.zero_le _, rfl⟩, ?_, ?_⟩
      · rw [f3.1.2 11 (by decide), up2_s, if_neg (by decide), up2_s, if_pos rfl]
      · rw [f3.1.2 12 (by decide), up2_s, if_pos rfl]
    have hLW : LW (up2 R1 1 7 (some nx)) S1 (nx + 1 + 9) nx (nx + 8) (nx + 9) 0 0 := by
      obtain ⟨r5, r6, r7, r8, r9, r10, r11, r12, r13⟩ := a3
      obtain ⟨s0, s1, s2, s3, s4, s5, s6, s7, s8⟩ := a4
      have rn := eR nx (by omega)
      refine ⟨by omega, by rw [hSn], fun i hi => ?_, ⟨?_, ?_⟩, ⟨?_, ?_⟩, ⟨by omega, by omega⟩, ⟨Or.inr (Or.inr h72), Or.inl rfl, Or.inl rfl⟩⟩
      · rw [rn]
        have hi' : i = 0 ∨ i = 1 ∨ i = 2 ∨ i = 3 ∨ i = 4 ∨ i = 5 ∨ i = 6 := by omega
        rcases hi' with rfl | rfl | rfl | rfl | rfl | rfl | rfl
        · exact ⟨r5.trans (congrArg some (by omega)), s0⟩
        · exact ⟨r6.trans (congrArg some (by omega)), by rw [show nx + (1 + 1) = nx + 1 + 1 by omega]; exact s1⟩
        · exact ⟨r7.trans (congrArg some (by omega)), by rw [show nx + (1 + 2) = nx + 1 + 2 by omega]; exact s2⟩
        · exact ⟨r8.trans (congrArg some (by omega)), by rw [show nx + (1 + 3) = nx + 1 + 3 by omega]; exact s3⟩
        · exact ⟨r9.trans (congrArg some (by omega)), by rw [show nx + (1 + 4) = nx + 1 + 4 by omega]; exact s4⟩
        · exact ⟨r10.trans (congrArg some (by omega)), by rw [show nx + (1 + 5) = nx + 1 + 5 by omega]; exact s5⟩
        · exact ⟨r11.trans (congrArg some (by omega)), by rw [show nx + (1 + 6) = nx + 1 + 6 by omega]; exact s6⟩
      · rw [rn]; exact r12.trans (congrArg some (by omega))
      · rw [rn]; exact r13.trans (congrArg some (by omega))
      · rw [show nx + 8 = nx + 1 + 7 by omega]; exact s7
      · rw [show nx + 9 = nx + 1 + 8 by omega]; exact s8
    have z : ∀ i j, i < 7 → I3 (nx + (1 + i)) j = 0 := fun i j hi => by
      rw [eI _ (by omega), show nx + (1 + i) = nx + 1 + i by omega, (a2 i (by omega)).1]
    have hLL : LL I3 (fun _ => 0) nx (nx + 8) (nx + 9) 0 0 := by
      refine ⟨?_, fun u _ => ⟨z 0 u (by decide), z 1 u (by decide)⟩, fun a _ => ⟨z 2 a (by decide), z 3 a (by decide), z 4 a (by decide), z 5 a (by decide)⟩, fun kd _ => z 6 kd (by decide), ⟨rfl, fun i hi => absurd hi (Nat.not_lt_zero i)⟩, rfl, fun i hi => absurd hi (Nat.not_lt_zero i)⟩
      rw [eI nx (by omega)]
      exact a5
    refine rl_loop hG (by omega) 901 1000 0 (ynx t n 0, fun _ => 0) I3 J1 _ S1 _ (nx + 8) (nx + 9) 0 0 _ _ (by omega) (by omega) ⟨⟨by show nx ≤ nx + 1 + 9; omega, fun b hb => ⟨fun c1 c2 => (eI b c1).trans (old b hb).1, (old b hb).2.1, fun c => (eR b c).trans (old b hb).2.2.1, (old b hb).2.2.2⟩, fun j hj => ?_, fun g hg => ?_⟩, w2, by show up2 R1 1 7 (some nx) 1 7 = some nx; rw [up2_h, if_pos rfl], hLW, ⟨h72, Nat.le_refl _, by omega⟩, Nat.le_refl _, h72⟩ hCX hLL Zk0 rfl (Nat.zero_le _) (by decide) (by show 901 ≤ 953 - 52 + _; omega)
    · show up2 R1 1 7 (some nx) 1 j = R 1 j
      rw [eR1 j hj, (old 1 (by omega)).2.2.1]
    · show I3 1 g = I 1 g
      simp only [List.mem_cons, List.not_mem_nil, or_false, not_or] at hg
      rw [f3.1.2 g (by simp; omega), up2_s, if_neg (by omega), up2_s, if_neg (by omega), up2_s, if_neg (by omega), up2_s, if_neg (by omega), (old 1 (by omega)).1]
  · rintro E μ' ⟨hr1, _⟩; cases hr1
theorem beginWith_c {X dX pX ldX lpX : Nat} (w : CF R S nx) (wL : R 14 0 = some L) (wl : LW R S nx L dl pl ld lp) (wX : LW R S nx X dX pX ldX lpX) (hX : 72 ≤ X) (hl : LL I f X dX pX ldX lpX) (hz : Z4 f) : Cal l G (k + 2) 0 0 mX7_beginWith [.ref 14, .ref X] (I, J, R, S, nx) (fun r μ' => r = .inl none ∧ ∃ I', μ' = (I', J, up2 R 14 0 (some X), S, nx) ∧ Fr [25, 29] I I' ∧ CN I' f ∧ ∀ κ', PV I' κ') := by
  have e : ∀ b, b ≠ 14 → up2 R 14 0 (some X) b = R b := fun b hb => up2_g hb
  have w' : CF (up2 R 14 0 (some X)) S nx := w.rr (fun b _ h => e b h.1) (fun j hj => by rw [up2_h, if_neg (by omega)])
  have wX' : LW (up2 R 14 0 (some X)) S nx X dX pX ldX lpX := wX.rr (e X (by omega))
  have hn : X < nx := by have := wX.1; omega
  refine Cal.of rfl (by decide +kernel) (by simp) (Nat.le_of_ble_eq_true rfl) rfl (sX7_beginWith_0 w wL wl (sX7_beginWith_5 (P1 := fun I I' => Fr [25] I I' ∧ ∀ j, j < 49 → I' 25 j = 0) hn (lw_s wX) w' (fill_i (v := 0) (cf_a w (q := (25, 100, 49)) (by decide)) (cf_n w (by decide)) (by decide)) (fun I1 h1 => ?_)))
  have key : ∀ d i (I1 : Nat → Nat → Int32), i + d = 8 → Fr [25] I I1 → (∀ j, j < 49 → I1 25 j = if j = 0 then I X 3 else if 33 ≤ j ∧ j < 33 + i then I (X + 5) (j - 33) else if 41 ≤ j ∧ j < 41 + i then I (X + 6) (j - 41) else 0) → WP l G (k + 2) 0 0 mX7_beginWith (fun r μ' => r = .inl none ∧ ∃ I', μ' = (I', J, up2 R 14 0 (some X), S, nx) ∧ Fr [25, 29] I I' ∧ CN I' f ∧ ∀ κ', PV I' κ') 25 [some (.ref 14), some (.ref X), some (.int (nI i))] [] (I1, J, up2 R 14 0 (some X), S, nx) 0 0 := by
    intro d
    induction d with
    | zero =>
      intro i I1 hi hF hv
      have hi8 : i = 8 := by omega
      subst hi8
      have d1 : (8 : Int32) ≤ nI 8 := by decide
      refine sX7_beginWith_25 (x1_first := X + 5) (x1_second := X + 6) (n_x1_first := 8) (n_x1_second := 8) (P1 := fun I I' => Fr [29] I I' ∧ ∀ κ', PV I' κ') (lw_a wX' (i := 4) (by decide)) (lw_a wX' (i := 5) (by decide)) (lw_n wX' (i := 5) (by decide)) (lw_n wX' (i := 6) (by decide)) hn (lw_r wX' (i := 4) (by decide)) (lw_r wX' (i := 5) (by decide)) (lw_s wX) w' (fun _ => forget_c w') (fun _ I2 h2 => ⟨rfl, _, rfl, hF.tr h2.1 (by decide), fun i hi => ?_, h2.2⟩) (fun g => absurd d1 g) (fun g => absurd d1 g) (fun g => absurd d1 g) (fun g => absurd d1 g) (fun g => absurd d1 g)
      rw [h2.1 25 (by decide), hv i hi]
      obtain ⟨⟨a0, a1, a2, a3, a4⟩, b1, b2, b3, b4⟩ := hl
      obtain ⟨z1, z2, z3, z4, z5, z6⟩ := hz
      unfold prm
      by_cases c0 : i = 0
      · rw [if_pos c0, if_pos c0]; exact a3
      · rw [if_neg c0, if_neg c0]
        by_cases c1 : i = 1
        · rw [if_pos c1, if_neg (by omega), if_neg (by omega), z6]; rfl
        · rw [if_neg c1]
          by_cases c2 : i = 2
          · rw [if_pos c2, if_neg (by omega), if_neg (by omega), z4]; rfl
          · rw [if_neg c2]
            by_cases c3 : 33 ≤ i ∧ i < 33 + 8
            · rw [if_pos c3, (b2 (i - 33) (by omega)).2.2.1, show 37 + (i - 33) = 7 + (i - 3) by omega]
            · rw [if_neg c3]
              by_cases c4 : 41 ≤ i ∧ i < 41 + 8
              · rw [if_pos c4, (b2 (i - 41) (by omega)).2.2.2, show 45 + (i - 41) = 7 + (i - 3) by omega]
              · rw [if_neg c4, z3 (7 + (i - 3)) (by omega) (by omega)]; rfl
    | succ d ih =>
      intro i I1 hi hF hv
      have d1 : ¬ (8 : Int32) ≤ nI i := nI_ge (b := 8) (by omega) (by decide)
      have q1 : (33 : Int32) + nI i = nI (33 + i) := by rw [show (33 : Int32) = nI 33 from rfl, nI_add]
      have q2 : (41 : Int32) + nI i = nI (41 + i) := by rw [show (41 : Int32) = nI 41 from rfl, nI_add]
      refine sX7_beginWith_25 (x1_first := X + 5) (x1_second := X + 6) (n_x1_first := 8) (n_x1_second := 8) (P1 := fun I I' => True) (lw_a wX' (i := 4) (by decide)) (lw_a wX' (i := 5) (by decide)) (lw_n wX' (i := 5) (by decide)) (lw_n wX' (i := 6) (by decide)) hn (lw_r wX' (i := 4) (by decide)) (lw_r wX' (i := 5) (by decide)) (lw_s wX) w' (fun g => absurd g d1) (fun g => absurd g d1) (fun _ => vp_in_nI (by omega) (by decide)) (fun _ => by rw [q1]; exact vp_in_nI (by omega) (by decide)) (fun _ => vp_in_nI (by omega) (by decide)) (fun _ => by rw [q2]; exact vp_in_nI (by omega) (by decide)) (fun _ => ?_)
      rw [q1, q2, nI_1, nI_clamp (by omega), nI_clamp (by omega), nI_clamp (by omega)]
      refine ih (i + 1) _ (by omega) ((hF.up (by decide)).up (by decide)) (fun j hj => ?_)
      have r5 : I1 (X + 5) = I (X + 5) := hF _ (by simp; omega)
      have r6 : I1 (X + 6) = I (X + 6) := hF _ (by simp; omega)
      rw [up2_s, up2_o (by omega), r6, up2_s, r5]
      by_cases c1 : j = 41 + i
      · subst c1
        rw [if_pos rfl, if_neg (by omega), if_neg (by omega), if_pos (by omega), show 41 + i - 41 = i by omega]
      · rw [if_neg c1]
        by_cases c2 : j = 33 + i
        · subst c2
          rw [if_pos rfl, if_neg (by omega), if_pos (by omega), show 33 + i - 33 = i by omega]
        · rw [if_neg c2, hv j hj]
          by_cases c0 : j = 0
          · rw [if_pos c0, if_pos c0]
          · rw [if_neg c0, if_neg c0]
            by_cases c3 : 33 ≤ j ∧ j < 33 + i
            · rw [if_pos c3, if_pos (by omega)]
            · rw [if_neg c3]
              by_cases c4 : 41 ≤ j ∧ j < 41 + i
              · rw [if_pos c4, if_neg (show ¬ (33 ≤ j ∧ j < 33 + (i + 1)) by omega), if_pos (by omega)]
              · rw [if_neg c4, if_neg (show ¬ (33 ≤ j ∧ j < 33 + (i + 1)) by omega), if_neg (by omega)]
  refine key 8 0 _ rfl (h1.1.up (by decide)) (fun j hj => ?_)
  rw [up2_s]
  by_cases c0 : j = 0
  · rw [if_pos c0, if_pos c0, h1.1 X (by simp; omega)]
  · rw [if_neg c0, if_neg c0, if_neg (by omega), if_neg (by omega)]; exact h1.2 j hj
end A
