/-! the law's beginning: both objects are made -/
abbrev st00 : St := (fun _ => 0, fun _ => none, (fun _ => 0, fun _ => 0, fun _ _ => 0), (fun _ => 0, 0), 0, -1)
section A
variable {l : Launch} {G : Gh} {k : Nat} {I : Nat → Nat → Int32} {J : Nat → Nat → Int64} {R : Nat → Nat → Option Nat} {S : Nat → Nat × Nat} {nx : Nat} {κ : Nat → Nat} {hb pb : Nat}
theorem sok0 : sok 999 0 (fun _ => 0) := by
  have e : yland (fun _ => 0) 0 1000 = .inr (ynx (fun _ => 0) 0 0, fun _ => 0) := by
    show ylp (fun _ => 0) 0 1000 (999 + 1) (ynx (fun _ => 0) 0 0, fun _ => 0) = _
    rw [ylp, if_pos (by unfold ynx; rw [if_pos (Nat.zero_le _)])]
  exact (yland_z ⟨by decide, fun j hj => absurd hj (Nat.not_lt_zero j)⟩ e).1
theorem CI0 (hE : EB I R S) (hT : ET 4 I J R S) (h72 : 72 ≤ nx) : CI (I, J, R, S, nx) st00 := by
  obtain ⟨⟨⟨a1, a2, a3⟩, ⟨a4, a5⟩, a6, a7, a8⟩, ⟨⟨b1, b2, b3, b4, b5, b6⟩, ⟨b7, b8, b9, b10, b11, b12⟩, ⟨b13, b14, ⟨b15, b16⟩, b17, b18⟩, ⟨b19, b20, b21, b22⟩, b23, b24, b25⟩, ⟨c1, c2, c3, c4, c5, c6, c7, c8, c9, c10, c11⟩, ⟨d1, d2, d3, d4, d5⟩, ⟨e1, e2, e3⟩, f1⟩ := hE
  have t0 := hT 0 (by decide)
  have t1 := hT 1 (by decide)
  have t2 := hT 2 (by decide)
  have t3 := hT 3 (by decide)
  have hCF : CF R S nx := by
    refine ⟨h72, fun q hq => ?_, fun q hq => ?_, fun q hq => ?_, fun i hi => (hT i hi).1⟩
    · simp only [cwO, List.mem_cons, List.not_mem_nil, or_false] at hq
      rcases hq with rfl | rfl | rfl | rfl | rfl | rfl | rfl | rfl | rfl
      · exact c1
      · exact a1
      · exact b1
      · exact b3
      · exact d1
      · exact t0.2.1
      · exact t1.2.1
      · exact t2.2.1
      · exact t3.2.1
    · simp only [cwR, List.mem_cons, List.not_mem_nil, or_false] at hq
      rcases hq with rfl | rfl | rfl | rfl | rfl | rfl | rfl | rfl | rfl | rfl | rfl | rfl | rfl | rfl | rfl | rfl | rfl | rfl
      · exact c2
      · exact c3
      · exact c4
      · exact c5
      · exact c6
      · exact c7
      · exact a4
      · exact a5
      · exact b8
      · exact b9
      · exact b10
      · exact b11
      · exact b12
      · exact d2
      · exact t0.2.2.1
      · exact t1.2.2.1
      · exact t2.2.2.1
      · exact t3.2.2.1
    · simp only [cwA, List.mem_cons, List.not_mem_nil, or_false] at hq
      rcases hq with rfl | rfl | rfl | rfl | rfl | rfl | rfl | rfl | rfl | rfl | rfl | rfl | rfl | rfl
      · exact a2
      · exact a3
      · exact b2
      · exact b4
      · exact b5
      · exact b6
      · exact d3
      · exact e1
      · exact e2
      · exact e3
      · exact t0.2.2.2.1
      · exact t1.2.2.2.1
      · exact t2.2.2.2.1
      · exact t3.2.2.2.1
  have hCR : CR I J R S nx (fun _ => 0) (fun _ => none) (fun _ => 0) (fun _ => 0) (fun _ _ => 0) (fun _ => 0) 0 0 (-1) := by
    refine ⟨hCF, fun q hq => ⟨?_, fun g => absurd rfl g, ⟨Nat.zero_le _, Nat.zero_le _⟩, fun i hi => ?_⟩, ⟨a6, Nat.zero_le _, fun j hj => absurd hj (Nat.not_lt_zero j), fun j hj => absurd hj (Nat.not_lt_zero j)⟩, ⟨a7, a8⟩, ⟨fun o ho => ?_, fun o ho => ?_, fun o ho => ?_, fun o ho => ?_⟩, fun i hi => ?_⟩
    · rw [if_pos rfl]; exact (hT q hq).2.2.2.2.1
    · rw [(hT q hq).2.2.2.2.2]
    · rw [c8] at ho; cases ho
    · rw [c9] at ho; cases ho
    · rw [c10] at ho; cases ho
    · rw [c11] at ho; cases ho
    · show R 34 i = none
      rw [f1]
  have hLd : LdC I R S nx (fun _ => 0) 15 (fun _ => 0) 23 24 0 0 := by
    refine ⟨⟨by omega, b13, b14, ⟨b15, b16⟩, ⟨b17, b18⟩, ⟨by omega, by omega⟩, ⟨Or.inr (Or.inl rfl), Or.inl rfl, Or.inl rfl⟩⟩, ⟨⟨b19, b20, b21, b22⟩, fun w hw => ⟨?_, ?_⟩, fun a ha => ⟨?_, ?_⟩, fun kd hk => ?_, ⟨rfl, fun i hi => absurd hi (Nat.not_lt_zero i)⟩, rfl, fun i hi => absurd hi (Nat.not_lt_zero i)⟩, fun i _ => rfl, rfl, rfl⟩
    · exact congrFun (b23 0 (by decide)) w
    · exact congrFun (b23 1 (by decide)) w
    · exact congrFun (b23 2 (by decide)) a
    · exact congrFun (b23 3 (by decide)) a
    · exact congrFun (b23 6 (by decide)) kd
  have hN : CN I (fun _ => 0) := fun i hi => by rw [b24]; rfl
  have hV : PV I (fun _ => 0) := PV0 (fun j _ => by rw [b25])
  have hP : PS I 30 31 (fun _ => 0) := ⟨0, by decide, d4, d5, fun j hj => absurd hj (Nat.not_lt_zero j)⟩
  exact ⟨fun _ => 0, 15, 23, 24, 0, 0, hCR, b7, hLd, hN, hV, hP⟩
theorem law_start (hLx : G.2.2.2.2.2.1 ≤ 3072) (hl0 : l.stackTraces = false) (hG : GT G) : WP l G (k + 106) 601024 7293034 mL_law QL 0 [some (.retAddr 1000), none, none, none, none, none, none, none] [] (I, J, R, S, 0) 601024 7293034 := by
  refine WP.less (cb' := 601023 + 1) (sb' := 7293023 + 11) (Nat.le_of_ble_eq_true rfl) (Nat.le_of_ble_eq_true rfl) (wp_new (q := 3) (t := 11) dL_law_0 rfl rfl rfl (by decide) cl_RL_8 ib_RX11 in_RX11 (wp_dup (q := 4) dL_law_3 rfl rfl (wp_invI (q := 7) (As := []) (mc' := 42) (ms' := 3726) dL_law_4 rfl rfl ok_X11_init rfl rfl ml_RL_155 im_X11_init rfl rfl (Nat.le_of_ble_eq_true rfl) (Nat.le_of_ble_eq_true rfl) (Nat.le_of_ble_eq_true rfl) (i_X11_init (k := k + 103) rfl) ?_ ?_)))
  · rintro r μ' ⟨hr, I1, J1, R1, S1, rfl, hE, hT⟩
    obtain rfl := Sum.inl.inj hr
    refine WP.less (cb' := 600980 + 1) (sb' := 7289253 + 44) (Nat.le_of_ble_eq_true rfl) (Nat.le_of_ble_eq_true rfl) (wp_astore_n (q := 8) dL_law_7 rfl rfl (by decide) rfl (wp_new (q := 11) (t := 12) dL_law_8 rfl rfl rfl (by decide) cl_RL_156 ib_RX12 in_RX12 (wp_dup (q := 12) dL_law_11 rfl rfl (wp_invI (q := 15) (As := []) (mc' := 27) (ms' := 26157) dL_law_12 rfl rfl ok_X12_init rfl rfl ml_RL_158 im_X12_init rfl rfl (Nat.le_of_ble_eq_true rfl) (Nat.le_of_ble_eq_true rfl) (Nat.le_of_ble_eq_true rfl) (i_X12_init (k := k + 105) rfl) ?_ ?_))))
    · rintro r μ' ⟨hr2, I2, J2, R2, S2, rfl, o1, o2, o3, ⟨z1, z2, z3, z4, z5⟩, z6, z7, z8⟩
      obtain rfl := Sum.inl.inj hr2
      have old : ∀ a, a < 43 → up1 I2 71 (fun _ => 0) a = I1 a ∧ up1 J2 71 (fun _ => 0) a = J1 a ∧ up1 R2 71 (fun _ => none) a = R1 a ∧ up1 S2 71 (101, 1) a = S1 a := fun a ha => by
        obtain ⟨q1, q2, q3, q4⟩ := o1 a ha
        rw [up1_ne (by omega)] at q1 q2 q3 q4
        exact ⟨by rw [up1_ne (by omega)]; exact q1, by rw [up1_ne (by omega)]; exact q2, by rw [up1_ne (by omega)]; exact q3, by rw [up1_ne (by omega)]; exact q4⟩
      have hE2 : EB (up1 I2 71 (fun _ => 0)) (up1 R2 71 (fun _ => none)) (up1 S2 71 (101, 1)) := hE.cg (fun a ha => ⟨(old a (by omega)).1, fun _ => (old a (by omega)).2.2.1, (old a (by omega)).2.2.2⟩)
      have hT2 : ET 4 (up1 I2 71 (fun _ => 0)) (up1 J2 71 (fun _ => 0)) (up1 R2 71 (fun _ => none)) (up1 S2 71 (101, 1)) := fun t ht => by
        obtain ⟨t1, t2, t3, t4, t5, t6⟩ := hT t ht
        refine ⟨?_, ?_, ?_, ?_, ?_, ?_⟩
        · rw [(old 33 (by decide)).2.2.1]; exact t1
        · rw [(old (35 + 2 * t) (by omega)).2.2.2]; exact t2
        · rw [(old (35 + 2 * t) (by omega)).2.2.1]; exact t3
        · rw [(old (36 + 2 * t) (by omega)).2.2.2]; exact t4
        · rw [(old (35 + 2 * t) (by omega)).1]; exact t5
        · rw [(old (36 + 2 * t) (by omega)).2.1]; exact t6
      have hRS : RS (up1 I2 71 (fun _ => 0)) (up1 J2 71 (fun _ => 0)) (up1 R2 71 (fun _ => none)) (up1 S2 71 (101, 1)) 72 (fun _ => 0) (fun _ => none) (fun _ => 0) (fun _ => 0) (fun _ _ => 0) (fun _ => 0) 0 0 (-1) := by
        have c : ∀ q ∈ mwL, q.2.1 < 71 := by decide
        refine ⟨⟨⟨Nat.le_refl _, o2, fun q hq => ⟨?_, ?_⟩⟩, rfl⟩, fun i hi => ?_, fun q hq => ⟨?_, ?_, Nat.zero_le _, Nat.zero_le _, fun i hi => ?_⟩, fun i hi => ?_, ⟨?_, Nat.zero_le _, fun j hj => absurd hj (Nat.not_lt_zero j), fun j hj => absurd hj (Nat.not_lt_zero j)⟩, ?_, ?_⟩
        · exact (o3 q hq).1
        · have := c q hq
          rw [up1_ne (by omega)]; exact (o3 q hq).2
        · show I2 44 i = nI 0
          rw [z1]; rfl
        · show I2 68 q = (if (0 : Nat) = 0 then -1 else _)
          rw [if_pos rfl]; exact z6 q hq
        · show I2 69 q = nI 0
          rw [z7]; rfl
        · show J2 70 (30 * q + i) = 0
          rw [z8]
        · show I2 47 i = 0
          rw [z2]
        · show I2 43 6 = nI 0
          rw [z3]; rfl
        · show I2 43 14 = 0
          rw [z4]; rfl
        · show I2 43 15 = -1
          exact z5
      refine WP.less (cb' := 600952 + 1) (sb' := 7263095 + 1) (Nat.le_of_ble_eq_true rfl) (Nat.le_of_ble_eq_true rfl) (wp_astore_n (q := 16) dL_law_15 rfl rfl (by decide) rfl (wp_iconst (q := 17) dL_law_16 rfl ki_1 (wp_newarr (q := 19) (ty := .int) (tg := 101) (n := 1) dL_law_17 rfl (Or.inr (Or.inl ⟨rfl, rfl⟩)) AR101 (by decide) (by decide) (by decide) (wp_astore_n (q := 20) dL_law_19 rfl rfl (by decide) rfl (wp_iconst (q := 21) dL_law_20 rfl ki_0 (wp_istore (L' := LLoc (6 * 0)) (q := 23) dL_law_21 rfl (by decide) rfl (law_loop hLx hl0 hG 3072 0 _ _ _ _ _ st00 _ _ (by omega) ⟨CI0 hE2 hT2 (Nat.le_refl _), hRS, sok0.mono (Nat.le_refl _) (Nat.le_refl _), fun i σ e => by cases e⟩ (Nat.zero_le _) (Nat.le_of_ble_eq_true rfl) (Nat.le_of_ble_eq_true rfl))))))))
    · rintro E μ' ⟨hr2, _⟩; cases hr2
  · rintro E μ' ⟨hr, _⟩; cases hr
end A
