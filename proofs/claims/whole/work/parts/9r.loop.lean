/-! the law's loop -/
theorem and63 (x : Int32) : ∃ m, m < 64 ∧ x &&& 63 = nI m := pk_andE x 6 rfl
section A
variable {l : Launch} {G : Gh} {k : Nat} {I : Nat → Nat → Int32} {J : Nat → Nat → Int64} {R : Nat → Nat → Option Nat} {S : Nat → Nat × Nat} {nx : Nat} {κ : Nat → Nat} {hb pb : Nat}
variable {mc ms cb sb : Nat} {st : St}
theorem LI.up {hb' pb' : Nat} (h : LI I J R S nx hb pb st) (h1 : hb ≤ hb') (h2 : pb ≤ pb') : LI I J R S nx hb' pb' st := ⟨h.1, h.2.1, h.2.2.1.mono h1 h2, fun i σ e => (h.2.2.2 i σ e).mono h1 h2⟩
theorem law_case {i m : Nat} (hm : m < 64) (hi : i + 6 ≤ G.2.2.2.2.2.1) (hLx : G.2.2.2.2.2.1 ≤ 3072) (hl0 : l.stackTraces = false) (hG : GT G) (h : LI I J R S nx hb pb st) (hhb : hb < 2 ^ 28) (h9 : 999 ≤ hb) (hcb : 1000 ≤ cb) (hsb : 14000 ≤ sb) (K : KL l G k mc ms i hb pb cb sb) : WP l G (k + 106) mc ms mL_law QL 40 (LLoc i) [.int (nI m)] (I, J, R, S, nx) cb sb := by
  obtain ⟨κ, ι, ⟨τ, tm, tn⟩, ⟨t, tp⟩, fk, fp⟩ := st
  by_cases c : 48 ≤ m
  · exact wp_tableOut (tgt := 3550) dL_law_40 (Or.inr (by rw [nI_toInt (by omega)]; omega)) rfl (WP.less (by omega) (by omega) (K I J R S nx _ (h.up (by omega) (by omega))))
  · have hc : m = 0 ∨ m = 1 ∨ m = 2 ∨ m = 3 ∨ m = 4 ∨ m = 5 ∨ m = 6 ∨ m = 7 ∨ m = 8 ∨ m = 9 ∨ m = 10 ∨ m = 11 ∨ m = 12 ∨ m = 13 ∨ m = 14 ∨ m = 15 ∨ m = 16 ∨ m = 17 ∨ m = 18 ∨ m = 19 ∨ m = 20 ∨ m = 21 ∨ m = 22 ∨ m = 23 ∨ m = 24 ∨ m = 25 ∨ m = 26 ∨ m = 27 ∨ m = 28 ∨ m = 29 ∨ m = 30 ∨ m = 31 ∨ m = 32 ∨ m = 33 ∨ m = 34 ∨ m = 35 ∨ m = 36 ∨ m = 37 ∨ m = 38 ∨ m = 39 ∨ m = 40 ∨ m = 41 ∨ m = 42 ∨ m = 43 ∨ m = 44 ∨ m = 45 ∨ m = 46 ∨ m = 47 := by omega
    rcases hc with rfl | rfl | rfl | rfl | rfl | rfl | rfl | rfl | rfl | rfl | rfl | rfl | rfl | rfl | rfl | rfl | rfl | rfl | rfl | rfl | rfl | rfl | rfl | rfl | rfl | rfl | rfl | rfl | rfl | rfl | rfl | rfl | rfl | rfl | rfl | rfl | rfl | rfl | rfl | rfl | rfl | rfl | rfl | rfl | rfl | rfl | rfl | rfl
    · exact wp_tableIn (tgt := 248) dL_law_40 (by decide) (by decide) rfl rfl (case_feed hi hLx hl0 hG h hhb h9 hcb hsb K)
    · exact wp_tableIn (tgt := 321) dL_law_40 (by decide) (by decide) rfl rfl (case_land hi hLx hl0 hG h hhb h9 hcb hsb K)
    · exact wp_tableIn (tgt := 377) dL_law_40 (by decide) (by decide) rfl rfl (case_fault hi hLx hl0 hG h hhb h9 hcb hsb K)
    · exact wp_tableIn (tgt := 402) dL_law_40 (by decide) (by decide) rfl rfl (case_ward hi hLx hl0 hG h hhb h9 hcb hsb K)
    · exact wp_tableIn (tgt := 470) dL_law_40 (by decide) (by decide) rfl rfl (case_act hi hLx hl0 hG h hhb h9 hcb hsb K)
    · exact wp_tableIn (tgt := 538) dL_law_40 (by decide) (by decide) rfl rfl (case_degree hi hLx hl0 hG h hhb h9 hcb hsb K)
    · exact wp_tableIn (tgt := 606) dL_law_40 (by decide) (by decide) rfl rfl (case_code hi hLx hl0 hG h hhb h9 hcb hsb K)
    · exact wp_tableIn (tgt := 674) dL_law_40 (by decide) (by decide) rfl rfl (case_fine hi hLx hl0 hG h hhb h9 hcb hsb K)
    · exact wp_tableIn (tgt := 766) dL_law_40 (by decide) (by decide) rfl rfl (case_lawful hi hLx hl0 hG h hhb h9 hcb hsb K)
    · exact wp_tableIn (tgt := 865) dL_law_40 (by decide) (by decide) rfl rfl (case_fire hi hLx hl0 hG h hhb h9 hcb hsb K)
    · exact wp_tableIn (tgt := 945) dL_law_40 (by decide) (by decide) rfl rfl (case_ice hi hLx hl0 hG h hhb h9 hcb hsb K)
    · exact wp_tableIn (tgt := 1025) dL_law_40 (by decide) (by decide) rfl rfl (case_amend hi hLx hl0 hG h hhb h9 hcb hsb K)
    · exact wp_tableIn (tgt := 1105) dL_law_40 (by decide) (by decide) rfl rfl (case_repeal hi hLx hl0 hG h hhb h9 hcb hsb K)
    · exact wp_tableIn (tgt := 1161) dL_law_40 (by decide) (by decide) rfl rfl (case_hours hi hLx hl0 hG h hhb h9 hcb hsb K)
    · exact wp_tableIn (tgt := 1217) dL_law_40 (by decide) (by decide) rfl rfl (case_done hi hLx hl0 hG h hhb h9 hcb hsb K)
    · exact wp_tableIn (tgt := 1297) dL_law_40 (by decide) (by decide) rfl rfl (case_undo hi hLx hl0 hG h hhb h9 hcb hsb K)
    · exact wp_tableIn (tgt := 1353) dL_law_40 (by decide) (by decide) rfl rfl (case_judge hi hLx hl0 hG h hhb h9 hcb hsb K)
    · exact wp_tableIn (tgt := 1421) dL_law_40 (by decide) (by decide) rfl rfl (case_perform hi hLx hl0 hG h hhb h9 hcb hsb K)
    · exact wp_tableIn (tgt := 1477) dL_law_40 (by decide) (by decide) rfl rfl (case_season hi hLx hl0 hG h hhb h9 hcb hsb K)
    · exact wp_tableIn (tgt := 1545) dL_law_40 (by decide) (by decide) rfl rfl (case_soonest hi hLx hl0 hG h hhb h9 hcb hsb K)
    · exact wp_tableIn (tgt := 1625) dL_law_40 (by decide) (by decide) rfl rfl (case_where hi hLx hl0 hG h hhb h9 hcb hsb K)
    · exact wp_tableIn (tgt := 1693) dL_law_40 (by decide) (by decide) rfl rfl (case_cheapest hi hLx hl0 hG h hhb h9 hcb hsb K)
    · exact wp_tableIn (tgt := 1773) dL_law_40 (by decide) (by decide) rfl rfl (case_freeHours hi hLx hl0 hG h hhb h9 hcb hsb K)
    · exact wp_tableIn (tgt := 1853) dL_law_40 (by decide) (by decide) rfl rfl (case_spell hi hLx hl0 hG h hhb h9 hcb hsb K)
    · exact wp_tableIn (tgt := 1945) dL_law_40 (by decide) (by decide) rfl rfl (case_lawless hi hLx hl0 hG h hhb h9 hcb hsb K)
    · exact wp_tableIn (tgt := 2001) dL_law_40 (by decide) (by decide) rfl rfl (case_alwaysBarred hi hLx hl0 hG h hhb h9 hcb hsb K)
    · exact wp_tableIn (tgt := 2014) dL_law_40 (by decide) (by decide) rfl rfl (case_strictest hi hLx hl0 hG h hhb h9 hcb hsb K)
    · exact wp_tableIn (tgt := 2027) dL_law_40 (by decide) (by decide) rfl rfl (case_heat hi hLx hl0 hG h hhb h9 hcb hsb K)
    · exact wp_tableIn (tgt := 2119) dL_law_40 (by decide) (by decide) rfl rfl (case_leastHeat hi hLx hl0 hG h hhb h9 hcb hsb K)
    · exact wp_tableIn (tgt := 2199) dL_law_40 (by decide) (by decide) rfl rfl (case_cover hi hLx hl0 hG h hhb h9 hcb hsb K)
    · exact wp_tableIn (tgt := 2279) dL_law_40 (by decide) (by decide) rfl rfl (case_widen hi hLx hl0 hG h hhb h9 hcb hsb K)
    · exact wp_tableIn (tgt := 2347) dL_law_40 (by decide) (by decide) rfl rfl (case_heaviest hi hLx hl0 hG h hhb h9 hcb hsb K)
    · exact wp_tableIn (tgt := 2403) dL_law_40 (by decide) (by decide) rfl rfl (case_freeWay hi hLx hl0 hG h hhb h9 hcb hsb K)
    · exact wp_tableIn (tgt := 2483) dL_law_40 (by decide) (by decide) rfl rfl (case_freeAt hi hLx hl0 hG h hhb h9 hcb hsb K)
    · exact wp_tableIn (tgt := 2575) dL_law_40 (by decide) (by decide) rfl rfl (case_wayFine hi hLx hl0 hG h hhb h9 hcb hsb K)
    · exact wp_tableIn (tgt := 2667) dL_law_40 (by decide) (by decide) rfl rfl (case_freeWays hi hLx hl0 hG h hhb h9 hcb hsb K)
    · exact wp_tableIn (tgt := 2758) dL_law_40 (by decide) (by decide) rfl rfl (case_guard hi hLx hl0 hG h hhb h9 hcb hsb K)
    · exact wp_tableIn (tgt := 2838) dL_law_40 (by decide) (by decide) rfl rfl (case_errands hi hLx hl0 hG h hhb h9 hcb hsb K)
    · exact wp_tableIn (tgt := 2894) dL_law_40 (by decide) (by decide) rfl rfl (case_bestOrder hi hLx hl0 hG h hhb h9 hcb hsb K)
    · exact wp_tableIn (tgt := 2962) dL_law_40 (by decide) (by decide) rfl rfl (case_seen hi hLx hl0 hG h hhb h9 hcb hsb K)
    · exact wp_tableIn (tgt := 3042) dL_law_40 (by decide) (by decide) rfl rfl (case_breath hi hLx hl0 hG h hhb h9 hcb hsb K)
    · exact wp_tableIn (tgt := 3134) dL_law_40 (by decide) (by decide) rfl rfl (case_look hi hLx hl0 hG h hhb h9 hcb hsb K)
    · exact wp_tableIn (tgt := 3214) dL_law_40 (by decide) (by decide) rfl rfl (case_tray hi hLx hl0 hG h hhb h9 hcb hsb K)
    · exact wp_tableIn (tgt := 3274) dL_law_40 (by decide) (by decide) rfl rfl (case_write hi hLx hl0 hG h hhb h9 hcb hsb K)
    · exact wp_tableIn (tgt := 3385) dL_law_40 (by decide) (by decide) rfl rfl (case_copy hi hLx hl0 hG h hhb h9 hcb hsb K)
    · exact wp_tableIn (tgt := 3453) dL_law_40 (by decide) (by decide) rfl rfl (case_image hi hLx hl0 hG h hhb h9 hcb hsb K)
    · exact wp_tableIn (tgt := 3489) dL_law_40 (by decide) (by decide) rfl rfl (case_restore hi hLx hl0 hG h hhb h9 hcb hsb K)
    · exact wp_tableIn (tgt := 3525) dL_law_40 (by decide) (by decide) rfl rfl (case_count hi hLx hl0 hG h hhb h9 hcb hsb K)
theorem law_loop (hLx : G.2.2.2.2.2.1 ≤ 3072) (hl0 : l.stackTraces = false) (hG : GT G) : ∀ (d n : Nat) (I : Nat → Nat → Int32) (J : Nat → Nat → Int64) (R : Nat → Nat → Option Nat) (S : Nat → Nat × Nat) (nx : Nat) (st : St) (cb sb : Nat), G.2.2.2.2.2.1 ≤ 6 * n + d → LI I J R S nx (999 + 720 * n) (570240 * n) st → n ≤ 512 → 512000 ≤ cb + 1000 * n → 7168000 ≤ sb + 14000 * n → WP l G (k + 106) mc ms mL_law QL 23 (LLoc (6 * n)) [] (I, J, R, S, nx) cb sb := by
  intro d
  have ex : ∀ (n : Nat) (I : Nat → Nat → Int32) (J : Nat → Nat → Int64) (R : Nat → Nat → Option Nat) (S : Nat → Nat × Nat) (nx cb sb : Nat), WP l G (k + 106) mc ms mL_law QL 3556 (LLoc (6 * n)) [] (I, J, R, S, nx) cb sb := fun n I J R S nx cb sb => wp_iconst (q := 3557) dL_law_3556 rfl ki_1 (wp_zreturn dL_law_3557 rfl rfl rfl)
  have head : ∀ (n : Nat) (I : Nat → Nat → Int32) (J : Nat → Nat → Int64) (R : Nat → Nat → Option Nat) (S : Nat → Nat × Nat) (nx cb sb : Nat), n ≤ 512 → (6 * n + 6 ≤ G.2.2.2.2.2.1 → WP l G (k + 106) mc ms mL_law QL 33 (LLoc (6 * n)) [] (I, J, R, S, nx) cb sb) → WP l G (k + 106) mc ms mL_law QL 23 (LLoc (6 * n)) [] (I, J, R, S, nx) cb sb := fun n I J R S nx cb sb hn5 h => by
    refine wp_iload (q := 25) dL_law_23 rfl rfl (wp_sload_n (q := 26) dL_law_25 rfl rfl rfl (wp_xlen (q := 27) dL_law_26 rfl (wp_bipush (q := 29) dL_law_27 rfl kb_6 (wp_isub (q := 30) dL_law_29 rfl (wp_icmp_gt (q := 33) (tgt := 3556) dL_law_30 rfl rfl (fun _ => ex n I J R S nx cb sb) (fun c => h ?_))))))
    have e0 : Int32.ofNat G.2.2.2.2.2.1 = nI G.2.2.2.2.2.1 := rfl
    rw [e0] at c
    by_cases c6 : 6 ≤ G.2.2.2.2.2.1
    · rw [show (6 : Int32) = nI 6 from rfl, pk_sub c6] at c
      by_cases cc : 6 * n + 6 ≤ G.2.2.2.2.2.1
      · exact cc
      · by_cases cn : 6 * n < 2 ^ 31
        · exact absurd ((nI_ltI (by omega) cn).mpr (by omega)) c
        · exact absurd (by omega) cn
    · refine absurd ?_ c
      have hn0 : 6 * n < 2 ^ 31 := by omega
      rw [fa_lt, nI_toInt hn0]
      have : ∀ z, z < 6 → (nI z - 6).toInt < 0 := by decide
      have := this G.2.2.2.2.2.1 (by omega)
      omega
  induction d with
  | zero =>
    intro n I J R S nx st cb sb hd h hn5 hcb hsb
    exact head n I J R S nx cb sb hn5 (fun g => by omega)
  | succ d ih =>
    intro n I J R S nx st cb sb hd h hn5 hcb hsb
    refine head n I J R S nx cb sb hn5 (fun g => ?_)
    obtain ⟨m, hm, em⟩ := and63 (G.2.2.2.2.2.2 (6 * n))
    refine wp_sload_n (q := 34) dL_law_33 rfl rfl rfl (wp_iload (q := 36) dL_law_34 rfl rfl (wp_xld (q := 37) dL_law_36 rfl (vp_in_nI (by omega) (by omega)) ?_))
    rw [nI_clamp (by omega)]
    refine wp_bipush (q := 39) dL_law_37 rfl kb_63 (wp_iand (q := 40) dL_law_39 rfl ?_)
    rw [em]
    refine law_case hm g hLx hl0 hG h (by omega) (by omega) (by omega) (by omega) (fun I1 J1 R1 S1 n1 st1 h1 => ?_)
    refine wp_iinc (L' := LLoc (6 * (n + 1))) (q := 3553) dL_law_3550 rfl rfl (v := nI (6 * (n + 1))) (by rw [show Int32.ofInt 6 = nI 6 from rfl, nI_add]; congr 1) (by decide) rfl (wp_goto (tgt := 23) dL_law_3553 rfl ?_)
    exact ih (n + 1) I1 J1 R1 S1 n1 st1 _ _ (by omega) (h1.up (by omega) (by omega)) (by omega) (by omega) (by omega)
end A
