/-! the law's wrappers: what a call answers, or which throw was caught -/
def WQ (μ : Mem) (n : Nat) (v : Int64) (st' : St) : Res → Mem → Prop := fun r μ' => r = .inl (some (.int (nI n))) ∧ KG μ μ' ∧ CI μ' st' ∧ (n = 0 → μ'.2.1 71 0 = v)
theorem ansR_l {Es : List String} {a : Nat × Int32} {r : Option Value} (h : (.inl r : Res) = ansR Es a) : a.1 = 0 ∧ r = some (.int a.2) := by
  unfold ansR at h
  split at h
  · rename_i g; exact ⟨g, Sum.inl.inj h⟩
  · cases h
theorem ansR_r {Es : List String} {a : Nat × Int32} {E : String} (h : (.inr E : Res) = ansR Es a) : a.1 ≠ 0 ∧ E = Es.getD (a.1 - 1) "" := by
  unfold ansR at h
  split at h
  · cases h
  · rename_i g; exact ⟨g, Sum.inr.inj h⟩
theorem ansJ_l {Es : List String} {a : Nat × Int64} {r : Option Value} (h : (.inl r : Res) = ansJ Es a) : a.1 = 0 ∧ r = some (.long a.2) := by
  unfold ansJ at h
  split at h
  · rename_i g; exact ⟨g, Sum.inl.inj h⟩
  · cases h
theorem ansJ_r {Es : List String} {a : Nat × Int64} {E : String} (h : (.inr E : Res) = ansJ Es a) : a.1 ≠ 0 ∧ E = Es.getD (a.1 - 1) "" := by
  unfold ansJ at h
  split at h
  · cases h
  · rename_i g; exact ⟨g, Sum.inr.inj h⟩
theorem ansV_l {Es : List String} {a : Nat} {r : Option Value} (h : (.inl r : Res) = ansV Es a) : a = 0 ∧ r = none := by
  unfold ansV at h
  split at h
  · rename_i g; exact ⟨g, Sum.inl.inj h⟩
  · cases h
theorem ansV_r {Es : List String} {a : Nat} {E : String} (h : (.inr E : Res) = ansV Es a) : a ≠ 0 ∧ E = Es.getD (a - 1) "" := by
  unfold ansV at h
  split at h
  · cases h
  · rename_i g; exact ⟨g, Sum.inr.inj h⟩
theorem gDl (κ : Nat → Nat) (x1 x2 x3 x4 : Int32) : gD κ x1 x2 x3 x4 ≤ 2 := by unfold gD; split <;> (try split) <;> decide
theorem laR_0 {κ : Nat → Nat} {Y : Er ⊕ Ln} : (laR κ Y).1.1 = 0 := by cases Y <;> rfl
section A
variable {l : Launch} {G : Gh} {k : Nat} {I : Nat → Nat → Int32} {J : Nat → Nat → Int64} {R : Nat → Nat → Option Nat} {S : Nat → Nat × Nat} {nx : Nat} {κ : Nat → Nat} {hb pb : Nat}
variable {ι : Nat → Option (Nat → Nat)} {τ tm : Nat → Nat} {tn : Nat → Nat → Int64} {tp : Nat} {fk fp : Int32} {t : Nat → Nat} {st : St}
theorem CI.s0 (h : CI (I, J, R, S, nx) st) : (S 0).1 = 11 ∧ 72 ≤ nx := by
  obtain ⟨ow, L, dl, pl, ld, lp, hR, wL, hL, hN, hV, hP⟩ := h
  exact ⟨cf_o hR.1 (q := (0, 11)) (by decide), hR.1.1⟩
abbrev mL_land : Mt := (yL_land, cL_land, 4, (some .int), [(0, 9, 12, 13)])
theorem cwL_land : Cond.codeWith yL_land cL_land 4 (some .int) [(0, 9, 12, 13)] ∈ TW := List.mem_filter.mpr ⟨tt_2 (List.mem_of_getElem? (i := 140) rfl), rfl⟩
theorem okL_land : mOKw mL_land 3 := ⟨cwL_land, in_RL, rfl, ⟨by decide, by decide⟩, by decide +kernel, by decide⟩
theorem W_land {x1 : Int32} (hl0 : l.stackTraces = false) (hG : GT G) (hC : CI (I, J, R, S, nx) (κ, ι, (τ, tm, tn), (t, tp), fk, fp)) (h71 : S 71 = (101, 1)) (hs : sok hb pb κ) (hhb : hb < 2 ^ 28) : Cal l G (k + 105) 1000 14000 mL_land [.ref 0, .int x1, .ref 71] (I, J, R, S, nx) (WQ (I, J, R, S, nx) (aLand κ t tp fk fp x1).1.1 (Int32.toInt64 (aLand κ t tp fk fp x1).1.2) ((aLand κ t tp fk fp x1).2.1, ι, (τ, tm, tn), (t, (aLand κ t tp fk fp x1).2.2.1), (aLand κ t tp fk fp x1).2.2.2.1, (aLand κ t tp fk fp x1).2.2.2.2)) := by
  obtain ⟨hs0, h72⟩ := hC.s0
  have hle : (aLand κ t tp fk fp x1).1.1 ≤ 1 := by unfold aLand; (repeat' split) <;> first | exact Nat.zero_le _ | exact Nat.le_of_ble_eq_true rfl | exact gDl _ _ _ _ _ | exact gY_le _ _ _ _ | exact Nat.le_trans (gT_le _ _) (by decide) | exact gE_le _ _ _ _ _ | exact gS_le _ _ _ _ _ _ _ | (rw [laR_0]; exact Nat.zero_le _)
  refine Cal.ofW rfl (by decide +kernel) (by simp) (Nat.le_of_ble_eq_true rfl) rfl (wp_aload_n (q := 1) dL_land_0 rfl rfl rfl (wp_iconst (q := 2) dL_land_1 rfl ki_0 (wp_aload_n (q := 3) dL_land_2 rfl rfl rfl (wp_iload_n (q := 4) dL_land_3 rfl rfl rfl (wp_invVC (q := 7) (As := [.int x1]) (t := 11) (i := 3) (mc' := 1000) (ms' := 14000) dL_land_4 rfl ok_X11_land ml_RL_7 im_X11_land se_X11_land (by decide) ⟨_, rfl, rfl⟩ (by show 0 < nx; omega) hs0 rfl rfl (Nat.le_of_ble_eq_true rfl) (by decide) (by decide) (land_p (k := k + 1) hG hl0 hC hs hhb) (locOK [some (.ref 0), some (.int x1)] (.ref 71) rfl) ?_ ?_)))))
  · rintro r ⟨I1, J1, R1, S1, n1⟩ ⟨hr, hK, hC2⟩
    obtain ⟨e0, rfl⟩ := ansR_l hr
    have hn1 : nx ≤ n1 := hK.1
    have s71 : S1 71 = (101, 1) := (hK.2 71 (by decide) (by decide)).2.2.2.trans h71
    exact wp_i2l (q := 8) dL_land_7 rfl (wp_lastoreC (q := 9) dL_land_8 rfl (by omega) s71 cn_0 cz_0 (Nat.le_of_ble_eq_true rfl) (wp_goto (tgt := 15) dL_land_9 rfl (wp_iconst (q := 16) dL_land_15 rfl ki_0 (wp_ireturn dL_land_16 rfl ⟨by rw [e0]; rfl, hK.g.j, hC2.j71, fun _ => Eq.trans (up2_h (f := J1) (a := 71) (i := 0) (j := 0)) (if_pos rfl)⟩))))
  · rintro E μ' ⟨hr, hK, hC2⟩
    obtain ⟨e0, hE⟩ := ansR_r hr
    have e : (aLand κ t tp fk fp x1).1.1 = 1 := by omega
    · have hE2 : E = eIA := by rw [hE, e]; rfl
      subst hE2
      exact ⟨13, ⟨[], [], ⟨0, 9, 12, 13⟩, 1, rfl, (fun _ h => absurd h List.not_mem_nil), by decide, by decide, cl_RL_13, by decide, (Or.inl ⟨_, dL_land_12, rfl, rfl⟩), by decide, rfl⟩, wp_iconst (q := 14) dL_land_13 rfl ki_1 (wp_ireturn dL_land_14 rfl ⟨by rw [e]; rfl, hK.g, hC2, fun h => by rw [e] at h; cases h⟩)⟩
abbrev mL_ward : Mt := (yL_ward, cL_ward, 5, (some .int), [(0, 10, 13, 19), (0, 10, 17, 13)])
theorem cwL_ward : Cond.codeWith yL_ward cL_ward 5 (some .int) [(0, 10, 13, 19), (0, 10, 17, 13)] ∈ TW := List.mem_filter.mpr ⟨tt_3 (List.mem_of_getElem? (i := 149) rfl), rfl⟩
theorem okL_ward : mOKw mL_ward 4 := ⟨cwL_ward, in_RL, rfl, ⟨by decide, by decide⟩, by decide +kernel, by decide⟩
theorem W_ward {x1 : Int32} {x2 : Int32} (hl0 : l.stackTraces = false) (hG : GT G) (hC : CI (I, J, R, S, nx) (κ, ι, (τ, tm, tn), (t, tp), fk, fp)) (h71 : S 71 = (101, 1)) (hs : sok hb pb κ) (hhb : hb < 2 ^ 28) : Cal l G (k + 105) 1000 14000 mL_ward [.ref 0, .int x1, .int x2, .ref 71] (I, J, R, S, nx) (WQ (I, J, R, S, nx) (aWard κ x1 x2).1 (Int32.toInt64 (aWard κ x1 x2).2) (κ, ι, (τ, tm, tn), (t, tp), fk, fp)) := by
  obtain ⟨hs0, h72⟩ := hC.s0
  have hle : (aWard κ x1 x2).1 ≤ 2 := by unfold aWard; (repeat' split) <;> first | exact Nat.zero_le _ | exact Nat.le_of_ble_eq_true rfl | exact gDl _ _ _ _ _ | exact gY_le _ _ _ _ | exact Nat.le_trans (gT_le _ _) (by decide) | exact gE_le _ _ _ _ _ | exact gS_le _ _ _ _ _ _ _ | (rw [laR_0]; exact Nat.zero_le _)
  refine Cal.ofW rfl (by decide +kernel) (by simp) (Nat.le_of_ble_eq_true rfl) rfl (wp_aload_n (q := 1) dL_ward_0 rfl rfl rfl (wp_iconst (q := 2) dL_ward_1 rfl ki_0 (wp_aload_n (q := 3) dL_ward_2 rfl rfl rfl (wp_iload_n (q := 4) dL_ward_3 rfl rfl rfl (wp_iload_n (q := 5) dL_ward_4 rfl rfl rfl (wp_invVC (q := 8) (As := [.int x1, .int x2]) (t := 11) (i := 4) (mc' := 40) (ms' := 14000) dL_ward_5 rfl ok_X11_ward ml_RL_15 im_X11_ward se_X11_ward (by decide) ⟨_, rfl, rfl⟩ (by show 0 < nx; omega) hs0 rfl rfl (Nat.le_of_ble_eq_true rfl) (by decide) (by decide) (ward_p (k := k + 103) hl0 hC hs hhb) (locOK [some (.ref 0), some (.int x1), some (.int x2)] (.ref 71) rfl) ?_ ?_))))))
  · rintro r ⟨I1, J1, R1, S1, n1⟩ ⟨hr, hK, hC2⟩
    obtain ⟨e0, rfl⟩ := ansR_l hr
    have hn1 : nx ≤ n1 := hK.1
    have s71 : S1 71 = (101, 1) := (hK.2 71 (by decide) (by decide)).2.2.2.trans h71
    exact wp_i2l (q := 9) dL_ward_8 rfl (wp_lastoreC (q := 10) dL_ward_9 rfl (by omega) s71 cn_0 cz_0 (Nat.le_of_ble_eq_true rfl) (wp_goto (tgt := 21) dL_ward_10 rfl (wp_iconst (q := 22) dL_ward_21 rfl ki_0 (wp_ireturn dL_ward_22 rfl ⟨by rw [e0]; rfl, hK.g.j, hC2.j71, fun _ => Eq.trans (up2_h (f := J1) (a := 71) (i := 0) (j := 0)) (if_pos rfl)⟩))))
  · rintro E μ' ⟨hr, hK, hC2⟩
    obtain ⟨e0, hE⟩ := ansR_r hr
    have hc : (aWard κ x1 x2).1 = 1 ∨ (aWard κ x1 x2).1 = 2 := by omega
    rcases hc with e | e
    · have hE2 : E = eNS := by rw [hE, e]; rfl
      subst hE2
      exact ⟨15, ⟨[], [⟨0, 10, 17, 13⟩], ⟨0, 10, 13, 19⟩, 2, rfl, (fun _ h => absurd h List.not_mem_nil), by decide, by decide, cl_RL_19, by decide, (Or.inr ⟨dL_ward_13, rfl⟩), by decide, rfl⟩, wp_iconst (q := 16) dL_ward_15 rfl ki_1 (wp_ireturn dL_ward_16 rfl ⟨by rw [e]; rfl, hK.g, hC2, fun h => by rw [e] at h; cases h⟩)⟩
    · have hE2 : E = eIA := by rw [hE, e]; rfl
      subst hE2
      exact ⟨19, ⟨[⟨0, 10, 13, 19⟩], [], ⟨0, 10, 17, 13⟩, 2, rfl, (List.forall_mem_cons.mpr ⟨Or.inr ⟨by decide, _, cl_RL_19, by decide, by decide⟩, (fun _ h => absurd h List.not_mem_nil)⟩), by decide, by decide, cl_RL_13, by decide, (Or.inr ⟨dL_ward_17, rfl⟩), by decide, rfl⟩, wp_iconst (q := 20) dL_ward_19 rfl ki_2 (wp_ireturn dL_ward_20 rfl ⟨by rw [e]; rfl, hK.g, hC2, fun h => by rw [e] at h; cases h⟩)⟩
abbrev mL_act : Mt := (yL_act, cL_act, 5, (some .int), [(0, 10, 13, 19), (0, 10, 17, 13)])
theorem cwL_act : Cond.codeWith yL_act cL_act 5 (some .int) [(0, 10, 13, 19), (0, 10, 17, 13)] ∈ TW := List.mem_filter.mpr ⟨tt_3 (List.mem_of_getElem? (i := 179) rfl), rfl⟩
theorem okL_act : mOKw mL_act 4 := ⟨cwL_act, in_RL, rfl, ⟨by decide, by decide⟩, by decide +kernel, by decide⟩
theorem W_act {x1 : Int32} {x2 : Int32} (hl0 : l.stackTraces = false) (hG : GT G) (hC : CI (I, J, R, S, nx) (κ, ι, (τ, tm, tn), (t, tp), fk, fp)) (h71 : S 71 = (101, 1)) (hs : sok hb pb κ) (hhb : hb < 2 ^ 28) : Cal l G (k + 105) 1000 14000 mL_act [.ref 0, .int x1, .int x2, .ref 71] (I, J, R, S, nx) (WQ (I, J, R, S, nx) (aAct κ x1 x2).1 (Int32.toInt64 (aAct κ x1 x2).2) (κ, ι, (τ, tm, tn), (t, tp), fk, fp)) := by
  obtain ⟨hs0, h72⟩ := hC.s0
  have hle : (aAct κ x1 x2).1 ≤ 2 := by unfold aAct; (repeat' split) <;> first | exact Nat.zero_le _ | exact Nat.le_of_ble_eq_true rfl | exact gDl _ _ _ _ _ | exact gY_le _ _ _ _ | exact Nat.le_trans (gT_le _ _) (by decide) | exact gE_le _ _ _ _ _ | exact gS_le _ _ _ _ _ _ _ | (rw [laR_0]; exact Nat.zero_le _)
  refine Cal.ofW rfl (by decide +kernel) (by simp) (Nat.le_of_ble_eq_true rfl) rfl (wp_aload_n (q := 1) dL_act_0 rfl rfl rfl (wp_iconst (q := 2) dL_act_1 rfl ki_0 (wp_aload_n (q := 3) dL_act_2 rfl rfl rfl (wp_iload_n (q := 4) dL_act_3 rfl rfl rfl (wp_iload_n (q := 5) dL_act_4 rfl rfl rfl (wp_invVC (q := 8) (As := [.int x1, .int x2]) (t := 11) (i := 4) (mc' := 40) (ms' := 14000) dL_act_5 rfl ok_X11_act ml_RL_21 im_X11_act se_X11_act (by decide) ⟨_, rfl, rfl⟩ (by show 0 < nx; omega) hs0 rfl rfl (Nat.le_of_ble_eq_true rfl) (by decide) (by decide) (act_p (k := k + 103) hl0 hC hs hhb) (locOK [some (.ref 0), some (.int x1), some (.int x2)] (.ref 71) rfl) ?_ ?_))))))
  · rintro r ⟨I1, J1, R1, S1, n1⟩ ⟨hr, hK, hC2⟩
    obtain ⟨e0, rfl⟩ := ansR_l hr
    have hn1 : nx ≤ n1 := hK.1
    have s71 : S1 71 = (101, 1) := (hK.2 71 (by decide) (by decide)).2.2.2.trans h71
    exact wp_i2l (q := 9) dL_act_8 rfl (wp_lastoreC (q := 10) dL_act_9 rfl (by omega) s71 cn_0 cz_0 (Nat.le_of_ble_eq_true rfl) (wp_goto (tgt := 21) dL_act_10 rfl (wp_iconst (q := 22) dL_act_21 rfl ki_0 (wp_ireturn dL_act_22 rfl ⟨by rw [e0]; rfl, hK.g.j, hC2.j71, fun _ => Eq.trans (up2_h (f := J1) (a := 71) (i := 0) (j := 0)) (if_pos rfl)⟩))))
  · rintro E μ' ⟨hr, hK, hC2⟩
    obtain ⟨e0, hE⟩ := ansR_r hr
    have hc : (aAct κ x1 x2).1 = 1 ∨ (aAct κ x1 x2).1 = 2 := by omega
    rcases hc with e | e
    · have hE2 : E = eNS := by rw [hE, e]; rfl
      subst hE2
      exact ⟨15, ⟨[], [⟨0, 10, 17, 13⟩], ⟨0, 10, 13, 19⟩, 2, rfl, (fun _ h => absurd h List.not_mem_nil), by decide, by decide, cl_RL_19, by decide, (Or.inr ⟨dL_act_13, rfl⟩), by decide, rfl⟩, wp_iconst (q := 16) dL_act_15 rfl ki_1 (wp_ireturn dL_act_16 rfl ⟨by rw [e]; rfl, hK.g, hC2, fun h => by rw [e] at h; cases h⟩)⟩
    · have hE2 : E = eIA := by rw [hE, e]; rfl
      subst hE2
      exact ⟨19, ⟨[⟨0, 10, 13, 19⟩], [], ⟨0, 10, 17, 13⟩, 2, rfl, (List.forall_mem_cons.mpr ⟨Or.inr ⟨by decide, _, cl_RL_19, by decide, by decide⟩, (fun _ h => absurd h List.not_mem_nil)⟩), by decide, by decide, cl_RL_13, by decide, (Or.inr ⟨dL_act_17, rfl⟩), by decide, rfl⟩, wp_iconst (q := 20) dL_act_19 rfl ki_2 (wp_ireturn dL_act_20 rfl ⟨by rw [e]; rfl, hK.g, hC2, fun h => by rw [e] at h; cases h⟩)⟩
abbrev mL_degree : Mt := (yL_degree, cL_degree, 5, (some .int), [(0, 10, 13, 19), (0, 10, 17, 13)])
theorem cwL_degree : Cond.codeWith yL_degree cL_degree 5 (some .int) [(0, 10, 13, 19), (0, 10, 17, 13)] ∈ TW := List.mem_filter.mpr ⟨tt_3 (List.mem_of_getElem? (i := 195) rfl), rfl⟩
theorem okL_degree : mOKw mL_degree 4 := ⟨cwL_degree, in_RL, rfl, ⟨by decide, by decide⟩, by decide +kernel, by decide⟩
theorem W_degree {x1 : Int32} {x2 : Int32} (hl0 : l.stackTraces = false) (hG : GT G) (hC : CI (I, J, R, S, nx) (κ, ι, (τ, tm, tn), (t, tp), fk, fp)) (h71 : S 71 = (101, 1)) (hs : sok hb pb κ) (hhb : hb < 2 ^ 28) : Cal l G (k + 105) 1000 14000 mL_degree [.ref 0, .int x1, .int x2, .ref 71] (I, J, R, S, nx) (WQ (I, J, R, S, nx) (aDegree κ x1 x2).1 (Int32.toInt64 (aDegree κ x1 x2).2) (κ, ι, (τ, tm, tn), (t, tp), fk, fp)) := by
  obtain ⟨hs0, h72⟩ := hC.s0
  have hle : (aDegree κ x1 x2).1 ≤ 2 := by unfold aDegree; (repeat' split) <;> first | exact Nat.zero_le _ | exact Nat.le_of_ble_eq_true rfl | exact gDl _ _ _ _ _ | exact gY_le _ _ _ _ | exact Nat.le_trans (gT_le _ _) (by decide) | exact gE_le _ _ _ _ _ | exact gS_le _ _ _ _ _ _ _ | (rw [laR_0]; exact Nat.zero_le _)
  refine Cal.ofW rfl (by decide +kernel) (by simp) (Nat.le_of_ble_eq_true rfl) rfl (wp_aload_n (q := 1) dL_degree_0 rfl rfl rfl (wp_iconst (q := 2) dL_degree_1 rfl ki_0 (wp_aload_n (q := 3) dL_degree_2 rfl rfl rfl (wp_iload_n (q := 4) dL_degree_3 rfl rfl rfl (wp_iload_n (q := 5) dL_degree_4 rfl rfl rfl (wp_invVC (q := 8) (As := [.int x1, .int x2]) (t := 11) (i := 4) (mc' := 40) (ms' := 14000) dL_degree_5 rfl ok_X11_degree ml_RL_24 im_X11_degree se_X11_degree (by decide) ⟨_, rfl, rfl⟩ (by show 0 < nx; omega) hs0 rfl rfl (Nat.le_of_ble_eq_true rfl) (by decide) (by decide) (degree_p (k := k + 101) hl0 hC hs hhb) (locOK [some (.ref 0), some (.int x1), some (.int x2)] (.ref 71) rfl) ?_ ?_))))))
  · rintro r ⟨I1, J1, R1, S1, n1⟩ ⟨hr, hK, hC2⟩
    obtain ⟨e0, rfl⟩ := ansR_l hr
    have hn1 : nx ≤ n1 := hK.1
    have s71 : S1 71 = (101, 1) := (hK.2 71 (by decide) (by decide)).2.2.2.trans h71
    exact wp_i2l (q := 9) dL_degree_8 rfl (wp_lastoreC (q := 10) dL_degree_9 rfl (by omega) s71 cn_0 cz_0 (Nat.le_of_ble_eq_true rfl) (wp_goto (tgt := 21) dL_degree_10 rfl (wp_iconst (q := 22) dL_degree_21 rfl ki_0 (wp_ireturn dL_degree_22 rfl ⟨by rw [e0]; rfl, hK.g.j, hC2.j71, fun _ => Eq.trans (up2_h (f := J1) (a := 71) (i := 0) (j := 0)) (if_pos rfl)⟩))))
  · rintro E μ' ⟨hr, hK, hC2⟩
    obtain ⟨e0, hE⟩ := ansR_r hr
    have hc : (aDegree κ x1 x2).1 = 1 ∨ (aDegree κ x1 x2).1 = 2 := by omega
    rcases hc with e | e
    · have hE2 : E = eNS := by rw [hE, e]; rfl
      subst hE2
      exact ⟨15, ⟨[], [⟨0, 10, 17, 13⟩], ⟨0, 10, 13, 19⟩, 2, rfl, (fun _ h => absurd h List.not_mem_nil), by decide, by decide, cl_RL_19, by decide, (Or.inr ⟨dL_degree_13, rfl⟩), by decide, rfl⟩, wp_iconst (q := 16) dL_degree_15 rfl ki_1 (wp_ireturn dL_degree_16 rfl ⟨by rw [e]; rfl, hK.g, hC2, fun h => by rw [e] at h; cases h⟩)⟩
    · have hE2 : E = eIA := by rw [hE, e]; rfl
      subst hE2
      exact ⟨19, ⟨[⟨0, 10, 13, 19⟩], [], ⟨0, 10, 17, 13⟩, 2, rfl, (List.forall_mem_cons.mpr ⟨Or.inr ⟨by decide, _, cl_RL_19, by decide, by decide⟩, (fun _ h => absurd h List.not_mem_nil)⟩), by decide, by decide, cl_RL_13, by decide, (Or.inr ⟨dL_degree_17, rfl⟩), by decide, rfl⟩, wp_iconst (q := 20) dL_degree_19 rfl ki_2 (wp_ireturn dL_degree_20 rfl ⟨by rw [e]; rfl, hK.g, hC2, fun h => by rw [e] at h; cases h⟩)⟩
abbrev mL_code : Mt := (yL_code, cL_code, 5, (some .int), [(0, 10, 13, 19), (0, 10, 17, 13)])
theorem cwL_code : Cond.codeWith yL_code cL_code 5 (some .int) [(0, 10, 13, 19), (0, 10, 17, 13)] ∈ TW := List.mem_filter.mpr ⟨tt_3 (List.mem_of_getElem? (i := 203) rfl), rfl⟩
theorem okL_code : mOKw mL_code 4 := ⟨cwL_code, in_RL, rfl, ⟨by decide, by decide⟩, by decide +kernel, by decide⟩
theorem W_code {x1 : Int32} {x2 : Int32} (hl0 : l.stackTraces = false) (hG : GT G) (hC : CI (I, J, R, S, nx) (κ, ι, (τ, tm, tn), (t, tp), fk, fp)) (h71 : S 71 = (101, 1)) (hs : sok hb pb κ) (hhb : hb < 2 ^ 28) : Cal l G (k + 105) 1000 14000 mL_code [.ref 0, .int x1, .int x2, .ref 71] (I, J, R, S, nx) (WQ (I, J, R, S, nx) (aCode κ x1 x2).1 (Int32.toInt64 (aCode κ x1 x2).2) (κ, ι, (τ, tm, tn), (t, tp), fk, fp)) := by
  obtain ⟨hs0, h72⟩ := hC.s0
  have hle : (aCode κ x1 x2).1 ≤ 2 := by unfold aCode; (repeat' split) <;> first | exact Nat.zero_le _ | exact Nat.le_of_ble_eq_true rfl | exact gDl _ _ _ _ _ | exact gY_le _ _ _ _ | exact Nat.le_trans (gT_le _ _) (by decide) | exact gE_le _ _ _ _ _ | exact gS_le _ _ _ _ _ _ _ | (rw [laR_0]; exact Nat.zero_le _)
  refine Cal.ofW rfl (by decide +kernel) (by simp) (Nat.le_of_ble_eq_true rfl) rfl (wp_aload_n (q := 1) dL_code_0 rfl rfl rfl (wp_iconst (q := 2) dL_code_1 rfl ki_0 (wp_aload_n (q := 3) dL_code_2 rfl rfl rfl (wp_iload_n (q := 4) dL_code_3 rfl rfl rfl (wp_iload_n (q := 5) dL_code_4 rfl rfl rfl (wp_invVC (q := 8) (As := [.int x1, .int x2]) (t := 11) (i := 4) (mc' := 40) (ms' := 14000) dL_code_5 rfl ok_X11_code ml_RL_27 im_X11_code se_X11_code (by decide) ⟨_, rfl, rfl⟩ (by show 0 < nx; omega) hs0 rfl rfl (Nat.le_of_ble_eq_true rfl) (by decide) (by decide) (code_p (k := k + 100) hl0 hC hs hhb) (locOK [some (.ref 0), some (.int x1), some (.int x2)] (.ref 71) rfl) ?_ ?_))))))
  · rintro r ⟨I1, J1, R1, S1, n1⟩ ⟨hr, hK, hC2⟩
    obtain ⟨e0, rfl⟩ := ansR_l hr
    have hn1 : nx ≤ n1 := hK.1
    have s71 : S1 71 = (101, 1) := (hK.2 71 (by decide) (by decide)).2.2.2.trans h71
    exact wp_i2l (q := 9) dL_code_8 rfl (wp_lastoreC (q := 10) dL_code_9 rfl (by omega) s71 cn_0 cz_0 (Nat.le_of_ble_eq_true rfl) (wp_goto (tgt := 21) dL_code_10 rfl (wp_iconst (q := 22) dL_code_21 rfl ki_0 (wp_ireturn dL_code_22 rfl ⟨by rw [e0]; rfl, hK.g.j, hC2.j71, fun _ => Eq.trans (up2_h (f := J1) (a := 71) (i := 0) (j := 0)) (if_pos rfl)⟩))))
  · rintro E μ' ⟨hr, hK, hC2⟩
    obtain ⟨e0, hE⟩ := ansR_r hr
    have hc : (aCode κ x1 x2).1 = 1 ∨ (aCode κ x1 x2).1 = 2 := by omega
    rcases hc with e | e
    · have hE2 : E = eNS := by rw [hE, e]; rfl
      subst hE2
      exact ⟨15, ⟨[], [⟨0, 10, 17, 13⟩], ⟨0, 10, 13, 19⟩, 2, rfl, (fun _ h => absurd h List.not_mem_nil), by decide, by decide, cl_RL_19, by decide, (Or.inr ⟨dL_code_13, rfl⟩), by decide, rfl⟩, wp_iconst (q := 16) dL_code_15 rfl ki_1 (wp_ireturn dL_code_16 rfl ⟨by rw [e]; rfl, hK.g, hC2, fun h => by rw [e] at h; cases h⟩)⟩
    · have hE2 : E = eIA := by rw [hE, e]; rfl
      subst hE2
      exact ⟨19, ⟨[⟨0, 10, 13, 19⟩], [], ⟨0, 10, 17, 13⟩, 2, rfl, (List.forall_mem_cons.mpr ⟨Or.inr ⟨by decide, _, cl_RL_19, by decide, by decide⟩, (fun _ h => absurd h List.not_mem_nil)⟩), by decide, by decide, cl_RL_13, by decide, (Or.inr ⟨dL_code_17, rfl⟩), by decide, rfl⟩, wp_iconst (q := 20) dL_code_19 rfl ki_2 (wp_ireturn dL_code_20 rfl ⟨by rw [e]; rfl, hK.g, hC2, fun h => by rw [e] at h; cases h⟩)⟩
abbrev mL_fine : Mt := (yL_fine, cL_fine, 7, (some .int), [(0, 14, 17, 19), (0, 14, 21, 13)])
theorem cwL_fine : Cond.codeWith yL_fine cL_fine 7 (some .int) [(0, 14, 17, 19), (0, 14, 21, 13)] ∈ TW := List.mem_filter.mpr ⟨tt_3 (List.mem_of_getElem? (i := 210) rfl), rfl⟩
theorem okL_fine : mOKw mL_fine 6 := ⟨cwL_fine, in_RL, rfl, ⟨by decide, by decide⟩, by decide +kernel, by decide⟩
theorem W_fine {x1 : Int32} {x2 : Int32} {x3 : Int32} {x4 : Int32} (hl0 : l.stackTraces = false) (hG : GT G) (hC : CI (I, J, R, S, nx) (κ, ι, (τ, tm, tn), (t, tp), fk, fp)) (h71 : S 71 = (101, 1)) (hs : sok hb pb κ) (hhb : hb < 2 ^ 28) : Cal l G (k + 105) 1000 14000 mL_fine [.ref 0, .int x1, .int x2, .int x3, .int x4, .ref 71] (I, J, R, S, nx) (WQ (I, J, R, S, nx) (aFine κ x1 x2 x3 x4).1 (Int32.toInt64 (aFine κ x1 x2 x3 x4).2) (κ, ι, (τ, tm, tn), (t, tp), fk, fp)) := by
  obtain ⟨hs0, h72⟩ := hC.s0
  have hle : (aFine κ x1 x2 x3 x4).1 ≤ 2 := by unfold aFine; (repeat' split) <;> first | exact Nat.zero_le _ | exact Nat.le_of_ble_eq_true rfl | exact gDl _ _ _ _ _ | exact gY_le _ _ _ _ | exact Nat.le_trans (gT_le _ _) (by decide) | exact gE_le _ _ _ _ _ | exact gS_le _ _ _ _ _ _ _ | (rw [laR_0]; exact Nat.zero_le _)
  refine Cal.ofW rfl (by decide +kernel) (by simp) (Nat.le_of_ble_eq_true rfl) rfl (wp_aload (q := 2) dL_fine_0 rfl rfl (wp_iconst (q := 3) dL_fine_2 rfl ki_0 (wp_aload_n (q := 4) dL_fine_3 rfl rfl rfl (wp_iload_n (q := 5) dL_fine_4 rfl rfl rfl (wp_iload_n (q := 6) dL_fine_5 rfl rfl rfl (wp_iload_n (q := 7) dL_fine_6 rfl rfl rfl (wp_iload (q := 9) dL_fine_7 rfl rfl (wp_invVC (q := 12) (As := [.int x1, .int x2, .int x3, .int x4]) (t := 11) (i := 6) (mc' := 40) (ms' := 14000) dL_fine_9 rfl ok_X11_fine ml_RL_30 im_X11_fine se_X11_fine (by decide) ⟨_, rfl, rfl⟩ (by show 0 < nx; omega) hs0 rfl rfl (Nat.le_of_ble_eq_true rfl) (by decide) (by decide) (fine_p (k := k + 100) hl0 hC hs hhb) (locOK [some (.ref 0), some (.int x1), some (.int x2), some (.int x3), some (.int x4)] (.ref 71) rfl) ?_ ?_))))))))
  · rintro r ⟨I1, J1, R1, S1, n1⟩ ⟨hr, hK, hC2⟩
    obtain ⟨e0, rfl⟩ := ansR_l hr
    have hn1 : nx ≤ n1 := hK.1
    have s71 : S1 71 = (101, 1) := (hK.2 71 (by decide) (by decide)).2.2.2.trans h71
    exact wp_i2l (q := 13) dL_fine_12 rfl (wp_lastoreC (q := 14) dL_fine_13 rfl (by omega) s71 cn_0 cz_0 (Nat.le_of_ble_eq_true rfl) (wp_goto (tgt := 25) dL_fine_14 rfl (wp_iconst (q := 26) dL_fine_25 rfl ki_0 (wp_ireturn dL_fine_26 rfl ⟨by rw [e0]; rfl, hK.g.j, hC2.j71, fun _ => Eq.trans (up2_h (f := J1) (a := 71) (i := 0) (j := 0)) (if_pos rfl)⟩))))
  · rintro E μ' ⟨hr, hK, hC2⟩
    obtain ⟨e0, hE⟩ := ansR_r hr
    have hc : (aFine κ x1 x2 x3 x4).1 = 1 ∨ (aFine κ x1 x2 x3 x4).1 = 2 := by omega
    rcases hc with e | e
    · have hE2 : E = eNS := by rw [hE, e]; rfl
      subst hE2
      exact ⟨19, ⟨[], [⟨0, 14, 21, 13⟩], ⟨0, 14, 17, 19⟩, 2, rfl, (fun _ h => absurd h List.not_mem_nil), by decide, by decide, cl_RL_19, by decide, (Or.inr ⟨dL_fine_17, rfl⟩), by decide, rfl⟩, wp_iconst (q := 20) dL_fine_19 rfl ki_1 (wp_ireturn dL_fine_20 rfl ⟨by rw [e]; rfl, hK.g, hC2, fun h => by rw [e] at h; cases h⟩)⟩
    · have hE2 : E = eIA := by rw [hE, e]; rfl
      subst hE2
      exact ⟨23, ⟨[⟨0, 14, 17, 19⟩], [], ⟨0, 14, 21, 13⟩, 2, rfl, (List.forall_mem_cons.mpr ⟨Or.inr ⟨by decide, _, cl_RL_19, by decide, by decide⟩, (fun _ h => absurd h List.not_mem_nil)⟩), by decide, by decide, cl_RL_13, by decide, (Or.inr ⟨dL_fine_21, rfl⟩), by decide, rfl⟩, wp_iconst (q := 24) dL_fine_23 rfl ki_2 (wp_ireturn dL_fine_24 rfl ⟨by rw [e]; rfl, hK.g, hC2, fun h => by rw [e] at h; cases h⟩)⟩
abbrev mL_lawful : Mt := (yL_lawful, cL_lawful, 7, (some .int), [(0, 21, 24, 19), (0, 21, 28, 13)])
theorem cwL_lawful : Cond.codeWith yL_lawful cL_lawful 7 (some .int) [(0, 21, 24, 19), (0, 21, 28, 13)] ∈ TW := List.mem_filter.mpr ⟨tt_4 (List.mem_of_getElem? (i := 0) rfl), rfl⟩
theorem okL_lawful : mOKw mL_lawful 6 := ⟨cwL_lawful, in_RL, rfl, ⟨by decide, by decide⟩, by decide +kernel, by decide⟩
theorem W_lawful {x1 : Int32} {x2 : Int32} {x3 : Int32} {x4 : Int32} (hl0 : l.stackTraces = false) (hG : GT G) (hC : CI (I, J, R, S, nx) (κ, ι, (τ, tm, tn), (t, tp), fk, fp)) (h71 : S 71 = (101, 1)) (hs : sok hb pb κ) (hhb : hb < 2 ^ 28) : Cal l G (k + 105) 1000 14000 mL_lawful [.ref 0, .int x1, .int x2, .int x3, .int x4, .ref 71] (I, J, R, S, nx) (WQ (I, J, R, S, nx) (aLawful κ x1 x2 x3 x4).1 (if (aLawful κ x1 x2 x3 x4).2 = 0 then 0 else 1) (κ, ι, (τ, tm, tn), (t, tp), fk, fp)) := by
  obtain ⟨hs0, h72⟩ := hC.s0
  have hle : (aLawful κ x1 x2 x3 x4).1 ≤ 2 := by unfold aLawful; (repeat' split) <;> first | exact Nat.zero_le _ | exact Nat.le_of_ble_eq_true rfl | exact gDl _ _ _ _ _ | exact gY_le _ _ _ _ | exact Nat.le_trans (gT_le _ _) (by decide) | exact gE_le _ _ _ _ _ | exact gS_le _ _ _ _ _ _ _ | (rw [laR_0]; exact Nat.zero_le _)
  refine Cal.ofW rfl (by decide +kernel) (by simp) (Nat.le_of_ble_eq_true rfl) rfl (wp_aload (q := 2) dL_lawful_0 rfl rfl (wp_iconst (q := 3) dL_lawful_2 rfl ki_0 (wp_aload_n (q := 4) dL_lawful_3 rfl rfl rfl (wp_iload_n (q := 5) dL_lawful_4 rfl rfl rfl (wp_iload_n (q := 6) dL_lawful_5 rfl rfl rfl (wp_iload_n (q := 7) dL_lawful_6 rfl rfl rfl (wp_iload (q := 9) dL_lawful_7 rfl rfl (wp_invVC (q := 12) (As := [.int x1, .int x2, .int x3, .int x4]) (t := 11) (i := 6) (mc' := 40) (ms' := 14000) dL_lawful_9 rfl ok_X11_lawful ml_RL_34 im_X11_lawful se_X11_lawful (by decide) ⟨_, rfl, rfl⟩ (by show 0 < nx; omega) hs0 rfl rfl (Nat.le_of_ble_eq_true rfl) (by decide) (by decide) (lawful_p (k := k + 99) hl0 hC hs hhb) (locOK [some (.ref 0), some (.int x1), some (.int x2), some (.int x3), some (.int x4)] (.ref 71) rfl) ?_ ?_))))))))
  · rintro r ⟨I1, J1, R1, S1, n1⟩ ⟨hr, hK, hC2⟩
    obtain ⟨e0, rfl⟩ := ansR_l hr
    have hn1 : nx ≤ n1 := hK.1
    have s71 : S1 71 = (101, 1) := (hK.2 71 (by decide) (by decide)).2.2.2.trans h71
    exact wp_if_eq (q := 15) (tgt := 19) dL_lawful_12 rfl rfl (fun c => wp_lconst (q := 20) dL_lawful_19 rfl kl_0 (wp_lastoreC (q := 21) dL_lawful_20 rfl (by omega) s71 cn_0 cz_0 (Nat.le_of_ble_eq_true rfl) (wp_goto (tgt := 32) dL_lawful_21 rfl (wp_iconst (q := 33) dL_lawful_32 rfl ki_0 (wp_ireturn dL_lawful_33 rfl ⟨by rw [e0]; rfl, hK.g.j, hC2.j71, fun _ => Eq.trans (up2_h (f := J1) (a := 71) (i := 0) (j := 0)) ((if_pos rfl).trans (if_pos c).symm)⟩))))) (fun c => wp_lconst (q := 16) dL_lawful_15 rfl kl_1 (wp_goto (tgt := 20) dL_lawful_16 rfl (wp_lastoreC (q := 21) dL_lawful_20 rfl (by omega) s71 cn_0 cz_0 (Nat.le_of_ble_eq_true rfl) (wp_goto (tgt := 32) dL_lawful_21 rfl (wp_iconst (q := 33) dL_lawful_32 rfl ki_0 (wp_ireturn dL_lawful_33 rfl ⟨by rw [e0]; rfl, hK.g.j, hC2.j71, fun _ => Eq.trans (up2_h (f := J1) (a := 71) (i := 0) (j := 0)) ((if_pos rfl).trans (if_neg c).symm)⟩))))))
  · rintro E μ' ⟨hr, hK, hC2⟩
    obtain ⟨e0, hE⟩ := ansR_r hr
    have hc : (aLawful κ x1 x2 x3 x4).1 = 1 ∨ (aLawful κ x1 x2 x3 x4).1 = 2 := by omega
    rcases hc with e | e
    · have hE2 : E = eNS := by rw [hE, e]; rfl
      subst hE2
      exact ⟨26, ⟨[], [⟨0, 21, 28, 13⟩], ⟨0, 21, 24, 19⟩, 2, rfl, (fun _ h => absurd h List.not_mem_nil), by decide, by decide, cl_RL_19, by decide, (Or.inr ⟨dL_lawful_24, rfl⟩), by decide, rfl⟩, wp_iconst (q := 27) dL_lawful_26 rfl ki_1 (wp_ireturn dL_lawful_27 rfl ⟨by rw [e]; rfl, hK.g, hC2, fun h => by rw [e] at h; cases h⟩)⟩
    · have hE2 : E = eIA := by rw [hE, e]; rfl
      subst hE2
      exact ⟨30, ⟨[⟨0, 21, 24, 19⟩], [], ⟨0, 21, 28, 13⟩, 2, rfl, (List.forall_mem_cons.mpr ⟨Or.inr ⟨by decide, _, cl_RL_19, by decide, by decide⟩, (fun _ h => absurd h List.not_mem_nil)⟩), by decide, by decide, cl_RL_13, by decide, (Or.inr ⟨dL_lawful_28, rfl⟩), by decide, rfl⟩, wp_iconst (q := 31) dL_lawful_30 rfl ki_2 (wp_ireturn dL_lawful_31 rfl ⟨by rw [e]; rfl, hK.g, hC2, fun h => by rw [e] at h; cases h⟩)⟩
abbrev mL_fire : Mt := (yL_fire, cL_fire, 6, (some .int), [(0, 12, 15, 19), (0, 12, 19, 13)])
theorem cwL_fire : Cond.codeWith yL_fire cL_fire 6 (some .int) [(0, 12, 15, 19), (0, 12, 19, 13)] ∈ TW := List.mem_filter.mpr ⟨tt_4 (List.mem_of_getElem? (i := 54) rfl), rfl⟩
theorem okL_fire : mOKw mL_fire 5 := ⟨cwL_fire, in_RL, rfl, ⟨by decide, by decide⟩, by decide +kernel, by decide⟩
theorem W_fire {x1 : Int32} {x2 : Int32} {x3 : Int32} (hl0 : l.stackTraces = false) (hG : GT G) (hC : CI (I, J, R, S, nx) (κ, ι, (τ, tm, tn), (t, tp), fk, fp)) (h71 : S 71 = (101, 1)) (hs : sok hb pb κ) (hhb : hb < 2 ^ 28) : Cal l G (k + 105) 1000 14000 mL_fire [.ref 0, .int x1, .int x2, .int x3, .ref 71] (I, J, R, S, nx) (WQ (I, J, R, S, nx) (aLay κ 7 x1 x2 x3).1.1 (Int32.toInt64 (aLay κ 7 x1 x2 x3).1.2) ((aLay κ 7 x1 x2 x3).2, ι, (τ, tm, tn), (t, tp), fk, fp)) := by
  obtain ⟨hs0, h72⟩ := hC.s0
  have hle : (aLay κ 7 x1 x2 x3).1.1 ≤ 2 := by unfold aLay; (repeat' split) <;> first | exact Nat.zero_le _ | exact Nat.le_of_ble_eq_true rfl | exact gDl _ _ _ _ _ | exact gY_le _ _ _ _ | exact Nat.le_trans (gT_le _ _) (by decide) | exact gE_le _ _ _ _ _ | exact gS_le _ _ _ _ _ _ _ | (rw [laR_0]; exact Nat.zero_le _)
  refine Cal.ofW rfl (by decide +kernel) (by simp) (Nat.le_of_ble_eq_true rfl) rfl (wp_aload (q := 2) dL_fire_0 rfl rfl (wp_iconst (q := 3) dL_fire_2 rfl ki_0 (wp_aload_n (q := 4) dL_fire_3 rfl rfl rfl (wp_iload_n (q := 5) dL_fire_4 rfl rfl rfl (wp_iload_n (q := 6) dL_fire_5 rfl rfl rfl (wp_iload_n (q := 7) dL_fire_6 rfl rfl rfl (wp_invVC (q := 10) (As := [.int x1, .int x2, .int x3]) (t := 11) (i := 5) (mc' := 40) (ms' := 14000) dL_fire_7 rfl ok_X11_fire ml_RL_38 im_X11_fire se_X11_fire (by decide) ⟨_, rfl, rfl⟩ (by show 0 < nx; omega) hs0 rfl rfl (Nat.le_of_ble_eq_true rfl) (by decide) (by decide) (fire_p (k := k + 100) hl0 hC hs hhb) (locOK [some (.ref 0), some (.int x1), some (.int x2), some (.int x3)] (.ref 71) rfl) ?_ ?_)))))))
  · rintro r ⟨I1, J1, R1, S1, n1⟩ ⟨hr, hK, hC2⟩
    obtain ⟨e0, rfl⟩ := ansR_l hr
    have hn1 : nx ≤ n1 := hK.1
    have s71 : S1 71 = (101, 1) := (hK.2 71 (by decide) (by decide)).2.2.2.trans h71
    exact wp_i2l (q := 11) dL_fire_10 rfl (wp_lastoreC (q := 12) dL_fire_11 rfl (by omega) s71 cn_0 cz_0 (Nat.le_of_ble_eq_true rfl) (wp_goto (tgt := 23) dL_fire_12 rfl (wp_iconst (q := 24) dL_fire_23 rfl ki_0 (wp_ireturn dL_fire_24 rfl ⟨by rw [e0]; rfl, hK.g.j, hC2.j71, fun _ => Eq.trans (up2_h (f := J1) (a := 71) (i := 0) (j := 0)) (if_pos rfl)⟩))))
  · rintro E μ' ⟨hr, hK, hC2⟩
    obtain ⟨e0, hE⟩ := ansR_r hr
    have hc : (aLay κ 7 x1 x2 x3).1.1 = 1 ∨ (aLay κ 7 x1 x2 x3).1.1 = 2 := by omega
    rcases hc with e | e
    · have hE2 : E = eNS := by rw [hE, e]; rfl
      subst hE2
      exact ⟨17, ⟨[], [⟨0, 12, 19, 13⟩], ⟨0, 12, 15, 19⟩, 2, rfl, (fun _ h => absurd h List.not_mem_nil), by decide, by decide, cl_RL_19, by decide, (Or.inr ⟨dL_fire_15, rfl⟩), by decide, rfl⟩, wp_iconst (q := 18) dL_fire_17 rfl ki_1 (wp_ireturn dL_fire_18 rfl ⟨by rw [e]; rfl, hK.g, hC2, fun h => by rw [e] at h; cases h⟩)⟩
    · have hE2 : E = eIA := by rw [hE, e]; rfl
      subst hE2
      exact ⟨21, ⟨[⟨0, 12, 15, 19⟩], [], ⟨0, 12, 19, 13⟩, 2, rfl, (List.forall_mem_cons.mpr ⟨Or.inr ⟨by decide, _, cl_RL_19, by decide, by decide⟩, (fun _ h => absurd h List.not_mem_nil)⟩), by decide, by decide, cl_RL_13, by decide, (Or.inr ⟨dL_fire_19, rfl⟩), by decide, rfl⟩, wp_iconst (q := 22) dL_fire_21 rfl ki_2 (wp_ireturn dL_fire_22 rfl ⟨by rw [e]; rfl, hK.g, hC2, fun h => by rw [e] at h; cases h⟩)⟩
abbrev mL_ice : Mt := (yL_ice, cL_ice, 6, (some .int), [(0, 12, 15, 19), (0, 12, 19, 13)])
theorem cwL_ice : Cond.codeWith yL_ice cL_ice 6 (some .int) [(0, 12, 15, 19), (0, 12, 19, 13)] ∈ TW := List.mem_filter.mpr ⟨tt_4 (List.mem_of_getElem? (i := 75) rfl), rfl⟩
theorem okL_ice : mOKw mL_ice 5 := ⟨cwL_ice, in_RL, rfl, ⟨by decide, by decide⟩, by decide +kernel, by decide⟩
theorem W_ice {x1 : Int32} {x2 : Int32} {x3 : Int32} (hl0 : l.stackTraces = false) (hG : GT G) (hC : CI (I, J, R, S, nx) (κ, ι, (τ, tm, tn), (t, tp), fk, fp)) (h71 : S 71 = (101, 1)) (hs : sok hb pb κ) (hhb : hb < 2 ^ 28) : Cal l G (k + 105) 1000 14000 mL_ice [.ref 0, .int x1, .int x2, .int x3, .ref 71] (I, J, R, S, nx) (WQ (I, J, R, S, nx) (aLay κ 22 x1 x2 x3).1.1 (Int32.toInt64 (aLay κ 22 x1 x2 x3).1.2) ((aLay κ 22 x1 x2 x3).2, ι, (τ, tm, tn), (t, tp), fk, fp)) := by
  obtain ⟨hs0, h72⟩ := hC.s0
  have hle : (aLay κ 22 x1 x2 x3).1.1 ≤ 2 := by unfold aLay; (repeat' split) <;> first | exact Nat.zero_le _ | exact Nat.le_of_ble_eq_true rfl | exact gDl _ _ _ _ _ | exact gY_le _ _ _ _ | exact Nat.le_trans (gT_le _ _) (by decide) | exact gE_le _ _ _ _ _ | exact gS_le _ _ _ _ _ _ _ | (rw [laR_0]; exact Nat.zero_le _)
  refine Cal.ofW rfl (by decide +kernel) (by simp) (Nat.le_of_ble_eq_true rfl) rfl (wp_aload (q := 2) dL_ice_0 rfl rfl (wp_iconst (q := 3) dL_ice_2 rfl ki_0 (wp_aload_n (q := 4) dL_ice_3 rfl rfl rfl (wp_iload_n (q := 5) dL_ice_4 rfl rfl rfl (wp_iload_n (q := 6) dL_ice_5 rfl rfl rfl (wp_iload_n (q := 7) dL_ice_6 rfl rfl rfl (wp_invVC (q := 10) (As := [.int x1, .int x2, .int x3]) (t := 11) (i := 5) (mc' := 40) (ms' := 14000) dL_ice_7 rfl ok_X11_ice ml_RL_42 im_X11_ice se_X11_ice (by decide) ⟨_, rfl, rfl⟩ (by show 0 < nx; omega) hs0 rfl rfl (Nat.le_of_ble_eq_true rfl) (by decide) (by decide) (ice_p (k := k + 100) hl0 hC hs hhb) (locOK [some (.ref 0), some (.int x1), some (.int x2), some (.int x3)] (.ref 71) rfl) ?_ ?_)))))))
  · rintro r ⟨I1, J1, R1, S1, n1⟩ ⟨hr, hK, hC2⟩
    obtain ⟨e0, rfl⟩ := ansR_l hr
    have hn1 : nx ≤ n1 := hK.1
    have s71 : S1 71 = (101, 1) := (hK.2 71 (by decide) (by decide)).2.2.2.trans h71
    exact wp_i2l (q := 11) dL_ice_10 rfl (wp_lastoreC (q := 12) dL_ice_11 rfl (by omega) s71 cn_0 cz_0 (Nat.le_of_ble_eq_true rfl) (wp_goto (tgt := 23) dL_ice_12 rfl (wp_iconst (q := 24) dL_ice_23 rfl ki_0 (wp_ireturn dL_ice_24 rfl ⟨by rw [e0]; rfl, hK.g.j, hC2.j71, fun _ => Eq.trans (up2_h (f := J1) (a := 71) (i := 0) (j := 0)) (if_pos rfl)⟩))))
  · rintro E μ' ⟨hr, hK, hC2⟩
    obtain ⟨e0, hE⟩ := ansR_r hr
    have hc : (aLay κ 22 x1 x2 x3).1.1 = 1 ∨ (aLay κ 22 x1 x2 x3).1.1 = 2 := by omega
    rcases hc with e | e
    · have hE2 : E = eNS := by rw [hE, e]; rfl
      subst hE2
      exact ⟨17, ⟨[], [⟨0, 12, 19, 13⟩], ⟨0, 12, 15, 19⟩, 2, rfl, (fun _ h => absurd h List.not_mem_nil), by decide, by decide, cl_RL_19, by decide, (Or.inr ⟨dL_ice_15, rfl⟩), by decide, rfl⟩, wp_iconst (q := 18) dL_ice_17 rfl ki_1 (wp_ireturn dL_ice_18 rfl ⟨by rw [e]; rfl, hK.g, hC2, fun h => by rw [e] at h; cases h⟩)⟩
    · have hE2 : E = eIA := by rw [hE, e]; rfl
      subst hE2
      exact ⟨21, ⟨[⟨0, 12, 15, 19⟩], [], ⟨0, 12, 19, 13⟩, 2, rfl, (List.forall_mem_cons.mpr ⟨Or.inr ⟨by decide, _, cl_RL_19, by decide, by decide⟩, (fun _ h => absurd h List.not_mem_nil)⟩), by decide, by decide, cl_RL_13, by decide, (Or.inr ⟨dL_ice_19, rfl⟩), by decide, rfl⟩, wp_iconst (q := 22) dL_ice_21 rfl ki_2 (wp_ireturn dL_ice_22 rfl ⟨by rw [e]; rfl, hK.g, hC2, fun h => by rw [e] at h; cases h⟩)⟩
abbrev mL_amend : Mt := (yL_amend, cL_amend, 6, (some .int), [(0, 12, 15, 19), (0, 12, 19, 13)])
theorem cwL_amend : Cond.codeWith yL_amend cL_amend 6 (some .int) [(0, 12, 15, 19), (0, 12, 19, 13)] ∈ TW := List.mem_filter.mpr ⟨tt_4 (List.mem_of_getElem? (i := 82) rfl), rfl⟩
theorem okL_amend : mOKw mL_amend 5 := ⟨cwL_amend, in_RL, rfl, ⟨by decide, by decide⟩, by decide +kernel, by decide⟩
theorem W_amend {x1 : Int32} {x2 : Int32} {x3 : Int32} (hl0 : l.stackTraces = false) (hG : GT G) (hC : CI (I, J, R, S, nx) (κ, ι, (τ, tm, tn), (t, tp), fk, fp)) (h71 : S 71 = (101, 1)) (hs : sok hb pb κ) (hhb : hb < 2 ^ 28) : Cal l G (k + 105) 1000 14000 mL_amend [.ref 0, .int x1, .int x2, .int x3, .ref 71] (I, J, R, S, nx) (WQ (I, J, R, S, nx) ((aAmend κ x1 x2 x3).1).1 (Int32.toInt64 ((aAmend κ x1 x2 x3).1).2) ((aAmend κ x1 x2 x3).2, ι, (τ, tm, tn), (t, tp), fk, fp)) := by
  obtain ⟨hs0, h72⟩ := hC.s0
  have hle : ((aAmend κ x1 x2 x3).1).1 ≤ 2 := by unfold aAmend; (repeat' split) <;> first | exact Nat.zero_le _ | exact Nat.le_of_ble_eq_true rfl | exact gDl _ _ _ _ _ | exact gY_le _ _ _ _ | exact Nat.le_trans (gT_le _ _) (by decide) | exact gE_le _ _ _ _ _ | exact gS_le _ _ _ _ _ _ _ | (rw [laR_0]; exact Nat.zero_le _)
  refine Cal.ofW rfl (by decide +kernel) (by simp) (Nat.le_of_ble_eq_true rfl) rfl (wp_aload (q := 2) dL_amend_0 rfl rfl (wp_iconst (q := 3) dL_amend_2 rfl ki_0 (wp_aload_n (q := 4) dL_amend_3 rfl rfl rfl (wp_iload_n (q := 5) dL_amend_4 rfl rfl rfl (wp_iload_n (q := 6) dL_amend_5 rfl rfl rfl (wp_iload_n (q := 7) dL_amend_6 rfl rfl rfl (wp_invVC (q := 10) (As := [.int x1, .int x2, .int x3]) (t := 11) (i := 5) (mc' := 40) (ms' := 14000) dL_amend_7 rfl ok_X11_amend ml_RL_45 im_X11_amend se_X11_amend (by decide) ⟨_, rfl, rfl⟩ (by show 0 < nx; omega) hs0 rfl rfl (Nat.le_of_ble_eq_true rfl) (by decide) (by decide) (amend_p (k := k + 100) hl0 hC hs hhb) (locOK [some (.ref 0), some (.int x1), some (.int x2), some (.int x3)] (.ref 71) rfl) ?_ ?_)))))))
  · rintro r ⟨I1, J1, R1, S1, n1⟩ ⟨hr, hK, hC2⟩
    obtain ⟨e0, rfl⟩ := ansR_l hr
    have hn1 : nx ≤ n1 := hK.1
    have s71 : S1 71 = (101, 1) := (hK.2 71 (by decide) (by decide)).2.2.2.trans h71
    exact wp_i2l (q := 11) dL_amend_10 rfl (wp_lastoreC (q := 12) dL_amend_11 rfl (by omega) s71 cn_0 cz_0 (Nat.le_of_ble_eq_true rfl) (wp_goto (tgt := 23) dL_amend_12 rfl (wp_iconst (q := 24) dL_amend_23 rfl ki_0 (wp_ireturn dL_amend_24 rfl ⟨by rw [e0]; rfl, hK.g.j, hC2.j71, fun _ => Eq.trans (up2_h (f := J1) (a := 71) (i := 0) (j := 0)) (if_pos rfl)⟩))))
  · rintro E μ' ⟨hr, hK, hC2⟩
    obtain ⟨e0, hE⟩ := ansR_r hr
    have hc : ((aAmend κ x1 x2 x3).1).1 = 1 ∨ ((aAmend κ x1 x2 x3).1).1 = 2 := by omega
    rcases hc with e | e
    · have hE2 : E = eNS := by rw [hE, e]; rfl
      subst hE2
      exact ⟨17, ⟨[], [⟨0, 12, 19, 13⟩], ⟨0, 12, 15, 19⟩, 2, rfl, (fun _ h => absurd h List.not_mem_nil), by decide, by decide, cl_RL_19, by decide, (Or.inr ⟨dL_amend_15, rfl⟩), by decide, rfl⟩, wp_iconst (q := 18) dL_amend_17 rfl ki_1 (wp_ireturn dL_amend_18 rfl ⟨by rw [e]; rfl, hK.g, hC2, fun h => by rw [e] at h; cases h⟩)⟩
    · have hE2 : E = eIA := by rw [hE, e]; rfl
      subst hE2
      exact ⟨21, ⟨[⟨0, 12, 15, 19⟩], [], ⟨0, 12, 19, 13⟩, 2, rfl, (List.forall_mem_cons.mpr ⟨Or.inr ⟨by decide, _, cl_RL_19, by decide, by decide⟩, (fun _ h => absurd h List.not_mem_nil)⟩), by decide, by decide, cl_RL_13, by decide, (Or.inr ⟨dL_amend_19, rfl⟩), by decide, rfl⟩, wp_iconst (q := 22) dL_amend_21 rfl ki_2 (wp_ireturn dL_amend_22 rfl ⟨by rw [e]; rfl, hK.g, hC2, fun h => by rw [e] at h; cases h⟩)⟩
abbrev mL_repeal : Mt := (yL_repeal, cL_repeal, 4, (some .int), [(0, 9, 12, 19), (0, 9, 15, 51)])
theorem cwL_repeal : Cond.codeWith yL_repeal cL_repeal 4 (some .int) [(0, 9, 12, 19), (0, 9, 15, 51)] ∈ TW := List.mem_filter.mpr ⟨tt_4 (List.mem_of_getElem? (i := 90) rfl), rfl⟩
theorem okL_repeal : mOKw mL_repeal 3 := ⟨cwL_repeal, in_RL, rfl, ⟨by decide, by decide⟩, by decide +kernel, by decide⟩
theorem W_repeal {x1 : Int32} (hl0 : l.stackTraces = false) (hG : GT G) (hC : CI (I, J, R, S, nx) (κ, ι, (τ, tm, tn), (t, tp), fk, fp)) (h71 : S 71 = (101, 1)) (hs : sok hb pb κ) (hhb : hb < 2 ^ 28) : Cal l G (k + 105) 1000 14000 mL_repeal [.ref 0, .int x1, .ref 71] (I, J, R, S, nx) (WQ (I, J, R, S, nx) ((aRepeal κ x1).1).1 (Int32.toInt64 ((aRepeal κ x1).1).2) ((aRepeal κ x1).2, ι, (τ, tm, tn), (t, tp), fk, fp)) := by
  obtain ⟨hs0, h72⟩ := hC.s0
  have hle : ((aRepeal κ x1).1).1 ≤ 2 := by unfold aRepeal; (repeat' split) <;> first | exact Nat.zero_le _ | exact Nat.le_of_ble_eq_true rfl | exact gDl _ _ _ _ _ | exact gY_le _ _ _ _ | exact Nat.le_trans (gT_le _ _) (by decide) | exact gE_le _ _ _ _ _ | exact gS_le _ _ _ _ _ _ _ | (rw [laR_0]; exact Nat.zero_le _)
  refine Cal.ofW rfl (by decide +kernel) (by simp) (Nat.le_of_ble_eq_true rfl) rfl (wp_aload_n (q := 1) dL_repeal_0 rfl rfl rfl (wp_iconst (q := 2) dL_repeal_1 rfl ki_0 (wp_aload_n (q := 3) dL_repeal_2 rfl rfl rfl (wp_iload_n (q := 4) dL_repeal_3 rfl rfl rfl (wp_invVC (q := 7) (As := [.int x1]) (t := 11) (i := 3) (mc' := 40) (ms' := 14000) dL_repeal_4 rfl ok_X11_repeal ml_RL_48 im_X11_repeal se_X11_repeal (by decide) ⟨_, rfl, rfl⟩ (by show 0 < nx; omega) hs0 rfl rfl (Nat.le_of_ble_eq_true rfl) (by decide) (by decide) (repeal_p (k := k + 103) hl0 hC hs hhb) (locOK [some (.ref 0), some (.int x1)] (.ref 71) rfl) ?_ ?_)))))
  · rintro r ⟨I1, J1, R1, S1, n1⟩ ⟨hr, hK, hC2⟩
    obtain ⟨e0, rfl⟩ := ansR_l hr
    have hn1 : nx ≤ n1 := hK.1
    have s71 : S1 71 = (101, 1) := (hK.2 71 (by decide) (by decide)).2.2.2.trans h71
    exact wp_i2l (q := 8) dL_repeal_7 rfl (wp_lastoreC (q := 9) dL_repeal_8 rfl (by omega) s71 cn_0 cz_0 (Nat.le_of_ble_eq_true rfl) (wp_goto (tgt := 18) dL_repeal_9 rfl (wp_iconst (q := 19) dL_repeal_18 rfl ki_0 (wp_ireturn dL_repeal_19 rfl ⟨by rw [e0]; rfl, hK.g.j, hC2.j71, fun _ => Eq.trans (up2_h (f := J1) (a := 71) (i := 0) (j := 0)) (if_pos rfl)⟩))))
  · rintro E μ' ⟨hr, hK, hC2⟩
    obtain ⟨e0, hE⟩ := ansR_r hr
    have hc : ((aRepeal κ x1).1).1 = 1 ∨ ((aRepeal κ x1).1).1 = 2 := by omega
    rcases hc with e | e
    · have hE2 : E = eNS := by rw [hE, e]; rfl
      subst hE2
      exact ⟨13, ⟨[], [⟨0, 9, 15, 51⟩], ⟨0, 9, 12, 19⟩, 1, rfl, (fun _ h => absurd h List.not_mem_nil), by decide, by decide, cl_RL_19, by decide, (Or.inl ⟨_, dL_repeal_12, rfl, rfl⟩), by decide, rfl⟩, wp_iconst (q := 14) dL_repeal_13 rfl ki_1 (wp_ireturn dL_repeal_14 rfl ⟨by rw [e]; rfl, hK.g, hC2, fun h => by rw [e] at h; cases h⟩)⟩
    · have hE2 : E = eIS := by rw [hE, e]; rfl
      subst hE2
      exact ⟨16, ⟨[⟨0, 9, 12, 19⟩], [], ⟨0, 9, 15, 51⟩, 1, rfl, (List.forall_mem_cons.mpr ⟨Or.inr ⟨by decide, _, cl_RL_19, by decide, by decide⟩, (fun _ h => absurd h List.not_mem_nil)⟩), by decide, by decide, cl_RL_51, by decide, (Or.inl ⟨_, dL_repeal_15, rfl, rfl⟩), by decide, rfl⟩, wp_iconst (q := 17) dL_repeal_16 rfl ki_2 (wp_ireturn dL_repeal_17 rfl ⟨by rw [e]; rfl, hK.g, hC2, fun h => by rw [e] at h; cases h⟩)⟩
abbrev mL_hours : Mt := (yL_hours, cL_hours, 4, (some .int), [(0, 9, 12, 13)])
theorem cwL_hours : Cond.codeWith yL_hours cL_hours 4 (some .int) [(0, 9, 12, 13)] ∈ TW := List.mem_filter.mpr ⟨tt_4 (List.mem_of_getElem? (i := 114) rfl), rfl⟩
theorem okL_hours : mOKw mL_hours 3 := ⟨cwL_hours, in_RL, rfl, ⟨by decide, by decide⟩, by decide +kernel, by decide⟩
theorem W_hours {x1 : Int32} (hl0 : l.stackTraces = false) (hG : GT G) (hC : CI (I, J, R, S, nx) (κ, ι, (τ, tm, tn), (t, tp), fk, fp)) (h71 : S 71 = (101, 1)) (hs : sok hb pb κ) (hhb : hb < 2 ^ 28) : Cal l G (k + 105) 1000 14000 mL_hours [.ref 0, .int x1, .ref 71] (I, J, R, S, nx) (WQ (I, J, R, S, nx) ((aHours κ x1).1).1 (Int32.toInt64 ((aHours κ x1).1).2) ((aHours κ x1).2, ι, (τ, tm, tn), (t, tp), fk, fp)) := by
  obtain ⟨hs0, h72⟩ := hC.s0
  have hle : ((aHours κ x1).1).1 ≤ 1 := by unfold aHours; (repeat' split) <;> first | exact Nat.zero_le _ | exact Nat.le_of_ble_eq_true rfl | exact gDl _ _ _ _ _ | exact gY_le _ _ _ _ | exact Nat.le_trans (gT_le _ _) (by decide) | exact gE_le _ _ _ _ _ | exact gS_le _ _ _ _ _ _ _ | (rw [laR_0]; exact Nat.zero_le _)
  refine Cal.ofW rfl (by decide +kernel) (by simp) (Nat.le_of_ble_eq_true rfl) rfl (wp_aload_n (q := 1) dL_hours_0 rfl rfl rfl (wp_iconst (q := 2) dL_hours_1 rfl ki_0 (wp_aload_n (q := 3) dL_hours_2 rfl rfl rfl (wp_iload_n (q := 4) dL_hours_3 rfl rfl rfl (wp_invVC (q := 7) (As := [.int x1]) (t := 11) (i := 3) (mc' := 40) (ms' := 14000) dL_hours_4 rfl ok_X11_hours ml_RL_53 im_X11_hours se_X11_hours (by decide) ⟨_, rfl, rfl⟩ (by show 0 < nx; omega) hs0 rfl rfl (Nat.le_of_ble_eq_true rfl) (by decide) (by decide) (hours_p (k := k + 103) hl0 hC hs hhb) (locOK [some (.ref 0), some (.int x1)] (.ref 71) rfl) ?_ ?_)))))
  · rintro r ⟨I1, J1, R1, S1, n1⟩ ⟨hr, hK, hC2⟩
    obtain ⟨e0, rfl⟩ := ansR_l hr
    have hn1 : nx ≤ n1 := hK.1
    have s71 : S1 71 = (101, 1) := (hK.2 71 (by decide) (by decide)).2.2.2.trans h71
    exact wp_i2l (q := 8) dL_hours_7 rfl (wp_lastoreC (q := 9) dL_hours_8 rfl (by omega) s71 cn_0 cz_0 (Nat.le_of_ble_eq_true rfl) (wp_goto (tgt := 15) dL_hours_9 rfl (wp_iconst (q := 16) dL_hours_15 rfl ki_0 (wp_ireturn dL_hours_16 rfl ⟨by rw [e0]; rfl, hK.g.j, hC2.j71, fun _ => Eq.trans (up2_h (f := J1) (a := 71) (i := 0) (j := 0)) (if_pos rfl)⟩))))
  · rintro E μ' ⟨hr, hK, hC2⟩
    obtain ⟨e0, hE⟩ := ansR_r hr
    have e : ((aHours κ x1).1).1 = 1 := by omega
    · have hE2 : E = eIA := by rw [hE, e]; rfl
      subst hE2
      exact ⟨13, ⟨[], [], ⟨0, 9, 12, 13⟩, 1, rfl, (fun _ h => absurd h List.not_mem_nil), by decide, by decide, cl_RL_13, by decide, (Or.inl ⟨_, dL_hours_12, rfl, rfl⟩), by decide, rfl⟩, wp_iconst (q := 14) dL_hours_13 rfl ki_1 (wp_ireturn dL_hours_14 rfl ⟨by rw [e]; rfl, hK.g, hC2, fun h => by rw [e] at h; cases h⟩)⟩
abbrev mL_done : Mt := (yL_done, cL_done, 6, (some .int), [(0, 12, 15, 19), (0, 12, 19, 13)])
theorem cwL_done : Cond.codeWith yL_done cL_done 6 (some .int) [(0, 12, 15, 19), (0, 12, 19, 13)] ∈ TW := List.mem_filter.mpr ⟨tt_4 (List.mem_of_getElem? (i := 121) rfl), rfl⟩
theorem okL_done : mOKw mL_done 5 := ⟨cwL_done, in_RL, rfl, ⟨by decide, by decide⟩, by decide +kernel, by decide⟩
theorem W_done {x1 : Int32} {x2 : Int32} {x3 : Int32} (hl0 : l.stackTraces = false) (hG : GT G) (hC : CI (I, J, R, S, nx) (κ, ι, (τ, tm, tn), (t, tp), fk, fp)) (h71 : S 71 = (101, 1)) (hs : sok hb pb κ) (hhb : hb < 2 ^ 28) : Cal l G (k + 105) 1000 14000 mL_done [.ref 0, .int x1, .int x2, .int x3, .ref 71] (I, J, R, S, nx) (WQ (I, J, R, S, nx) ((aDone κ x1 x2 x3).1).1 (Int32.toInt64 ((aDone κ x1 x2 x3).1).2) ((aDone κ x1 x2 x3).2, ι, (τ, tm, tn), (t, tp), fk, fp)) := by
  obtain ⟨hs0, h72⟩ := hC.s0
  have hle : ((aDone κ x1 x2 x3).1).1 ≤ 2 := by unfold aDone; (repeat' split) <;> first | exact Nat.zero_le _ | exact Nat.le_of_ble_eq_true rfl | exact gDl _ _ _ _ _ | exact gY_le _ _ _ _ | exact Nat.le_trans (gT_le _ _) (by decide) | exact gE_le _ _ _ _ _ | exact gS_le _ _ _ _ _ _ _ | (rw [laR_0]; exact Nat.zero_le _)
  refine Cal.ofW rfl (by decide +kernel) (by simp) (Nat.le_of_ble_eq_true rfl) rfl (wp_aload (q := 2) dL_done_0 rfl rfl (wp_iconst (q := 3) dL_done_2 rfl ki_0 (wp_aload_n (q := 4) dL_done_3 rfl rfl rfl (wp_iload_n (q := 5) dL_done_4 rfl rfl rfl (wp_iload_n (q := 6) dL_done_5 rfl rfl rfl (wp_iload_n (q := 7) dL_done_6 rfl rfl rfl (wp_invVC (q := 10) (As := [.int x1, .int x2, .int x3]) (t := 11) (i := 5) (mc' := 40) (ms' := 14000) dL_done_7 rfl ok_X11_done ml_RL_56 im_X11_done se_X11_done (by decide) ⟨_, rfl, rfl⟩ (by show 0 < nx; omega) hs0 rfl rfl (Nat.le_of_ble_eq_true rfl) (by decide) (by decide) (done_p (k := k + 99) hl0 hC hs hhb) (locOK [some (.ref 0), some (.int x1), some (.int x2), some (.int x3)] (.ref 71) rfl) ?_ ?_)))))))
  · rintro r ⟨I1, J1, R1, S1, n1⟩ ⟨hr, hK, hC2⟩
    obtain ⟨e0, rfl⟩ := ansR_l hr
    have hn1 : nx ≤ n1 := hK.1
    have s71 : S1 71 = (101, 1) := (hK.2 71 (by decide) (by decide)).2.2.2.trans h71
    exact wp_i2l (q := 11) dL_done_10 rfl (wp_lastoreC (q := 12) dL_done_11 rfl (by omega) s71 cn_0 cz_0 (Nat.le_of_ble_eq_true rfl) (wp_goto (tgt := 23) dL_done_12 rfl (wp_iconst (q := 24) dL_done_23 rfl ki_0 (wp_ireturn dL_done_24 rfl ⟨by rw [e0]; rfl, hK.g.j, hC2.j71, fun _ => Eq.trans (up2_h (f := J1) (a := 71) (i := 0) (j := 0)) (if_pos rfl)⟩))))
  · rintro E μ' ⟨hr, hK, hC2⟩
    obtain ⟨e0, hE⟩ := ansR_r hr
    have hc : ((aDone κ x1 x2 x3).1).1 = 1 ∨ ((aDone κ x1 x2 x3).1).1 = 2 := by omega
    rcases hc with e | e
    · have hE2 : E = eNS := by rw [hE, e]; rfl
      subst hE2
      exact ⟨17, ⟨[], [⟨0, 12, 19, 13⟩], ⟨0, 12, 15, 19⟩, 2, rfl, (fun _ h => absurd h List.not_mem_nil), by decide, by decide, cl_RL_19, by decide, (Or.inr ⟨dL_done_15, rfl⟩), by decide, rfl⟩, wp_iconst (q := 18) dL_done_17 rfl ki_1 (wp_ireturn dL_done_18 rfl ⟨by rw [e]; rfl, hK.g, hC2, fun h => by rw [e] at h; cases h⟩)⟩
    · have hE2 : E = eIA := by rw [hE, e]; rfl
      subst hE2
      exact ⟨21, ⟨[⟨0, 12, 15, 19⟩], [], ⟨0, 12, 19, 13⟩, 2, rfl, (List.forall_mem_cons.mpr ⟨Or.inr ⟨by decide, _, cl_RL_19, by decide, by decide⟩, (fun _ h => absurd h List.not_mem_nil)⟩), by decide, by decide, cl_RL_13, by decide, (Or.inr ⟨dL_done_19, rfl⟩), by decide, rfl⟩, wp_iconst (q := 22) dL_done_21 rfl ki_2 (wp_ireturn dL_done_22 rfl ⟨by rw [e]; rfl, hK.g, hC2, fun h => by rw [e] at h; cases h⟩)⟩
abbrev mL_undo : Mt := (yL_undo, cL_undo, 4, (some .int), [(0, 9, 12, 13)])
theorem cwL_undo : Cond.codeWith yL_undo cL_undo 4 (some .int) [(0, 9, 12, 13)] ∈ TW := List.mem_filter.mpr ⟨tt_4 (List.mem_of_getElem? (i := 133) rfl), rfl⟩
theorem okL_undo : mOKw mL_undo 3 := ⟨cwL_undo, in_RL, rfl, ⟨by decide, by decide⟩, by decide +kernel, by decide⟩
theorem W_undo {x1 : Int32} (hl0 : l.stackTraces = false) (hG : GT G) (hC : CI (I, J, R, S, nx) (κ, ι, (τ, tm, tn), (t, tp), fk, fp)) (h71 : S 71 = (101, 1)) (hs : sok hb pb κ) (hhb : hb < 2 ^ 28) : Cal l G (k + 105) 1000 14000 mL_undo [.ref 0, .int x1, .ref 71] (I, J, R, S, nx) (WQ (I, J, R, S, nx) ((aUndo κ x1).1).1 (Int32.toInt64 ((aUndo κ x1).1).2) ((aUndo κ x1).2, ι, (τ, tm, tn), (t, tp), fk, fp)) := by
  obtain ⟨hs0, h72⟩ := hC.s0
  have hle : ((aUndo κ x1).1).1 ≤ 1 := by unfold aUndo; (repeat' split) <;> first | exact Nat.zero_le _ | exact Nat.le_of_ble_eq_true rfl | exact gDl _ _ _ _ _ | exact gY_le _ _ _ _ | exact Nat.le_trans (gT_le _ _) (by decide) | exact gE_le _ _ _ _ _ | exact gS_le _ _ _ _ _ _ _ | (rw [laR_0]; exact Nat.zero_le _)
  refine Cal.ofW rfl (by decide +kernel) (by simp) (Nat.le_of_ble_eq_true rfl) rfl (wp_aload_n (q := 1) dL_undo_0 rfl rfl rfl (wp_iconst (q := 2) dL_undo_1 rfl ki_0 (wp_aload_n (q := 3) dL_undo_2 rfl rfl rfl (wp_iload_n (q := 4) dL_undo_3 rfl rfl rfl (wp_invVC (q := 7) (As := [.int x1]) (t := 11) (i := 3) (mc' := 40) (ms' := 14000) dL_undo_4 rfl ok_X11_undo ml_RL_59 im_X11_undo se_X11_undo (by decide) ⟨_, rfl, rfl⟩ (by show 0 < nx; omega) hs0 rfl rfl (Nat.le_of_ble_eq_true rfl) (by decide) (by decide) (undo_p (k := k + 102) hl0 hC hs hhb) (locOK [some (.ref 0), some (.int x1)] (.ref 71) rfl) ?_ ?_)))))
  · rintro r ⟨I1, J1, R1, S1, n1⟩ ⟨hr, hK, hC2⟩
    obtain ⟨e0, rfl⟩ := ansR_l hr
    have hn1 : nx ≤ n1 := hK.1
    have s71 : S1 71 = (101, 1) := (hK.2 71 (by decide) (by decide)).2.2.2.trans h71
    exact wp_i2l (q := 8) dL_undo_7 rfl (wp_lastoreC (q := 9) dL_undo_8 rfl (by omega) s71 cn_0 cz_0 (Nat.le_of_ble_eq_true rfl) (wp_goto (tgt := 15) dL_undo_9 rfl (wp_iconst (q := 16) dL_undo_15 rfl ki_0 (wp_ireturn dL_undo_16 rfl ⟨by rw [e0]; rfl, hK.g.j, hC2.j71, fun _ => Eq.trans (up2_h (f := J1) (a := 71) (i := 0) (j := 0)) (if_pos rfl)⟩))))
  · rintro E μ' ⟨hr, hK, hC2⟩
    obtain ⟨e0, hE⟩ := ansR_r hr
    have e : ((aUndo κ x1).1).1 = 1 := by omega
    · have hE2 : E = eIA := by rw [hE, e]; rfl
      subst hE2
      exact ⟨13, ⟨[], [], ⟨0, 9, 12, 13⟩, 1, rfl, (fun _ h => absurd h List.not_mem_nil), by decide, by decide, cl_RL_13, by decide, (Or.inl ⟨_, dL_undo_12, rfl, rfl⟩), by decide, rfl⟩, wp_iconst (q := 14) dL_undo_13 rfl ki_1 (wp_ireturn dL_undo_14 rfl ⟨by rw [e]; rfl, hK.g, hC2, fun h => by rw [e] at h; cases h⟩)⟩
abbrev mL_judge : Mt := (yL_judge, cL_judge, 5, (some .int), [(0, 10, 13, 19), (0, 10, 17, 51), (0, 10, 21, 13)])
theorem cwL_judge : Cond.codeWith yL_judge cL_judge 5 (some .int) [(0, 10, 13, 19), (0, 10, 17, 51), (0, 10, 21, 13)] ∈ TW := List.mem_filter.mpr ⟨tt_4 (List.mem_of_getElem? (i := 144) rfl), rfl⟩
theorem okL_judge : mOKw mL_judge 4 := ⟨cwL_judge, in_RL, rfl, ⟨by decide, by decide⟩, by decide +kernel, by decide⟩
theorem W_judge {x1 : Int32} {x2 : Int32} (hl0 : l.stackTraces = false) (hG : GT G) (hC : CI (I, J, R, S, nx) (κ, ι, (τ, tm, tn), (t, tp), fk, fp)) (h71 : S 71 = (101, 1)) (hs : sok hb pb κ) (hhb : hb < 2 ^ 28) : Cal l G (k + 105) 1000 14000 mL_judge [.ref 0, .int x1, .int x2, .ref 71] (I, J, R, S, nx) (WQ (I, J, R, S, nx) (aJudge κ τ tm tn x1 x2).1 (Int32.toInt64 (aJudge κ τ tm tn x1 x2).2) (κ, ι, (τ, tm, tn), (t, tp), fk, fp)) := by
  obtain ⟨hs0, h72⟩ := hC.s0
  have hle : (aJudge κ τ tm tn x1 x2).1 ≤ 3 := by unfold aJudge; (repeat' split) <;> first | exact Nat.zero_le _ | exact Nat.le_of_ble_eq_true rfl | exact gDl _ _ _ _ _ | exact gY_le _ _ _ _ | exact Nat.le_trans (gT_le _ _) (by decide) | exact gE_le _ _ _ _ _ | exact gS_le _ _ _ _ _ _ _ | (rw [laR_0]; exact Nat.zero_le _)
  refine Cal.ofW rfl (by decide +kernel) (by simp) (Nat.le_of_ble_eq_true rfl) rfl (wp_aload_n (q := 1) dL_judge_0 rfl rfl rfl (wp_iconst (q := 2) dL_judge_1 rfl ki_0 (wp_aload_n (q := 3) dL_judge_2 rfl rfl rfl (wp_iload_n (q := 4) dL_judge_3 rfl rfl rfl (wp_iload_n (q := 5) dL_judge_4 rfl rfl rfl (wp_invVC (q := 8) (As := [.int x1, .int x2]) (t := 11) (i := 4) (mc' := 40) (ms' := 14000) dL_judge_5 rfl ok_X11_judge ml_RL_62 im_X11_judge se_X11_judge (by decide) ⟨_, rfl, rfl⟩ (by show 0 < nx; omega) hs0 rfl rfl (Nat.le_of_ble_eq_true rfl) (by decide) (by decide) (judge_p (k := k + 98) hl0 hC hs hhb) (locOK [some (.ref 0), some (.int x1), some (.int x2)] (.ref 71) rfl) ?_ ?_))))))
  · rintro r ⟨I1, J1, R1, S1, n1⟩ ⟨hr, hK, hC2⟩
    obtain ⟨e0, rfl⟩ := ansR_l hr
    have hn1 : nx ≤ n1 := hK.1
    have s71 : S1 71 = (101, 1) := (hK.2 71 (by decide) (by decide)).2.2.2.trans h71
    exact wp_i2l (q := 9) dL_judge_8 rfl (wp_lastoreC (q := 10) dL_judge_9 rfl (by omega) s71 cn_0 cz_0 (Nat.le_of_ble_eq_true rfl) (wp_goto (tgt := 25) dL_judge_10 rfl (wp_iconst (q := 26) dL_judge_25 rfl ki_0 (wp_ireturn dL_judge_26 rfl ⟨by rw [e0]; rfl, hK.g.j, hC2.j71, fun _ => Eq.trans (up2_h (f := J1) (a := 71) (i := 0) (j := 0)) (if_pos rfl)⟩))))
  · rintro E μ' ⟨hr, hK, hC2⟩
    obtain ⟨e0, hE⟩ := ansR_r hr
    have hc : (aJudge κ τ tm tn x1 x2).1 = 1 ∨ (aJudge κ τ tm tn x1 x2).1 = 2 ∨ (aJudge κ τ tm tn x1 x2).1 = 3 := by omega
    rcases hc with e | e | e
    · have hE2 : E = eNS := by rw [hE, e]; rfl
      subst hE2
      exact ⟨15, ⟨[], [⟨0, 10, 17, 51⟩, ⟨0, 10, 21, 13⟩], ⟨0, 10, 13, 19⟩, 2, rfl, (fun _ h => absurd h List.not_mem_nil), by decide, by decide, cl_RL_19, by decide, (Or.inr ⟨dL_judge_13, rfl⟩), by decide, rfl⟩, wp_iconst (q := 16) dL_judge_15 rfl ki_1 (wp_ireturn dL_judge_16 rfl ⟨by rw [e]; rfl, hK.g, hC2, fun h => by rw [e] at h; cases h⟩)⟩
    · have hE2 : E = eIS := by rw [hE, e]; rfl
      subst hE2
      exact ⟨19, ⟨[⟨0, 10, 13, 19⟩], [⟨0, 10, 21, 13⟩], ⟨0, 10, 17, 51⟩, 2, rfl, (List.forall_mem_cons.mpr ⟨Or.inr ⟨by decide, _, cl_RL_19, by decide, by decide⟩, (fun _ h => absurd h List.not_mem_nil)⟩), by decide, by decide, cl_RL_51, by decide, (Or.inr ⟨dL_judge_17, rfl⟩), by decide, rfl⟩, wp_iconst (q := 20) dL_judge_19 rfl ki_2 (wp_ireturn dL_judge_20 rfl ⟨by rw [e]; rfl, hK.g, hC2, fun h => by rw [e] at h; cases h⟩)⟩
    · have hE2 : E = eIA := by rw [hE, e]; rfl
      subst hE2
      exact ⟨23, ⟨[⟨0, 10, 13, 19⟩, ⟨0, 10, 17, 51⟩], [], ⟨0, 10, 21, 13⟩, 2, rfl, (List.forall_mem_cons.mpr ⟨Or.inr ⟨by decide, _, cl_RL_19, by decide, by decide⟩, (List.forall_mem_cons.mpr ⟨Or.inr ⟨by decide, _, cl_RL_51, by decide, by decide⟩, (fun _ h => absurd h List.not_mem_nil)⟩)⟩), by decide, by decide, cl_RL_13, by decide, (Or.inr ⟨dL_judge_21, rfl⟩), by decide, rfl⟩, wp_iconst (q := 24) dL_judge_23 rfl ki_3 (wp_ireturn dL_judge_24 rfl ⟨by rw [e]; rfl, hK.g, hC2, fun h => by rw [e] at h; cases h⟩)⟩
abbrev mL_perform : Mt := (yL_perform, cL_perform, 4, (some .int), [(0, 9, 12, 19), (0, 9, 15, 51)])
theorem cwL_perform : Cond.codeWith yL_perform cL_perform 4 (some .int) [(0, 9, 12, 19), (0, 9, 15, 51)] ∈ TW := List.mem_filter.mpr ⟨tt_4 (List.mem_of_getElem? (i := 186) rfl), rfl⟩
theorem okL_perform : mOKw mL_perform 3 := ⟨cwL_perform, in_RL, rfl, ⟨by decide, by decide⟩, by decide +kernel, by decide⟩
theorem W_perform {x1 : Int32} (hl0 : l.stackTraces = false) (hG : GT G) (hC : CI (I, J, R, S, nx) (κ, ι, (τ, tm, tn), (t, tp), fk, fp)) (h71 : S 71 = (101, 1)) (hs : sok hb pb κ) (hhb : hb < 2 ^ 28) : Cal l G (k + 105) 1000 14000 mL_perform [.ref 0, .int x1, .ref 71] (I, J, R, S, nx) (WQ (I, J, R, S, nx) ((aPerf κ τ tm tn x1).1).1 (Int32.toInt64 ((aPerf κ τ tm tn x1).1).2) ((aPerf κ τ tm tn x1).2, ι, (τ, tm, tn), (t, tp), fk, fp)) := by
  obtain ⟨hs0, h72⟩ := hC.s0
  have hle : ((aPerf κ τ tm tn x1).1).1 ≤ 2 := by unfold aPerf; (repeat' split) <;> first | exact Nat.zero_le _ | exact Nat.le_of_ble_eq_true rfl | exact gDl _ _ _ _ _ | exact gY_le _ _ _ _ | exact Nat.le_trans (gT_le _ _) (by decide) | exact gE_le _ _ _ _ _ | exact gS_le _ _ _ _ _ _ _ | (rw [laR_0]; exact Nat.zero_le _)
  refine Cal.ofW rfl (by decide +kernel) (by simp) (Nat.le_of_ble_eq_true rfl) rfl (wp_aload_n (q := 1) dL_perform_0 rfl rfl rfl (wp_iconst (q := 2) dL_perform_1 rfl ki_0 (wp_aload_n (q := 3) dL_perform_2 rfl rfl rfl (wp_iload_n (q := 4) dL_perform_3 rfl rfl rfl (wp_invVC (q := 7) (As := [.int x1]) (t := 11) (i := 3) (mc' := 40) (ms' := 14000) dL_perform_4 rfl ok_X11_perform ml_RL_65 im_X11_perform se_X11_perform (by decide) ⟨_, rfl, rfl⟩ (by show 0 < nx; omega) hs0 rfl rfl (Nat.le_of_ble_eq_true rfl) (by decide) (by decide) (perform_p (k := k + 98) hl0 hC hs hhb) (locOK [some (.ref 0), some (.int x1)] (.ref 71) rfl) ?_ ?_)))))
  · rintro r ⟨I1, J1, R1, S1, n1⟩ ⟨hr, hK, hC2⟩
    obtain ⟨e0, rfl⟩ := ansR_l hr
    have hn1 : nx ≤ n1 := hK.1
    have s71 : S1 71 = (101, 1) := (hK.2 71 (by decide) (by decide)).2.2.2.trans h71
    exact wp_i2l (q := 8) dL_perform_7 rfl (wp_lastoreC (q := 9) dL_perform_8 rfl (by omega) s71 cn_0 cz_0 (Nat.le_of_ble_eq_true rfl) (wp_goto (tgt := 18) dL_perform_9 rfl (wp_iconst (q := 19) dL_perform_18 rfl ki_0 (wp_ireturn dL_perform_19 rfl ⟨by rw [e0]; rfl, hK.g.j, hC2.j71, fun _ => Eq.trans (up2_h (f := J1) (a := 71) (i := 0) (j := 0)) (if_pos rfl)⟩))))
  · rintro E μ' ⟨hr, hK, hC2⟩
    obtain ⟨e0, hE⟩ := ansR_r hr
    have hc : ((aPerf κ τ tm tn x1).1).1 = 1 ∨ ((aPerf κ τ tm tn x1).1).1 = 2 := by omega
    rcases hc with e | e
    · have hE2 : E = eNS := by rw [hE, e]; rfl
      subst hE2
      exact ⟨13, ⟨[], [⟨0, 9, 15, 51⟩], ⟨0, 9, 12, 19⟩, 1, rfl, (fun _ h => absurd h List.not_mem_nil), by decide, by decide, cl_RL_19, by decide, (Or.inl ⟨_, dL_perform_12, rfl, rfl⟩), by decide, rfl⟩, wp_iconst (q := 14) dL_perform_13 rfl ki_1 (wp_ireturn dL_perform_14 rfl ⟨by rw [e]; rfl, hK.g, hC2, fun h => by rw [e] at h; cases h⟩)⟩
    · have hE2 : E = eIS := by rw [hE, e]; rfl
      subst hE2
      exact ⟨16, ⟨[⟨0, 9, 12, 19⟩], [], ⟨0, 9, 15, 51⟩, 1, rfl, (List.forall_mem_cons.mpr ⟨Or.inr ⟨by decide, _, cl_RL_19, by decide, by decide⟩, (fun _ h => absurd h List.not_mem_nil)⟩), by decide, by decide, cl_RL_51, by decide, (Or.inl ⟨_, dL_perform_15, rfl, rfl⟩), by decide, rfl⟩, wp_iconst (q := 17) dL_perform_16 rfl ki_2 (wp_ireturn dL_perform_17 rfl ⟨by rw [e]; rfl, hK.g, hC2, fun h => by rw [e] at h; cases h⟩)⟩
abbrev mL_season : Mt := (yL_season, cL_season, 5, (some .int), [(0, 10, 13, 13)])
theorem cwL_season : Cond.codeWith yL_season cL_season 5 (some .int) [(0, 10, 13, 13)] ∈ TW := List.mem_filter.mpr ⟨tt_4 (List.mem_of_getElem? (i := 193) rfl), rfl⟩
theorem okL_season : mOKw mL_season 4 := ⟨cwL_season, in_RL, rfl, ⟨by decide, by decide⟩, by decide +kernel, by decide⟩
theorem W_season {x1 : Int32} {x2 : Int32} (hl0 : l.stackTraces = false) (hG : GT G) (hC : CI (I, J, R, S, nx) (κ, ι, (τ, tm, tn), (t, tp), fk, fp)) (h71 : S 71 = (101, 1)) (hs : sok hb pb κ) (hhb : hb < 2 ^ 28) : Cal l G (k + 105) 1000 14000 mL_season [.ref 0, .int x1, .int x2, .ref 71] (I, J, R, S, nx) (WQ (I, J, R, S, nx) ((aSeason κ x1 x2).1).1 (Int32.toInt64 ((aSeason κ x1 x2).1).2) ((aSeason κ x1 x2).2, ι, (τ, tm, tn), (t, tp), fk, fp)) := by
  obtain ⟨hs0, h72⟩ := hC.s0
  have hle : ((aSeason κ x1 x2).1).1 ≤ 1 := by unfold aSeason; (repeat' split) <;> first | exact Nat.zero_le _ | exact Nat.le_of_ble_eq_true rfl | exact gDl _ _ _ _ _ | exact gY_le _ _ _ _ | exact Nat.le_trans (gT_le _ _) (by decide) | exact gE_le _ _ _ _ _ | exact gS_le _ _ _ _ _ _ _ | (rw [laR_0]; exact Nat.zero_le _)
  refine Cal.ofW rfl (by decide +kernel) (by simp) (Nat.le_of_ble_eq_true rfl) rfl (wp_aload_n (q := 1) dL_season_0 rfl rfl rfl (wp_iconst (q := 2) dL_season_1 rfl ki_0 (wp_aload_n (q := 3) dL_season_2 rfl rfl rfl (wp_iload_n (q := 4) dL_season_3 rfl rfl rfl (wp_iload_n (q := 5) dL_season_4 rfl rfl rfl (wp_invVC (q := 8) (As := [.int x1, .int x2]) (t := 11) (i := 4) (mc' := 40) (ms' := 14000) dL_season_5 rfl ok_X11_season ml_RL_68 im_X11_season se_X11_season (by decide) ⟨_, rfl, rfl⟩ (by show 0 < nx; omega) hs0 rfl rfl (Nat.le_of_ble_eq_true rfl) (by decide) (by decide) (season_p (k := k + 98) hl0 hC hs hhb) (locOK [some (.ref 0), some (.int x1), some (.int x2)] (.ref 71) rfl) ?_ ?_))))))
  · rintro r ⟨I1, J1, R1, S1, n1⟩ ⟨hr, hK, hC2⟩
    obtain ⟨e0, rfl⟩ := ansR_l hr
    have hn1 : nx ≤ n1 := hK.1
    have s71 : S1 71 = (101, 1) := (hK.2 71 (by decide) (by decide)).2.2.2.trans h71
    exact wp_i2l (q := 9) dL_season_8 rfl (wp_lastoreC (q := 10) dL_season_9 rfl (by omega) s71 cn_0 cz_0 (Nat.le_of_ble_eq_true rfl) (wp_goto (tgt := 17) dL_season_10 rfl (wp_iconst (q := 18) dL_season_17 rfl ki_0 (wp_ireturn dL_season_18 rfl ⟨by rw [e0]; rfl, hK.g.j, hC2.j71, fun _ => Eq.trans (up2_h (f := J1) (a := 71) (i := 0) (j := 0)) (if_pos rfl)⟩))))
  · rintro E μ' ⟨hr, hK, hC2⟩
    obtain ⟨e0, hE⟩ := ansR_r hr
    have e : ((aSeason κ x1 x2).1).1 = 1 := by omega
    · have hE2 : E = eIA := by rw [hE, e]; rfl
      subst hE2
      exact ⟨15, ⟨[], [], ⟨0, 10, 13, 13⟩, 2, rfl, (fun _ h => absurd h List.not_mem_nil), by decide, by decide, cl_RL_13, by decide, (Or.inr ⟨dL_season_13, rfl⟩), by decide, rfl⟩, wp_iconst (q := 16) dL_season_15 rfl ki_1 (wp_ireturn dL_season_16 rfl ⟨by rw [e]; rfl, hK.g, hC2, fun h => by rw [e] at h; cases h⟩)⟩
abbrev mL_soonest : Mt := (yL_soonest, cL_soonest, 6, (some .int), [(0, 12, 15, 19), (0, 12, 19, 13)])
theorem cwL_soonest : Cond.codeWith yL_soonest cL_soonest 6 (some .int) [(0, 12, 15, 19), (0, 12, 19, 13)] ∈ TW := List.mem_filter.mpr ⟨tt_4 (List.mem_of_getElem? (i := 209) rfl), rfl⟩
theorem okL_soonest : mOKw mL_soonest 5 := ⟨cwL_soonest, in_RL, rfl, ⟨by decide, by decide⟩, by decide +kernel, by decide⟩
theorem W_soonest {x1 : Int32} {x2 : Int32} {x3 : Int32} (hl0 : l.stackTraces = false) (hG : GT G) (hC : CI (I, J, R, S, nx) (κ, ι, (τ, tm, tn), (t, tp), fk, fp)) (h71 : S 71 = (101, 1)) (hs : sok hb pb κ) (hhb : hb < 2 ^ 28) : Cal l G (k + 105) 1000 14000 mL_soonest [.ref 0, .int x1, .int x2, .int x3, .ref 71] (I, J, R, S, nx) (WQ (I, J, R, S, nx) (aSoonest κ x1 x2 x3).1 (Int32.toInt64 (aSoonest κ x1 x2 x3).2) (κ, ι, (τ, tm, tn), (t, tp), fk, fp)) := by
  obtain ⟨hs0, h72⟩ := hC.s0
  have hle : (aSoonest κ x1 x2 x3).1 ≤ 2 := by unfold aSoonest; (repeat' split) <;> first | exact Nat.zero_le _ | exact Nat.le_of_ble_eq_true rfl | exact gDl _ _ _ _ _ | exact gY_le _ _ _ _ | exact Nat.le_trans (gT_le _ _) (by decide) | exact gE_le _ _ _ _ _ | exact gS_le _ _ _ _ _ _ _ | (rw [laR_0]; exact Nat.zero_le _)
  refine Cal.ofW rfl (by decide +kernel) (by simp) (Nat.le_of_ble_eq_true rfl) rfl (wp_aload (q := 2) dL_soonest_0 rfl rfl (wp_iconst (q := 3) dL_soonest_2 rfl ki_0 (wp_aload_n (q := 4) dL_soonest_3 rfl rfl rfl (wp_iload_n (q := 5) dL_soonest_4 rfl rfl rfl (wp_iload_n (q := 6) dL_soonest_5 rfl rfl rfl (wp_iload_n (q := 7) dL_soonest_6 rfl rfl rfl (wp_invVC (q := 10) (As := [.int x1, .int x2, .int x3]) (t := 11) (i := 5) (mc' := 40) (ms' := 14000) dL_soonest_7 rfl ok_X11_soonest ml_RL_71 im_X11_soonest se_X11_soonest (by decide) ⟨_, rfl, rfl⟩ (by show 0 < nx; omega) hs0 rfl rfl (Nat.le_of_ble_eq_true rfl) (by decide) (by decide) (soonest_p (k := k + 98) hl0 hC hs hhb) (locOK [some (.ref 0), some (.int x1), some (.int x2), some (.int x3)] (.ref 71) rfl) ?_ ?_)))))))
  · rintro r ⟨I1, J1, R1, S1, n1⟩ ⟨hr, hK, hC2⟩
    obtain ⟨e0, rfl⟩ := ansR_l hr
    have hn1 : nx ≤ n1 := hK.1
    have s71 : S1 71 = (101, 1) := (hK.2 71 (by decide) (by decide)).2.2.2.trans h71
    exact wp_i2l (q := 11) dL_soonest_10 rfl (wp_lastoreC (q := 12) dL_soonest_11 rfl (by omega) s71 cn_0 cz_0 (Nat.le_of_ble_eq_true rfl) (wp_goto (tgt := 23) dL_soonest_12 rfl (wp_iconst (q := 24) dL_soonest_23 rfl ki_0 (wp_ireturn dL_soonest_24 rfl ⟨by rw [e0]; rfl, hK.g.j, hC2.j71, fun _ => Eq.trans (up2_h (f := J1) (a := 71) (i := 0) (j := 0)) (if_pos rfl)⟩))))
  · rintro E μ' ⟨hr, hK, hC2⟩
    obtain ⟨e0, hE⟩ := ansR_r hr
    have hc : (aSoonest κ x1 x2 x3).1 = 1 ∨ (aSoonest κ x1 x2 x3).1 = 2 := by omega
    rcases hc with e | e
    · have hE2 : E = eNS := by rw [hE, e]; rfl
      subst hE2
      exact ⟨17, ⟨[], [⟨0, 12, 19, 13⟩], ⟨0, 12, 15, 19⟩, 2, rfl, (fun _ h => absurd h List.not_mem_nil), by decide, by decide, cl_RL_19, by decide, (Or.inr ⟨dL_soonest_15, rfl⟩), by decide, rfl⟩, wp_iconst (q := 18) dL_soonest_17 rfl ki_1 (wp_ireturn dL_soonest_18 rfl ⟨by rw [e]; rfl, hK.g, hC2, fun h => by rw [e] at h; cases h⟩)⟩
    · have hE2 : E = eIA := by rw [hE, e]; rfl
      subst hE2
      exact ⟨21, ⟨[⟨0, 12, 15, 19⟩], [], ⟨0, 12, 19, 13⟩, 2, rfl, (List.forall_mem_cons.mpr ⟨Or.inr ⟨by decide, _, cl_RL_19, by decide, by decide⟩, (fun _ h => absurd h List.not_mem_nil)⟩), by decide, by decide, cl_RL_13, by decide, (Or.inr ⟨dL_soonest_19, rfl⟩), by decide, rfl⟩, wp_iconst (q := 22) dL_soonest_21 rfl ki_2 (wp_ireturn dL_soonest_22 rfl ⟨by rw [e]; rfl, hK.g, hC2, fun h => by rw [e] at h; cases h⟩)⟩
abbrev mL_where : Mt := (yL_where, cL_where, 5, (some .int), [(0, 10, 13, 13)])
theorem cwL_where : Cond.codeWith yL_where cL_where 5 (some .int) [(0, 10, 13, 13)] ∈ TW := List.mem_filter.mpr ⟨tt_4 (List.mem_of_getElem? (i := 228) rfl), rfl⟩
theorem okL_where : mOKw mL_where 4 := ⟨cwL_where, in_RL, rfl, ⟨by decide, by decide⟩, by decide +kernel, by decide⟩
theorem W_where {x1 : Int32} {x2 : Int32} (hl0 : l.stackTraces = false) (hG : GT G) (hC : CI (I, J, R, S, nx) (κ, ι, (τ, tm, tn), (t, tp), fk, fp)) (h71 : S 71 = (101, 1)) (hs : sok hb pb κ) (hhb : hb < 2 ^ 28) : Cal l G (k + 105) 1000 14000 mL_where [.ref 0, .int x1, .int x2, .ref 71] (I, J, R, S, nx) (WQ (I, J, R, S, nx) (aWhere κ x1 x2).1 (Int32.toInt64 (aWhere κ x1 x2).2) (κ, ι, (τ, tm, tn), (t, tp), fk, fp)) := by
  obtain ⟨hs0, h72⟩ := hC.s0
  have hle : (aWhere κ x1 x2).1 ≤ 1 := by unfold aWhere; (repeat' split) <;> first | exact Nat.zero_le _ | exact Nat.le_of_ble_eq_true rfl | exact gDl _ _ _ _ _ | exact gY_le _ _ _ _ | exact Nat.le_trans (gT_le _ _) (by decide) | exact gE_le _ _ _ _ _ | exact gS_le _ _ _ _ _ _ _ | (rw [laR_0]; exact Nat.zero_le _)
  refine Cal.ofW rfl (by decide +kernel) (by simp) (Nat.le_of_ble_eq_true rfl) rfl (wp_aload_n (q := 1) dL_where_0 rfl rfl rfl (wp_iconst (q := 2) dL_where_1 rfl ki_0 (wp_aload_n (q := 3) dL_where_2 rfl rfl rfl (wp_iload_n (q := 4) dL_where_3 rfl rfl rfl (wp_iload_n (q := 5) dL_where_4 rfl rfl rfl (wp_invVC (q := 8) (As := [.int x1, .int x2]) (t := 11) (i := 4) (mc' := 40) (ms' := 14000) dL_where_5 rfl ok_X11_where ml_RL_74 im_X11_where se_X11_where (by decide) ⟨_, rfl, rfl⟩ (by show 0 < nx; omega) hs0 rfl rfl (Nat.le_of_ble_eq_true rfl) (by decide) (by decide) (where_p (k := k + 98) hl0 hC hs hhb) (locOK [some (.ref 0), some (.int x1), some (.int x2)] (.ref 71) rfl) ?_ ?_))))))
  · rintro r ⟨I1, J1, R1, S1, n1⟩ ⟨hr, hK, hC2⟩
    obtain ⟨e0, rfl⟩ := ansR_l hr
    have hn1 : nx ≤ n1 := hK.1
    have s71 : S1 71 = (101, 1) := (hK.2 71 (by decide) (by decide)).2.2.2.trans h71
    exact wp_i2l (q := 9) dL_where_8 rfl (wp_lastoreC (q := 10) dL_where_9 rfl (by omega) s71 cn_0 cz_0 (Nat.le_of_ble_eq_true rfl) (wp_goto (tgt := 17) dL_where_10 rfl (wp_iconst (q := 18) dL_where_17 rfl ki_0 (wp_ireturn dL_where_18 rfl ⟨by rw [e0]; rfl, hK.g.j, hC2.j71, fun _ => Eq.trans (up2_h (f := J1) (a := 71) (i := 0) (j := 0)) (if_pos rfl)⟩))))
  · rintro E μ' ⟨hr, hK, hC2⟩
    obtain ⟨e0, hE⟩ := ansR_r hr
    have e : (aWhere κ x1 x2).1 = 1 := by omega
    · have hE2 : E = eIA := by rw [hE, e]; rfl
      subst hE2
      exact ⟨15, ⟨[], [], ⟨0, 10, 13, 13⟩, 2, rfl, (fun _ h => absurd h List.not_mem_nil), by decide, by decide, cl_RL_13, by decide, (Or.inr ⟨dL_where_13, rfl⟩), by decide, rfl⟩, wp_iconst (q := 16) dL_where_15 rfl ki_1 (wp_ireturn dL_where_16 rfl ⟨by rw [e]; rfl, hK.g, hC2, fun h => by rw [e] at h; cases h⟩)⟩
abbrev mL_cheapest : Mt := (yL_cheapest, cL_cheapest, 6, (some .int), [(0, 12, 15, 19), (0, 12, 19, 13)])
theorem cwL_cheapest : Cond.codeWith yL_cheapest cL_cheapest 6 (some .int) [(0, 12, 15, 19), (0, 12, 19, 13)] ∈ TW := List.mem_filter.mpr ⟨tt_4 (List.mem_of_getElem? (i := 235) rfl), rfl⟩
theorem okL_cheapest : mOKw mL_cheapest 5 := ⟨cwL_cheapest, in_RL, rfl, ⟨by decide, by decide⟩, by decide +kernel, by decide⟩
theorem W_cheapest {x1 : Int32} {x2 : Int32} {x3 : Int32} (hl0 : l.stackTraces = false) (hG : GT G) (hC : CI (I, J, R, S, nx) (κ, ι, (τ, tm, tn), (t, tp), fk, fp)) (h71 : S 71 = (101, 1)) (hs : sok hb pb κ) (hhb : hb < 2 ^ 28) : Cal l G (k + 105) 1000 14000 mL_cheapest [.ref 0, .int x1, .int x2, .int x3, .ref 71] (I, J, R, S, nx) (WQ (I, J, R, S, nx) (aCheap κ x1 x2 x3).1 (Int32.toInt64 (aCheap κ x1 x2 x3).2) (κ, ι, (τ, tm, tn), (t, tp), fk, fp)) := by
  obtain ⟨hs0, h72⟩ := hC.s0
  have hle : (aCheap κ x1 x2 x3).1 ≤ 2 := by unfold aCheap; (repeat' split) <;> first | exact Nat.zero_le _ | exact Nat.le_of_ble_eq_true rfl | exact gDl _ _ _ _ _ | exact gY_le _ _ _ _ | exact Nat.le_trans (gT_le _ _) (by decide) | exact gE_le _ _ _ _ _ | exact gS_le _ _ _ _ _ _ _ | (rw [laR_0]; exact Nat.zero_le _)
  refine Cal.ofW rfl (by decide +kernel) (by simp) (Nat.le_of_ble_eq_true rfl) rfl (wp_aload (q := 2) dL_cheapest_0 rfl rfl (wp_iconst (q := 3) dL_cheapest_2 rfl ki_0 (wp_aload_n (q := 4) dL_cheapest_3 rfl rfl rfl (wp_iload_n (q := 5) dL_cheapest_4 rfl rfl rfl (wp_iload_n (q := 6) dL_cheapest_5 rfl rfl rfl (wp_iload_n (q := 7) dL_cheapest_6 rfl rfl rfl (wp_invVC (q := 10) (As := [.int x1, .int x2, .int x3]) (t := 11) (i := 5) (mc' := 40) (ms' := 14000) dL_cheapest_7 rfl ok_X11_cheapest ml_RL_77 im_X11_cheapest se_X11_cheapest (by decide) ⟨_, rfl, rfl⟩ (by show 0 < nx; omega) hs0 rfl rfl (Nat.le_of_ble_eq_true rfl) (by decide) (by decide) (cheapest_p (k := k + 98) hl0 hC hs hhb) (locOK [some (.ref 0), some (.int x1), some (.int x2), some (.int x3)] (.ref 71) rfl) ?_ ?_)))))))
  · rintro r ⟨I1, J1, R1, S1, n1⟩ ⟨hr, hK, hC2⟩
    obtain ⟨e0, rfl⟩ := ansR_l hr
    have hn1 : nx ≤ n1 := hK.1
    have s71 : S1 71 = (101, 1) := (hK.2 71 (by decide) (by decide)).2.2.2.trans h71
    exact wp_i2l (q := 11) dL_cheapest_10 rfl (wp_lastoreC (q := 12) dL_cheapest_11 rfl (by omega) s71 cn_0 cz_0 (Nat.le_of_ble_eq_true rfl) (wp_goto (tgt := 23) dL_cheapest_12 rfl (wp_iconst (q := 24) dL_cheapest_23 rfl ki_0 (wp_ireturn dL_cheapest_24 rfl ⟨by rw [e0]; rfl, hK.g.j, hC2.j71, fun _ => Eq.trans (up2_h (f := J1) (a := 71) (i := 0) (j := 0)) (if_pos rfl)⟩))))
  · rintro E μ' ⟨hr, hK, hC2⟩
    obtain ⟨e0, hE⟩ := ansR_r hr
    have hc : (aCheap κ x1 x2 x3).1 = 1 ∨ (aCheap κ x1 x2 x3).1 = 2 := by omega
    rcases hc with e | e
    · have hE2 : E = eNS := by rw [hE, e]; rfl
      subst hE2
      exact ⟨17, ⟨[], [⟨0, 12, 19, 13⟩], ⟨0, 12, 15, 19⟩, 2, rfl, (fun _ h => absurd h List.not_mem_nil), by decide, by decide, cl_RL_19, by decide, (Or.inr ⟨dL_cheapest_15, rfl⟩), by decide, rfl⟩, wp_iconst (q := 18) dL_cheapest_17 rfl ki_1 (wp_ireturn dL_cheapest_18 rfl ⟨by rw [e]; rfl, hK.g, hC2, fun h => by rw [e] at h; cases h⟩)⟩
    · have hE2 : E = eIA := by rw [hE, e]; rfl
      subst hE2
      exact ⟨21, ⟨[⟨0, 12, 15, 19⟩], [], ⟨0, 12, 19, 13⟩, 2, rfl, (List.forall_mem_cons.mpr ⟨Or.inr ⟨by decide, _, cl_RL_19, by decide, by decide⟩, (fun _ h => absurd h List.not_mem_nil)⟩), by decide, by decide, cl_RL_13, by decide, (Or.inr ⟨dL_cheapest_19, rfl⟩), by decide, rfl⟩, wp_iconst (q := 22) dL_cheapest_21 rfl ki_2 (wp_ireturn dL_cheapest_22 rfl ⟨by rw [e]; rfl, hK.g, hC2, fun h => by rw [e] at h; cases h⟩)⟩
abbrev mL_freeHours : Mt := (yL_freeHours, cL_freeHours, 6, (some .int), [(0, 12, 15, 19), (0, 12, 19, 13)])
theorem cwL_freeHours : Cond.codeWith yL_freeHours cL_freeHours 6 (some .int) [(0, 12, 15, 19), (0, 12, 19, 13)] ∈ TW := List.mem_filter.mpr ⟨tt_5 (List.mem_of_getElem? (i := 7) rfl), rfl⟩
theorem okL_freeHours : mOKw mL_freeHours 5 := ⟨cwL_freeHours, in_RL, rfl, ⟨by decide, by decide⟩, by decide +kernel, by decide⟩
theorem W_freeHours {x1 : Int32} {x2 : Int32} {x3 : Int32} (hl0 : l.stackTraces = false) (hG : GT G) (hC : CI (I, J, R, S, nx) (κ, ι, (τ, tm, tn), (t, tp), fk, fp)) (h71 : S 71 = (101, 1)) (hs : sok hb pb κ) (hhb : hb < 2 ^ 28) : Cal l G (k + 105) 1000 14000 mL_freeHours [.ref 0, .int x1, .int x2, .int x3, .ref 71] (I, J, R, S, nx) (WQ (I, J, R, S, nx) (aFreeH κ x1 x2 x3).1 (Int32.toInt64 (aFreeH κ x1 x2 x3).2) (κ, ι, (τ, tm, tn), (t, tp), fk, fp)) := by
  obtain ⟨hs0, h72⟩ := hC.s0
  have hle : (aFreeH κ x1 x2 x3).1 ≤ 2 := by unfold aFreeH; (repeat' split) <;> first | exact Nat.zero_le _ | exact Nat.le_of_ble_eq_true rfl | exact gDl _ _ _ _ _ | exact gY_le _ _ _ _ | exact Nat.le_trans (gT_le _ _) (by decide) | exact gE_le _ _ _ _ _ | exact gS_le _ _ _ _ _ _ _ | (rw [laR_0]; exact Nat.zero_le _)
  refine Cal.ofW rfl (by decide +kernel) (by simp) (Nat.le_of_ble_eq_true rfl) rfl (wp_aload (q := 2) dL_freeHours_0 rfl rfl (wp_iconst (q := 3) dL_freeHours_2 rfl ki_0 (wp_aload_n (q := 4) dL_freeHours_3 rfl rfl rfl (wp_iload_n (q := 5) dL_freeHours_4 rfl rfl rfl (wp_iload_n (q := 6) dL_freeHours_5 rfl rfl rfl (wp_iload_n (q := 7) dL_freeHours_6 rfl rfl rfl (wp_invVC (q := 10) (As := [.int x1, .int x2, .int x3]) (t := 11) (i := 5) (mc' := 40) (ms' := 14000) dL_freeHours_7 rfl ok_X11_freeHours ml_RL_80 im_X11_freeHours se_X11_freeHours (by decide) ⟨_, rfl, rfl⟩ (by show 0 < nx; omega) hs0 rfl rfl (Nat.le_of_ble_eq_true rfl) (by decide) (by decide) (freeHours_p (k := k + 98) hl0 hC hs hhb) (locOK [some (.ref 0), some (.int x1), some (.int x2), some (.int x3)] (.ref 71) rfl) ?_ ?_)))))))
  · rintro r ⟨I1, J1, R1, S1, n1⟩ ⟨hr, hK, hC2⟩
    obtain ⟨e0, rfl⟩ := ansR_l hr
    have hn1 : nx ≤ n1 := hK.1
    have s71 : S1 71 = (101, 1) := (hK.2 71 (by decide) (by decide)).2.2.2.trans h71
    exact wp_i2l (q := 11) dL_freeHours_10 rfl (wp_lastoreC (q := 12) dL_freeHours_11 rfl (by omega) s71 cn_0 cz_0 (Nat.le_of_ble_eq_true rfl) (wp_goto (tgt := 23) dL_freeHours_12 rfl (wp_iconst (q := 24) dL_freeHours_23 rfl ki_0 (wp_ireturn dL_freeHours_24 rfl ⟨by rw [e0]; rfl, hK.g.j, hC2.j71, fun _ => Eq.trans (up2_h (f := J1) (a := 71) (i := 0) (j := 0)) (if_pos rfl)⟩))))
  · rintro E μ' ⟨hr, hK, hC2⟩
    obtain ⟨e0, hE⟩ := ansR_r hr
    have hc : (aFreeH κ x1 x2 x3).1 = 1 ∨ (aFreeH κ x1 x2 x3).1 = 2 := by omega
    rcases hc with e | e
    · have hE2 : E = eNS := by rw [hE, e]; rfl
      subst hE2
      exact ⟨17, ⟨[], [⟨0, 12, 19, 13⟩], ⟨0, 12, 15, 19⟩, 2, rfl, (fun _ h => absurd h List.not_mem_nil), by decide, by decide, cl_RL_19, by decide, (Or.inr ⟨dL_freeHours_15, rfl⟩), by decide, rfl⟩, wp_iconst (q := 18) dL_freeHours_17 rfl ki_1 (wp_ireturn dL_freeHours_18 rfl ⟨by rw [e]; rfl, hK.g, hC2, fun h => by rw [e] at h; cases h⟩)⟩
    · have hE2 : E = eIA := by rw [hE, e]; rfl
      subst hE2
      exact ⟨21, ⟨[⟨0, 12, 15, 19⟩], [], ⟨0, 12, 19, 13⟩, 2, rfl, (List.forall_mem_cons.mpr ⟨Or.inr ⟨by decide, _, cl_RL_19, by decide, by decide⟩, (fun _ h => absurd h List.not_mem_nil)⟩), by decide, by decide, cl_RL_13, by decide, (Or.inr ⟨dL_freeHours_19, rfl⟩), by decide, rfl⟩, wp_iconst (q := 22) dL_freeHours_21 rfl ki_2 (wp_ireturn dL_freeHours_22 rfl ⟨by rw [e]; rfl, hK.g, hC2, fun h => by rw [e] at h; cases h⟩)⟩
abbrev mL_spell : Mt := (yL_spell, cL_spell, 7, (some .int), [(0, 14, 17, 19), (0, 14, 21, 13)])
theorem cwL_spell : Cond.codeWith yL_spell cL_spell 7 (some .int) [(0, 14, 17, 19), (0, 14, 21, 13)] ∈ TW := List.mem_filter.mpr ⟨tt_5 (List.mem_of_getElem? (i := 18) rfl), rfl⟩
theorem okL_spell : mOKw mL_spell 6 := ⟨cwL_spell, in_RL, rfl, ⟨by decide, by decide⟩, by decide +kernel, by decide⟩
theorem W_spell {x1 : Int32} {x2 : Int32} {x3 : Int32} {x4 : Int32} (hl0 : l.stackTraces = false) (hG : GT G) (hC : CI (I, J, R, S, nx) (κ, ι, (τ, tm, tn), (t, tp), fk, fp)) (h71 : S 71 = (101, 1)) (hs : sok hb pb κ) (hhb : hb < 2 ^ 28) : Cal l G (k + 105) 1000 14000 mL_spell [.ref 0, .int x1, .int x2, .int x3, .int x4, .ref 71] (I, J, R, S, nx) (WQ (I, J, R, S, nx) (aSpell κ x1 x2 x3 x4).1 (Int32.toInt64 (aSpell κ x1 x2 x3 x4).2) (κ, ι, (τ, tm, tn), (t, tp), fk, fp)) := by
  obtain ⟨hs0, h72⟩ := hC.s0
  have hle : (aSpell κ x1 x2 x3 x4).1 ≤ 2 := by unfold aSpell; (repeat' split) <;> first | exact Nat.zero_le _ | exact Nat.le_of_ble_eq_true rfl | exact gDl _ _ _ _ _ | exact gY_le _ _ _ _ | exact Nat.le_trans (gT_le _ _) (by decide) | exact gE_le _ _ _ _ _ | exact gS_le _ _ _ _ _ _ _ | (rw [laR_0]; exact Nat.zero_le _)
  refine Cal.ofW rfl (by decide +kernel) (by simp) (Nat.le_of_ble_eq_true rfl) rfl (wp_aload (q := 2) dL_spell_0 rfl rfl (wp_iconst (q := 3) dL_spell_2 rfl ki_0 (wp_aload_n (q := 4) dL_spell_3 rfl rfl rfl (wp_iload_n (q := 5) dL_spell_4 rfl rfl rfl (wp_iload_n (q := 6) dL_spell_5 rfl rfl rfl (wp_iload_n (q := 7) dL_spell_6 rfl rfl rfl (wp_iload (q := 9) dL_spell_7 rfl rfl (wp_invVC (q := 12) (As := [.int x1, .int x2, .int x3, .int x4]) (t := 11) (i := 6) (mc' := 40) (ms' := 14000) dL_spell_9 rfl ok_X11_spell ml_RL_83 im_X11_spell se_X11_spell (by decide) ⟨_, rfl, rfl⟩ (by show 0 < nx; omega) hs0 rfl rfl (Nat.le_of_ble_eq_true rfl) (by decide) (by decide) (spell_p (k := k + 98) hl0 hC hs hhb) (locOK [some (.ref 0), some (.int x1), some (.int x2), some (.int x3), some (.int x4)] (.ref 71) rfl) ?_ ?_))))))))
  · rintro r ⟨I1, J1, R1, S1, n1⟩ ⟨hr, hK, hC2⟩
    obtain ⟨e0, rfl⟩ := ansR_l hr
    have hn1 : nx ≤ n1 := hK.1
    have s71 : S1 71 = (101, 1) := (hK.2 71 (by decide) (by decide)).2.2.2.trans h71
    exact wp_i2l (q := 13) dL_spell_12 rfl (wp_lastoreC (q := 14) dL_spell_13 rfl (by omega) s71 cn_0 cz_0 (Nat.le_of_ble_eq_true rfl) (wp_goto (tgt := 25) dL_spell_14 rfl (wp_iconst (q := 26) dL_spell_25 rfl ki_0 (wp_ireturn dL_spell_26 rfl ⟨by rw [e0]; rfl, hK.g.j, hC2.j71, fun _ => Eq.trans (up2_h (f := J1) (a := 71) (i := 0) (j := 0)) (if_pos rfl)⟩))))
  · rintro E μ' ⟨hr, hK, hC2⟩
    obtain ⟨e0, hE⟩ := ansR_r hr
    have hc : (aSpell κ x1 x2 x3 x4).1 = 1 ∨ (aSpell κ x1 x2 x3 x4).1 = 2 := by omega
    rcases hc with e | e
    · have hE2 : E = eNS := by rw [hE, e]; rfl
      subst hE2
      exact ⟨19, ⟨[], [⟨0, 14, 21, 13⟩], ⟨0, 14, 17, 19⟩, 2, rfl, (fun _ h => absurd h List.not_mem_nil), by decide, by decide, cl_RL_19, by decide, (Or.inr ⟨dL_spell_17, rfl⟩), by decide, rfl⟩, wp_iconst (q := 20) dL_spell_19 rfl ki_1 (wp_ireturn dL_spell_20 rfl ⟨by rw [e]; rfl, hK.g, hC2, fun h => by rw [e] at h; cases h⟩)⟩
    · have hE2 : E = eIA := by rw [hE, e]; rfl
      subst hE2
      exact ⟨23, ⟨[⟨0, 14, 17, 19⟩], [], ⟨0, 14, 21, 13⟩, 2, rfl, (List.forall_mem_cons.mpr ⟨Or.inr ⟨by decide, _, cl_RL_19, by decide, by decide⟩, (fun _ h => absurd h List.not_mem_nil)⟩), by decide, by decide, cl_RL_13, by decide, (Or.inr ⟨dL_spell_21, rfl⟩), by decide, rfl⟩, wp_iconst (q := 24) dL_spell_23 rfl ki_2 (wp_ireturn dL_spell_24 rfl ⟨by rw [e]; rfl, hK.g, hC2, fun h => by rw [e] at h; cases h⟩)⟩
abbrev mL_lawless : Mt := (yL_lawless, cL_lawless, 4, (some .int), [(0, 9, 12, 19)])
theorem cwL_lawless : Cond.codeWith yL_lawless cL_lawless 4 (some .int) [(0, 9, 12, 19)] ∈ TW := List.mem_filter.mpr ⟨tt_5 (List.mem_of_getElem? (i := 29) rfl), rfl⟩
theorem okL_lawless : mOKw mL_lawless 3 := ⟨cwL_lawless, in_RL, rfl, ⟨by decide, by decide⟩, by decide +kernel, by decide⟩
theorem W_lawless {x1 : Int32} (hl0 : l.stackTraces = false) (hG : GT G) (hC : CI (I, J, R, S, nx) (κ, ι, (τ, tm, tn), (t, tp), fk, fp)) (h71 : S 71 = (101, 1)) (hs : sok hb pb κ) (hhb : hb < 2 ^ 28) : Cal l G (k + 105) 1000 14000 mL_lawless [.ref 0, .int x1, .ref 71] (I, J, R, S, nx) (WQ (I, J, R, S, nx) (aLawless κ x1).1 (Int32.toInt64 (aLawless κ x1).2) (κ, ι, (τ, tm, tn), (t, tp), fk, fp)) := by
  obtain ⟨hs0, h72⟩ := hC.s0
  have hle : (aLawless κ x1).1 ≤ 1 := by unfold aLawless; (repeat' split) <;> first | exact Nat.zero_le _ | exact Nat.le_of_ble_eq_true rfl | exact gDl _ _ _ _ _ | exact gY_le _ _ _ _ | exact Nat.le_trans (gT_le _ _) (by decide) | exact gE_le _ _ _ _ _ | exact gS_le _ _ _ _ _ _ _ | (rw [laR_0]; exact Nat.zero_le _)
  refine Cal.ofW rfl (by decide +kernel) (by simp) (Nat.le_of_ble_eq_true rfl) rfl (wp_aload_n (q := 1) dL_lawless_0 rfl rfl rfl (wp_iconst (q := 2) dL_lawless_1 rfl ki_0 (wp_aload_n (q := 3) dL_lawless_2 rfl rfl rfl (wp_iload_n (q := 4) dL_lawless_3 rfl rfl rfl (wp_invVC (q := 7) (As := [.int x1]) (t := 11) (i := 3) (mc' := 40) (ms' := 14000) dL_lawless_4 rfl ok_X11_lawless ml_RL_86 im_X11_lawless se_X11_lawless (by decide) ⟨_, rfl, rfl⟩ (by show 0 < nx; omega) hs0 rfl rfl (Nat.le_of_ble_eq_true rfl) (by decide) (by decide) (lawless_p (k := k + 100) hl0 hC hs hhb) (locOK [some (.ref 0), some (.int x1)] (.ref 71) rfl) ?_ ?_)))))
  · rintro r ⟨I1, J1, R1, S1, n1⟩ ⟨hr, hK, hC2⟩
    obtain ⟨e0, rfl⟩ := ansR_l hr
    have hn1 : nx ≤ n1 := hK.1
    have s71 : S1 71 = (101, 1) := (hK.2 71 (by decide) (by decide)).2.2.2.trans h71
    exact wp_i2l (q := 8) dL_lawless_7 rfl (wp_lastoreC (q := 9) dL_lawless_8 rfl (by omega) s71 cn_0 cz_0 (Nat.le_of_ble_eq_true rfl) (wp_goto (tgt := 15) dL_lawless_9 rfl (wp_iconst (q := 16) dL_lawless_15 rfl ki_0 (wp_ireturn dL_lawless_16 rfl ⟨by rw [e0]; rfl, hK.g.j, hC2.j71, fun _ => Eq.trans (up2_h (f := J1) (a := 71) (i := 0) (j := 0)) (if_pos rfl)⟩))))
  · rintro E μ' ⟨hr, hK, hC2⟩
    obtain ⟨e0, hE⟩ := ansR_r hr
    have e : (aLawless κ x1).1 = 1 := by omega
    · have hE2 : E = eNS := by rw [hE, e]; rfl
      subst hE2
      exact ⟨13, ⟨[], [], ⟨0, 9, 12, 19⟩, 1, rfl, (fun _ h => absurd h List.not_mem_nil), by decide, by decide, cl_RL_19, by decide, (Or.inl ⟨_, dL_lawless_12, rfl, rfl⟩), by decide, rfl⟩, wp_iconst (q := 14) dL_lawless_13 rfl ki_1 (wp_ireturn dL_lawless_14 rfl ⟨by rw [e]; rfl, hK.g, hC2, fun h => by rw [e] at h; cases h⟩)⟩
abbrev mL_heat : Mt := (yL_heat, cL_heat, 7, (some .int), [(0, 14, 17, 19), (0, 14, 21, 13)])
theorem cwL_heat : Cond.codeWith yL_heat cL_heat 7 (some .int) [(0, 14, 17, 19), (0, 14, 21, 13)] ∈ TW := List.mem_filter.mpr ⟨tt_5 (List.mem_of_getElem? (i := 36) rfl), rfl⟩
theorem okL_heat : mOKw mL_heat 6 := ⟨cwL_heat, in_RL, rfl, ⟨by decide, by decide⟩, by decide +kernel, by decide⟩
theorem W_heat {x1 : Int32} {x2 : Int32} {x3 : Int32} {x4 : Int32} (hl0 : l.stackTraces = false) (hG : GT G) (hC : CI (I, J, R, S, nx) (κ, ι, (τ, tm, tn), (t, tp), fk, fp)) (h71 : S 71 = (101, 1)) (hs : sok hb pb κ) (hhb : hb < 2 ^ 28) : Cal l G (k + 105) 1000 14000 mL_heat [.ref 0, .int x1, .int x2, .int x3, .int x4, .ref 71] (I, J, R, S, nx) (WQ (I, J, R, S, nx) (aHeat κ x1 x2 x3 x4).1 (Int32.toInt64 (aHeat κ x1 x2 x3 x4).2) (κ, ι, (τ, tm, tn), (t, tp), fk, fp)) := by
  obtain ⟨hs0, h72⟩ := hC.s0
  have hle : (aHeat κ x1 x2 x3 x4).1 ≤ 2 := by unfold aHeat; (repeat' split) <;> first | exact Nat.zero_le _ | exact Nat.le_of_ble_eq_true rfl | exact gDl _ _ _ _ _ | exact gY_le _ _ _ _ | exact Nat.le_trans (gT_le _ _) (by decide) | exact gE_le _ _ _ _ _ | exact gS_le _ _ _ _ _ _ _ | (rw [laR_0]; exact Nat.zero_le _)
  refine Cal.ofW rfl (by decide +kernel) (by simp) (Nat.le_of_ble_eq_true rfl) rfl (wp_aload (q := 2) dL_heat_0 rfl rfl (wp_iconst (q := 3) dL_heat_2 rfl ki_0 (wp_aload_n (q := 4) dL_heat_3 rfl rfl rfl (wp_iload_n (q := 5) dL_heat_4 rfl rfl rfl (wp_iload_n (q := 6) dL_heat_5 rfl rfl rfl (wp_iload_n (q := 7) dL_heat_6 rfl rfl rfl (wp_iload (q := 9) dL_heat_7 rfl rfl (wp_invVC (q := 12) (As := [.int x1, .int x2, .int x3, .int x4]) (t := 11) (i := 6) (mc' := 40) (ms' := 14000) dL_heat_9 rfl ok_X11_heat ml_RL_89 im_X11_heat se_X11_heat (by decide) ⟨_, rfl, rfl⟩ (by show 0 < nx; omega) hs0 rfl rfl (Nat.le_of_ble_eq_true rfl) (by decide) (by decide) (heat_p (k := k + 99) hl0 hC hs hhb) (locOK [some (.ref 0), some (.int x1), some (.int x2), some (.int x3), some (.int x4)] (.ref 71) rfl) ?_ ?_))))))))
  · rintro r ⟨I1, J1, R1, S1, n1⟩ ⟨hr, hK, hC2⟩
    obtain ⟨e0, rfl⟩ := ansR_l hr
    have hn1 : nx ≤ n1 := hK.1
    have s71 : S1 71 = (101, 1) := (hK.2 71 (by decide) (by decide)).2.2.2.trans h71
    exact wp_i2l (q := 13) dL_heat_12 rfl (wp_lastoreC (q := 14) dL_heat_13 rfl (by omega) s71 cn_0 cz_0 (Nat.le_of_ble_eq_true rfl) (wp_goto (tgt := 25) dL_heat_14 rfl (wp_iconst (q := 26) dL_heat_25 rfl ki_0 (wp_ireturn dL_heat_26 rfl ⟨by rw [e0]; rfl, hK.g.j, hC2.j71, fun _ => Eq.trans (up2_h (f := J1) (a := 71) (i := 0) (j := 0)) (if_pos rfl)⟩))))
  · rintro E μ' ⟨hr, hK, hC2⟩
    obtain ⟨e0, hE⟩ := ansR_r hr
    have hc : (aHeat κ x1 x2 x3 x4).1 = 1 ∨ (aHeat κ x1 x2 x3 x4).1 = 2 := by omega
    rcases hc with e | e
    · have hE2 : E = eNS := by rw [hE, e]; rfl
      subst hE2
      exact ⟨19, ⟨[], [⟨0, 14, 21, 13⟩], ⟨0, 14, 17, 19⟩, 2, rfl, (fun _ h => absurd h List.not_mem_nil), by decide, by decide, cl_RL_19, by decide, (Or.inr ⟨dL_heat_17, rfl⟩), by decide, rfl⟩, wp_iconst (q := 20) dL_heat_19 rfl ki_1 (wp_ireturn dL_heat_20 rfl ⟨by rw [e]; rfl, hK.g, hC2, fun h => by rw [e] at h; cases h⟩)⟩
    · have hE2 : E = eIA := by rw [hE, e]; rfl
      subst hE2
      exact ⟨23, ⟨[⟨0, 14, 17, 19⟩], [], ⟨0, 14, 21, 13⟩, 2, rfl, (List.forall_mem_cons.mpr ⟨Or.inr ⟨by decide, _, cl_RL_19, by decide, by decide⟩, (fun _ h => absurd h List.not_mem_nil)⟩), by decide, by decide, cl_RL_13, by decide, (Or.inr ⟨dL_heat_21, rfl⟩), by decide, rfl⟩, wp_iconst (q := 24) dL_heat_23 rfl ki_2 (wp_ireturn dL_heat_24 rfl ⟨by rw [e]; rfl, hK.g, hC2, fun h => by rw [e] at h; cases h⟩)⟩
abbrev mL_leastHeat : Mt := (yL_leastHeat, cL_leastHeat, 6, (some .int), [(0, 12, 15, 19), (0, 12, 19, 13)])
theorem cwL_leastHeat : Cond.codeWith yL_leastHeat cL_leastHeat 6 (some .int) [(0, 12, 15, 19), (0, 12, 19, 13)] ∈ TW := List.mem_filter.mpr ⟨tt_5 (List.mem_of_getElem? (i := 47) rfl), rfl⟩
theorem okL_leastHeat : mOKw mL_leastHeat 5 := ⟨cwL_leastHeat, in_RL, rfl, ⟨by decide, by decide⟩, by decide +kernel, by decide⟩
theorem W_leastHeat {x1 : Int32} {x2 : Int32} {x3 : Int32} (hl0 : l.stackTraces = false) (hG : GT G) (hC : CI (I, J, R, S, nx) (κ, ι, (τ, tm, tn), (t, tp), fk, fp)) (h71 : S 71 = (101, 1)) (hs : sok hb pb κ) (hhb : hb < 2 ^ 28) : Cal l G (k + 105) 1000 14000 mL_leastHeat [.ref 0, .int x1, .int x2, .int x3, .ref 71] (I, J, R, S, nx) (WQ (I, J, R, S, nx) (aLeast κ x1 x2 x3).1 (Int32.toInt64 (aLeast κ x1 x2 x3).2) (κ, ι, (τ, tm, tn), (t, tp), fk, fp)) := by
  obtain ⟨hs0, h72⟩ := hC.s0
  have hle : (aLeast κ x1 x2 x3).1 ≤ 2 := by unfold aLeast; (repeat' split) <;> first | exact Nat.zero_le _ | exact Nat.le_of_ble_eq_true rfl | exact gDl _ _ _ _ _ | exact gY_le _ _ _ _ | exact Nat.le_trans (gT_le _ _) (by decide) | exact gE_le _ _ _ _ _ | exact gS_le _ _ _ _ _ _ _ | (rw [laR_0]; exact Nat.zero_le _)
  refine Cal.ofW rfl (by decide +kernel) (by simp) (Nat.le_of_ble_eq_true rfl) rfl (wp_aload (q := 2) dL_leastHeat_0 rfl rfl (wp_iconst (q := 3) dL_leastHeat_2 rfl ki_0 (wp_aload_n (q := 4) dL_leastHeat_3 rfl rfl rfl (wp_iload_n (q := 5) dL_leastHeat_4 rfl rfl rfl (wp_iload_n (q := 6) dL_leastHeat_5 rfl rfl rfl (wp_iload_n (q := 7) dL_leastHeat_6 rfl rfl rfl (wp_invVC (q := 10) (As := [.int x1, .int x2, .int x3]) (t := 11) (i := 5) (mc' := 40) (ms' := 14000) dL_leastHeat_7 rfl ok_X11_leastHeat ml_RL_92 im_X11_leastHeat se_X11_leastHeat (by decide) ⟨_, rfl, rfl⟩ (by show 0 < nx; omega) hs0 rfl rfl (Nat.le_of_ble_eq_true rfl) (by decide) (by decide) (leastHeat_p (k := k + 99) hl0 hC hs hhb) (locOK [some (.ref 0), some (.int x1), some (.int x2), some (.int x3)] (.ref 71) rfl) ?_ ?_)))))))
  · rintro r ⟨I1, J1, R1, S1, n1⟩ ⟨hr, hK, hC2⟩
    obtain ⟨e0, rfl⟩ := ansR_l hr
    have hn1 : nx ≤ n1 := hK.1
    have s71 : S1 71 = (101, 1) := (hK.2 71 (by decide) (by decide)).2.2.2.trans h71
    exact wp_i2l (q := 11) dL_leastHeat_10 rfl (wp_lastoreC (q := 12) dL_leastHeat_11 rfl (by omega) s71 cn_0 cz_0 (Nat.le_of_ble_eq_true rfl) (wp_goto (tgt := 23) dL_leastHeat_12 rfl (wp_iconst (q := 24) dL_leastHeat_23 rfl ki_0 (wp_ireturn dL_leastHeat_24 rfl ⟨by rw [e0]; rfl, hK.g.j, hC2.j71, fun _ => Eq.trans (up2_h (f := J1) (a := 71) (i := 0) (j := 0)) (if_pos rfl)⟩))))
  · rintro E μ' ⟨hr, hK, hC2⟩
    obtain ⟨e0, hE⟩ := ansR_r hr
    have hc : (aLeast κ x1 x2 x3).1 = 1 ∨ (aLeast κ x1 x2 x3).1 = 2 := by omega
    rcases hc with e | e
    · have hE2 : E = eNS := by rw [hE, e]; rfl
      subst hE2
      exact ⟨17, ⟨[], [⟨0, 12, 19, 13⟩], ⟨0, 12, 15, 19⟩, 2, rfl, (fun _ h => absurd h List.not_mem_nil), by decide, by decide, cl_RL_19, by decide, (Or.inr ⟨dL_leastHeat_15, rfl⟩), by decide, rfl⟩, wp_iconst (q := 18) dL_leastHeat_17 rfl ki_1 (wp_ireturn dL_leastHeat_18 rfl ⟨by rw [e]; rfl, hK.g, hC2, fun h => by rw [e] at h; cases h⟩)⟩
    · have hE2 : E = eIA := by rw [hE, e]; rfl
      subst hE2
      exact ⟨21, ⟨[⟨0, 12, 15, 19⟩], [], ⟨0, 12, 19, 13⟩, 2, rfl, (List.forall_mem_cons.mpr ⟨Or.inr ⟨by decide, _, cl_RL_19, by decide, by decide⟩, (fun _ h => absurd h List.not_mem_nil)⟩), by decide, by decide, cl_RL_13, by decide, (Or.inr ⟨dL_leastHeat_19, rfl⟩), by decide, rfl⟩, wp_iconst (q := 22) dL_leastHeat_21 rfl ki_2 (wp_ireturn dL_leastHeat_22 rfl ⟨by rw [e]; rfl, hK.g, hC2, fun h => by rw [e] at h; cases h⟩)⟩
abbrev mL_cover : Mt := (yL_cover, cL_cover, 6, (some .int), [(0, 12, 15, 19), (0, 12, 19, 13)])
theorem cwL_cover : Cond.codeWith yL_cover cL_cover 6 (some .int) [(0, 12, 15, 19), (0, 12, 19, 13)] ∈ TW := List.mem_filter.mpr ⟨tt_5 (List.mem_of_getElem? (i := 66) rfl), rfl⟩
theorem okL_cover : mOKw mL_cover 5 := ⟨cwL_cover, in_RL, rfl, ⟨by decide, by decide⟩, by decide +kernel, by decide⟩
theorem W_cover {x1 : Int32} {x2 : Int32} {x3 : Int32} (hl0 : l.stackTraces = false) (hG : GT G) (hC : CI (I, J, R, S, nx) (κ, ι, (τ, tm, tn), (t, tp), fk, fp)) (h71 : S 71 = (101, 1)) (hs : sok hb pb κ) (hhb : hb < 2 ^ 28) : Cal l G (k + 105) 1000 14000 mL_cover [.ref 0, .int x1, .int x2, .int x3, .ref 71] (I, J, R, S, nx) (WQ (I, J, R, S, nx) (aCover κ x1 x2 x3).1 (Int32.toInt64 (aCover κ x1 x2 x3).2) (κ, ι, (τ, tm, tn), (t, tp), fk, fp)) := by
  obtain ⟨hs0, h72⟩ := hC.s0
  have hle : (aCover κ x1 x2 x3).1 ≤ 2 := by unfold aCover; (repeat' split) <;> first | exact Nat.zero_le _ | exact Nat.le_of_ble_eq_true rfl | exact gDl _ _ _ _ _ | exact gY_le _ _ _ _ | exact Nat.le_trans (gT_le _ _) (by decide) | exact gE_le _ _ _ _ _ | exact gS_le _ _ _ _ _ _ _ | (rw [laR_0]; exact Nat.zero_le _)
  refine Cal.ofW rfl (by decide +kernel) (by simp) (Nat.le_of_ble_eq_true rfl) rfl (wp_aload (q := 2) dL_cover_0 rfl rfl (wp_iconst (q := 3) dL_cover_2 rfl ki_0 (wp_aload_n (q := 4) dL_cover_3 rfl rfl rfl (wp_iload_n (q := 5) dL_cover_4 rfl rfl rfl (wp_iload_n (q := 6) dL_cover_5 rfl rfl rfl (wp_iload_n (q := 7) dL_cover_6 rfl rfl rfl (wp_invVC (q := 10) (As := [.int x1, .int x2, .int x3]) (t := 11) (i := 5) (mc' := 40) (ms' := 14000) dL_cover_7 rfl ok_X11_cover ml_RL_95 im_X11_cover se_X11_cover (by decide) ⟨_, rfl, rfl⟩ (by show 0 < nx; omega) hs0 rfl rfl (Nat.le_of_ble_eq_true rfl) (by decide) (by decide) (cover_p (k := k + 99) hl0 hC hs hhb) (locOK [some (.ref 0), some (.int x1), some (.int x2), some (.int x3)] (.ref 71) rfl) ?_ ?_)))))))
  · rintro r ⟨I1, J1, R1, S1, n1⟩ ⟨hr, hK, hC2⟩
    obtain ⟨e0, rfl⟩ := ansR_l hr
    have hn1 : nx ≤ n1 := hK.1
    have s71 : S1 71 = (101, 1) := (hK.2 71 (by decide) (by decide)).2.2.2.trans h71
    exact wp_i2l (q := 11) dL_cover_10 rfl (wp_lastoreC (q := 12) dL_cover_11 rfl (by omega) s71 cn_0 cz_0 (Nat.le_of_ble_eq_true rfl) (wp_goto (tgt := 23) dL_cover_12 rfl (wp_iconst (q := 24) dL_cover_23 rfl ki_0 (wp_ireturn dL_cover_24 rfl ⟨by rw [e0]; rfl, hK.g.j, hC2.j71, fun _ => Eq.trans (up2_h (f := J1) (a := 71) (i := 0) (j := 0)) (if_pos rfl)⟩))))
  · rintro E μ' ⟨hr, hK, hC2⟩
    obtain ⟨e0, hE⟩ := ansR_r hr
    have hc : (aCover κ x1 x2 x3).1 = 1 ∨ (aCover κ x1 x2 x3).1 = 2 := by omega
    rcases hc with e | e
    · have hE2 : E = eNS := by rw [hE, e]; rfl
      subst hE2
      exact ⟨17, ⟨[], [⟨0, 12, 19, 13⟩], ⟨0, 12, 15, 19⟩, 2, rfl, (fun _ h => absurd h List.not_mem_nil), by decide, by decide, cl_RL_19, by decide, (Or.inr ⟨dL_cover_15, rfl⟩), by decide, rfl⟩, wp_iconst (q := 18) dL_cover_17 rfl ki_1 (wp_ireturn dL_cover_18 rfl ⟨by rw [e]; rfl, hK.g, hC2, fun h => by rw [e] at h; cases h⟩)⟩
    · have hE2 : E = eIA := by rw [hE, e]; rfl
      subst hE2
      exact ⟨21, ⟨[⟨0, 12, 15, 19⟩], [], ⟨0, 12, 19, 13⟩, 2, rfl, (List.forall_mem_cons.mpr ⟨Or.inr ⟨by decide, _, cl_RL_19, by decide, by decide⟩, (fun _ h => absurd h List.not_mem_nil)⟩), by decide, by decide, cl_RL_13, by decide, (Or.inr ⟨dL_cover_19, rfl⟩), by decide, rfl⟩, wp_iconst (q := 22) dL_cover_21 rfl ki_2 (wp_ireturn dL_cover_22 rfl ⟨by rw [e]; rfl, hK.g, hC2, fun h => by rw [e] at h; cases h⟩)⟩
abbrev mL_widen : Mt := (yL_widen, cL_widen, 5, (some .int), [(0, 10, 13, 19)])
theorem cwL_widen : Cond.codeWith yL_widen cL_widen 5 (some .int) [(0, 10, 13, 19)] ∈ TW := List.mem_filter.mpr ⟨tt_5 (List.mem_of_getElem? (i := 82) rfl), rfl⟩
theorem okL_widen : mOKw mL_widen 4 := ⟨cwL_widen, in_RL, rfl, ⟨by decide, by decide⟩, by decide +kernel, by decide⟩
theorem W_widen {x1 : Int32} {x2 : Int32} (hl0 : l.stackTraces = false) (hG : GT G) (hC : CI (I, J, R, S, nx) (κ, ι, (τ, tm, tn), (t, tp), fk, fp)) (h71 : S 71 = (101, 1)) (hs : sok hb pb κ) (hhb : hb < 2 ^ 28) : Cal l G (k + 105) 1000 14000 mL_widen [.ref 0, .int x1, .int x2, .ref 71] (I, J, R, S, nx) (WQ (I, J, R, S, nx) (aWiden κ x1 x2).1 (Int32.toInt64 (aWiden κ x1 x2).2) (κ, ι, (τ, tm, tn), (t, tp), fk, fp)) := by
  obtain ⟨hs0, h72⟩ := hC.s0
  have hle : (aWiden κ x1 x2).1 ≤ 1 := by unfold aWiden; (repeat' split) <;> first | exact Nat.zero_le _ | exact Nat.le_of_ble_eq_true rfl | exact gDl _ _ _ _ _ | exact gY_le _ _ _ _ | exact Nat.le_trans (gT_le _ _) (by decide) | exact gE_le _ _ _ _ _ | exact gS_le _ _ _ _ _ _ _ | (rw [laR_0]; exact Nat.zero_le _)
  refine Cal.ofW rfl (by decide +kernel) (by simp) (Nat.le_of_ble_eq_true rfl) rfl (wp_aload_n (q := 1) dL_widen_0 rfl rfl rfl (wp_iconst (q := 2) dL_widen_1 rfl ki_0 (wp_aload_n (q := 3) dL_widen_2 rfl rfl rfl (wp_iload_n (q := 4) dL_widen_3 rfl rfl rfl (wp_iload_n (q := 5) dL_widen_4 rfl rfl rfl (wp_invVC (q := 8) (As := [.int x1, .int x2]) (t := 11) (i := 4) (mc' := 40) (ms' := 14000) dL_widen_5 rfl ok_X11_widen ml_RL_98 im_X11_widen se_X11_widen (by decide) ⟨_, rfl, rfl⟩ (by show 0 < nx; omega) hs0 rfl rfl (Nat.le_of_ble_eq_true rfl) (by decide) (by decide) (widen_p (k := k + 101) hl0 hC hs hhb) (locOK [some (.ref 0), some (.int x1), some (.int x2)] (.ref 71) rfl) ?_ ?_))))))
  · rintro r ⟨I1, J1, R1, S1, n1⟩ ⟨hr, hK, hC2⟩
    obtain ⟨e0, rfl⟩ := ansR_l hr
    have hn1 : nx ≤ n1 := hK.1
    have s71 : S1 71 = (101, 1) := (hK.2 71 (by decide) (by decide)).2.2.2.trans h71
    exact wp_i2l (q := 9) dL_widen_8 rfl (wp_lastoreC (q := 10) dL_widen_9 rfl (by omega) s71 cn_0 cz_0 (Nat.le_of_ble_eq_true rfl) (wp_goto (tgt := 17) dL_widen_10 rfl (wp_iconst (q := 18) dL_widen_17 rfl ki_0 (wp_ireturn dL_widen_18 rfl ⟨by rw [e0]; rfl, hK.g.j, hC2.j71, fun _ => Eq.trans (up2_h (f := J1) (a := 71) (i := 0) (j := 0)) (if_pos rfl)⟩))))
  · rintro E μ' ⟨hr, hK, hC2⟩
    obtain ⟨e0, hE⟩ := ansR_r hr
    have e : (aWiden κ x1 x2).1 = 1 := by omega
    · have hE2 : E = eNS := by rw [hE, e]; rfl
      subst hE2
      exact ⟨15, ⟨[], [], ⟨0, 10, 13, 19⟩, 2, rfl, (fun _ h => absurd h List.not_mem_nil), by decide, by decide, cl_RL_19, by decide, (Or.inr ⟨dL_widen_13, rfl⟩), by decide, rfl⟩, wp_iconst (q := 16) dL_widen_15 rfl ki_1 (wp_ireturn dL_widen_16 rfl ⟨by rw [e]; rfl, hK.g, hC2, fun h => by rw [e] at h; cases h⟩)⟩
abbrev mL_heaviest : Mt := (yL_heaviest, cL_heaviest, 4, (some .int), [(0, 9, 12, 19)])
theorem cwL_heaviest : Cond.codeWith yL_heaviest cL_heaviest 4 (some .int) [(0, 9, 12, 19)] ∈ TW := List.mem_filter.mpr ⟨tt_5 (List.mem_of_getElem? (i := 89) rfl), rfl⟩
theorem okL_heaviest : mOKw mL_heaviest 3 := ⟨cwL_heaviest, in_RL, rfl, ⟨by decide, by decide⟩, by decide +kernel, by decide⟩
theorem W_heaviest {x1 : Int32} (hl0 : l.stackTraces = false) (hG : GT G) (hC : CI (I, J, R, S, nx) (κ, ι, (τ, tm, tn), (t, tp), fk, fp)) (h71 : S 71 = (101, 1)) (hs : sok hb pb κ) (hhb : hb < 2 ^ 28) : Cal l G (k + 105) 1000 14000 mL_heaviest [.ref 0, .int x1, .ref 71] (I, J, R, S, nx) (WQ (I, J, R, S, nx) (aHeavy κ x1).1 (Int32.toInt64 (aHeavy κ x1).2) (κ, ι, (τ, tm, tn), (t, tp), fk, fp)) := by
  obtain ⟨hs0, h72⟩ := hC.s0
  have hle : (aHeavy κ x1).1 ≤ 1 := by unfold aHeavy; (repeat' split) <;> first | exact Nat.zero_le _ | exact Nat.le_of_ble_eq_true rfl | exact gDl _ _ _ _ _ | exact gY_le _ _ _ _ | exact Nat.le_trans (gT_le _ _) (by decide) | exact gE_le _ _ _ _ _ | exact gS_le _ _ _ _ _ _ _ | (rw [laR_0]; exact Nat.zero_le _)
  refine Cal.ofW rfl (by decide +kernel) (by simp) (Nat.le_of_ble_eq_true rfl) rfl (wp_aload_n (q := 1) dL_heaviest_0 rfl rfl rfl (wp_iconst (q := 2) dL_heaviest_1 rfl ki_0 (wp_aload_n (q := 3) dL_heaviest_2 rfl rfl rfl (wp_iload_n (q := 4) dL_heaviest_3 rfl rfl rfl (wp_invVC (q := 7) (As := [.int x1]) (t := 11) (i := 3) (mc' := 40) (ms' := 14000) dL_heaviest_4 rfl ok_X11_heaviest ml_RL_101 im_X11_heaviest se_X11_heaviest (by decide) ⟨_, rfl, rfl⟩ (by show 0 < nx; omega) hs0 rfl rfl (Nat.le_of_ble_eq_true rfl) (by decide) (by decide) (heaviest_p (k := k + 99) hl0 hC hs hhb) (locOK [some (.ref 0), some (.int x1)] (.ref 71) rfl) ?_ ?_)))))
  · rintro r ⟨I1, J1, R1, S1, n1⟩ ⟨hr, hK, hC2⟩
    obtain ⟨e0, rfl⟩ := ansR_l hr
    have hn1 : nx ≤ n1 := hK.1
    have s71 : S1 71 = (101, 1) := (hK.2 71 (by decide) (by decide)).2.2.2.trans h71
    exact wp_i2l (q := 8) dL_heaviest_7 rfl (wp_lastoreC (q := 9) dL_heaviest_8 rfl (by omega) s71 cn_0 cz_0 (Nat.le_of_ble_eq_true rfl) (wp_goto (tgt := 15) dL_heaviest_9 rfl (wp_iconst (q := 16) dL_heaviest_15 rfl ki_0 (wp_ireturn dL_heaviest_16 rfl ⟨by rw [e0]; rfl, hK.g.j, hC2.j71, fun _ => Eq.trans (up2_h (f := J1) (a := 71) (i := 0) (j := 0)) (if_pos rfl)⟩))))
  · rintro E μ' ⟨hr, hK, hC2⟩
    obtain ⟨e0, hE⟩ := ansR_r hr
    have e : (aHeavy κ x1).1 = 1 := by omega
    · have hE2 : E = eNS := by rw [hE, e]; rfl
      subst hE2
      exact ⟨13, ⟨[], [], ⟨0, 9, 12, 19⟩, 1, rfl, (fun _ h => absurd h List.not_mem_nil), by decide, by decide, cl_RL_19, by decide, (Or.inl ⟨_, dL_heaviest_12, rfl, rfl⟩), by decide, rfl⟩, wp_iconst (q := 14) dL_heaviest_13 rfl ki_1 (wp_ireturn dL_heaviest_14 rfl ⟨by rw [e]; rfl, hK.g, hC2, fun h => by rw [e] at h; cases h⟩)⟩
abbrev mL_freeWay : Mt := (yL_freeWay, cL_freeWay, 6, (some .int), [(0, 12, 15, 19), (0, 12, 19, 13)])
theorem cwL_freeWay : Cond.codeWith yL_freeWay cL_freeWay 6 (some .int) [(0, 12, 15, 19), (0, 12, 19, 13)] ∈ TW := List.mem_filter.mpr ⟨tt_5 (List.mem_of_getElem? (i := 100) rfl), rfl⟩
theorem okL_freeWay : mOKw mL_freeWay 5 := ⟨cwL_freeWay, in_RL, rfl, ⟨by decide, by decide⟩, by decide +kernel, by decide⟩
theorem W_freeWay {x1 : Int32} {x2 : Int32} {x3 : Int32} (hl0 : l.stackTraces = false) (hG : GT G) (hC : CI (I, J, R, S, nx) (κ, ι, (τ, tm, tn), (t, tp), fk, fp)) (h71 : S 71 = (101, 1)) (hs : sok hb pb κ) (hhb : hb < 2 ^ 28) : Cal l G (k + 105) 1000 14000 mL_freeWay [.ref 0, .int x1, .int x2, .int x3, .ref 71] (I, J, R, S, nx) (WQ (I, J, R, S, nx) (aFreeWay κ x1 x2 x3).1 (Int32.toInt64 (aFreeWay κ x1 x2 x3).2) (κ, ι, (τ, tm, tn), (t, tp), fk, fp)) := by
  obtain ⟨hs0, h72⟩ := hC.s0
  have hle : (aFreeWay κ x1 x2 x3).1 ≤ 2 := by unfold aFreeWay; (repeat' split) <;> first | exact Nat.zero_le _ | exact Nat.le_of_ble_eq_true rfl | exact gDl _ _ _ _ _ | exact gY_le _ _ _ _ | exact Nat.le_trans (gT_le _ _) (by decide) | exact gE_le _ _ _ _ _ | exact gS_le _ _ _ _ _ _ _ | (rw [laR_0]; exact Nat.zero_le _)
  refine Cal.ofW rfl (by decide +kernel) (by simp) (Nat.le_of_ble_eq_true rfl) rfl (wp_aload (q := 2) dL_freeWay_0 rfl rfl (wp_iconst (q := 3) dL_freeWay_2 rfl ki_0 (wp_aload_n (q := 4) dL_freeWay_3 rfl rfl rfl (wp_iload_n (q := 5) dL_freeWay_4 rfl rfl rfl (wp_iload_n (q := 6) dL_freeWay_5 rfl rfl rfl (wp_iload_n (q := 7) dL_freeWay_6 rfl rfl rfl (wp_invVC (q := 10) (As := [.int x1, .int x2, .int x3]) (t := 11) (i := 5) (mc' := 40) (ms' := 14000) dL_freeWay_7 rfl ok_X11_freeWay ml_RL_104 im_X11_freeWay se_X11_freeWay (by decide) ⟨_, rfl, rfl⟩ (by show 0 < nx; omega) hs0 rfl rfl (Nat.le_of_ble_eq_true rfl) (by decide) (by decide) (freeWay_p (k := k + 99) hl0 hC hs hhb) (locOK [some (.ref 0), some (.int x1), some (.int x2), some (.int x3)] (.ref 71) rfl) ?_ ?_)))))))
  · rintro r ⟨I1, J1, R1, S1, n1⟩ ⟨hr, hK, hC2⟩
    obtain ⟨e0, rfl⟩ := ansR_l hr
    have hn1 : nx ≤ n1 := hK.1
    have s71 : S1 71 = (101, 1) := (hK.2 71 (by decide) (by decide)).2.2.2.trans h71
    exact wp_i2l (q := 11) dL_freeWay_10 rfl (wp_lastoreC (q := 12) dL_freeWay_11 rfl (by omega) s71 cn_0 cz_0 (Nat.le_of_ble_eq_true rfl) (wp_goto (tgt := 23) dL_freeWay_12 rfl (wp_iconst (q := 24) dL_freeWay_23 rfl ki_0 (wp_ireturn dL_freeWay_24 rfl ⟨by rw [e0]; rfl, hK.g.j, hC2.j71, fun _ => Eq.trans (up2_h (f := J1) (a := 71) (i := 0) (j := 0)) (if_pos rfl)⟩))))
  · rintro E μ' ⟨hr, hK, hC2⟩
    obtain ⟨e0, hE⟩ := ansR_r hr
    have hc : (aFreeWay κ x1 x2 x3).1 = 1 ∨ (aFreeWay κ x1 x2 x3).1 = 2 := by omega
    rcases hc with e | e
    · have hE2 : E = eNS := by rw [hE, e]; rfl
      subst hE2
      exact ⟨17, ⟨[], [⟨0, 12, 19, 13⟩], ⟨0, 12, 15, 19⟩, 2, rfl, (fun _ h => absurd h List.not_mem_nil), by decide, by decide, cl_RL_19, by decide, (Or.inr ⟨dL_freeWay_15, rfl⟩), by decide, rfl⟩, wp_iconst (q := 18) dL_freeWay_17 rfl ki_1 (wp_ireturn dL_freeWay_18 rfl ⟨by rw [e]; rfl, hK.g, hC2, fun h => by rw [e] at h; cases h⟩)⟩
    · have hE2 : E = eIA := by rw [hE, e]; rfl
      subst hE2
      exact ⟨21, ⟨[⟨0, 12, 15, 19⟩], [], ⟨0, 12, 19, 13⟩, 2, rfl, (List.forall_mem_cons.mpr ⟨Or.inr ⟨by decide, _, cl_RL_19, by decide, by decide⟩, (fun _ h => absurd h List.not_mem_nil)⟩), by decide, by decide, cl_RL_13, by decide, (Or.inr ⟨dL_freeWay_19, rfl⟩), by decide, rfl⟩, wp_iconst (q := 22) dL_freeWay_21 rfl ki_2 (wp_ireturn dL_freeWay_22 rfl ⟨by rw [e]; rfl, hK.g, hC2, fun h => by rw [e] at h; cases h⟩)⟩
abbrev mL_freeAt : Mt := (yL_freeAt, cL_freeAt, 7, (some .int), [(0, 14, 17, 19), (0, 14, 21, 13)])
theorem cwL_freeAt : Cond.codeWith yL_freeAt cL_freeAt 7 (some .int) [(0, 14, 17, 19), (0, 14, 21, 13)] ∈ TW := List.mem_filter.mpr ⟨tt_5 (List.mem_of_getElem? (i := 166) rfl), rfl⟩
theorem okL_freeAt : mOKw mL_freeAt 6 := ⟨cwL_freeAt, in_RL, rfl, ⟨by decide, by decide⟩, by decide +kernel, by decide⟩
theorem W_freeAt {x1 : Int32} {x2 : Int32} {x3 : Int32} {x4 : Int32} (hl0 : l.stackTraces = false) (hG : GT G) (hC : CI (I, J, R, S, nx) (κ, ι, (τ, tm, tn), (t, tp), fk, fp)) (h71 : S 71 = (101, 1)) (hs : sok hb pb κ) (hhb : hb < 2 ^ 28) : Cal l G (k + 105) 1000 14000 mL_freeAt [.ref 0, .int x1, .int x2, .int x3, .int x4, .ref 71] (I, J, R, S, nx) (WQ (I, J, R, S, nx) (aFreeAt κ x1 x2 x3 x4).1 (Int32.toInt64 (aFreeAt κ x1 x2 x3 x4).2) (κ, ι, (τ, tm, tn), (t, tp), fk, fp)) := by
  obtain ⟨hs0, h72⟩ := hC.s0
  have hle : (aFreeAt κ x1 x2 x3 x4).1 ≤ 2 := by unfold aFreeAt; (repeat' split) <;> first | exact Nat.zero_le _ | exact Nat.le_of_ble_eq_true rfl | exact gDl _ _ _ _ _ | exact gY_le _ _ _ _ | exact Nat.le_trans (gT_le _ _) (by decide) | exact gE_le _ _ _ _ _ | exact gS_le _ _ _ _ _ _ _ | (rw [laR_0]; exact Nat.zero_le _)
  refine Cal.ofW rfl (by decide +kernel) (by simp) (Nat.le_of_ble_eq_true rfl) rfl (wp_aload (q := 2) dL_freeAt_0 rfl rfl (wp_iconst (q := 3) dL_freeAt_2 rfl ki_0 (wp_aload_n (q := 4) dL_freeAt_3 rfl rfl rfl (wp_iload_n (q := 5) dL_freeAt_4 rfl rfl rfl (wp_iload_n (q := 6) dL_freeAt_5 rfl rfl rfl (wp_iload_n (q := 7) dL_freeAt_6 rfl rfl rfl (wp_iload (q := 9) dL_freeAt_7 rfl rfl (wp_invVC (q := 12) (As := [.int x1, .int x2, .int x3, .int x4]) (t := 11) (i := 6) (mc' := 40) (ms' := 14000) dL_freeAt_9 rfl ok_X11_freeAt ml_RL_107 im_X11_freeAt se_X11_freeAt (by decide) ⟨_, rfl, rfl⟩ (by show 0 < nx; omega) hs0 rfl rfl (Nat.le_of_ble_eq_true rfl) (by decide) (by decide) (freeAt_p (k := k + 99) hl0 hC hs hhb) (locOK [some (.ref 0), some (.int x1), some (.int x2), some (.int x3), some (.int x4)] (.ref 71) rfl) ?_ ?_))))))))
  · rintro r ⟨I1, J1, R1, S1, n1⟩ ⟨hr, hK, hC2⟩
    obtain ⟨e0, rfl⟩ := ansR_l hr
    have hn1 : nx ≤ n1 := hK.1
    have s71 : S1 71 = (101, 1) := (hK.2 71 (by decide) (by decide)).2.2.2.trans h71
    exact wp_i2l (q := 13) dL_freeAt_12 rfl (wp_lastoreC (q := 14) dL_freeAt_13 rfl (by omega) s71 cn_0 cz_0 (Nat.le_of_ble_eq_true rfl) (wp_goto (tgt := 25) dL_freeAt_14 rfl (wp_iconst (q := 26) dL_freeAt_25 rfl ki_0 (wp_ireturn dL_freeAt_26 rfl ⟨by rw [e0]; rfl, hK.g.j, hC2.j71, fun _ => Eq.trans (up2_h (f := J1) (a := 71) (i := 0) (j := 0)) (if_pos rfl)⟩))))
  · rintro E μ' ⟨hr, hK, hC2⟩
    obtain ⟨e0, hE⟩ := ansR_r hr
    have hc : (aFreeAt κ x1 x2 x3 x4).1 = 1 ∨ (aFreeAt κ x1 x2 x3 x4).1 = 2 := by omega
    rcases hc with e | e
    · have hE2 : E = eNS := by rw [hE, e]; rfl
      subst hE2
      exact ⟨19, ⟨[], [⟨0, 14, 21, 13⟩], ⟨0, 14, 17, 19⟩, 2, rfl, (fun _ h => absurd h List.not_mem_nil), by decide, by decide, cl_RL_19, by decide, (Or.inr ⟨dL_freeAt_17, rfl⟩), by decide, rfl⟩, wp_iconst (q := 20) dL_freeAt_19 rfl ki_1 (wp_ireturn dL_freeAt_20 rfl ⟨by rw [e]; rfl, hK.g, hC2, fun h => by rw [e] at h; cases h⟩)⟩
    · have hE2 : E = eIA := by rw [hE, e]; rfl
      subst hE2
      exact ⟨23, ⟨[⟨0, 14, 17, 19⟩], [], ⟨0, 14, 21, 13⟩, 2, rfl, (List.forall_mem_cons.mpr ⟨Or.inr ⟨by decide, _, cl_RL_19, by decide, by decide⟩, (fun _ h => absurd h List.not_mem_nil)⟩), by decide, by decide, cl_RL_13, by decide, (Or.inr ⟨dL_freeAt_21, rfl⟩), by decide, rfl⟩, wp_iconst (q := 24) dL_freeAt_23 rfl ki_2 (wp_ireturn dL_freeAt_24 rfl ⟨by rw [e]; rfl, hK.g, hC2, fun h => by rw [e] at h; cases h⟩)⟩
abbrev mL_wayFine : Mt := (yL_wayFine, cL_wayFine, 7, (some .int), [(0, 14, 17, 19), (0, 14, 21, 13)])
theorem cwL_wayFine : Cond.codeWith yL_wayFine cL_wayFine 7 (some .int) [(0, 14, 17, 19), (0, 14, 21, 13)] ∈ TW := List.mem_filter.mpr ⟨tt_5 (List.mem_of_getElem? (i := 185) rfl), rfl⟩
theorem okL_wayFine : mOKw mL_wayFine 6 := ⟨cwL_wayFine, in_RL, rfl, ⟨by decide, by decide⟩, by decide +kernel, by decide⟩
theorem W_wayFine {x1 : Int32} {x2 : Int32} {x3 : Int32} {x4 : Int32} (hl0 : l.stackTraces = false) (hG : GT G) (hC : CI (I, J, R, S, nx) (κ, ι, (τ, tm, tn), (t, tp), fk, fp)) (h71 : S 71 = (101, 1)) (hs : sok hb pb κ) (hhb : hb < 2 ^ 28) : Cal l G (k + 105) 1000 14000 mL_wayFine [.ref 0, .int x1, .int x2, .int x3, .int x4, .ref 71] (I, J, R, S, nx) (WQ (I, J, R, S, nx) (aWayFine κ x1 x2 x3 x4).1 (Int32.toInt64 (aWayFine κ x1 x2 x3 x4).2) (κ, ι, (τ, tm, tn), (t, tp), fk, fp)) := by
  obtain ⟨hs0, h72⟩ := hC.s0
  have hle : (aWayFine κ x1 x2 x3 x4).1 ≤ 2 := by unfold aWayFine; (repeat' split) <;> first | exact Nat.zero_le _ | exact Nat.le_of_ble_eq_true rfl | exact gDl _ _ _ _ _ | exact gY_le _ _ _ _ | exact Nat.le_trans (gT_le _ _) (by decide) | exact gE_le _ _ _ _ _ | exact gS_le _ _ _ _ _ _ _ | (rw [laR_0]; exact Nat.zero_le _)
  refine Cal.ofW rfl (by decide +kernel) (by simp) (Nat.le_of_ble_eq_true rfl) rfl (wp_aload (q := 2) dL_wayFine_0 rfl rfl (wp_iconst (q := 3) dL_wayFine_2 rfl ki_0 (wp_aload_n (q := 4) dL_wayFine_3 rfl rfl rfl (wp_iload_n (q := 5) dL_wayFine_4 rfl rfl rfl (wp_iload_n (q := 6) dL_wayFine_5 rfl rfl rfl (wp_iload_n (q := 7) dL_wayFine_6 rfl rfl rfl (wp_iload (q := 9) dL_wayFine_7 rfl rfl (wp_invVC (q := 12) (As := [.int x1, .int x2, .int x3, .int x4]) (t := 11) (i := 6) (mc' := 40) (ms' := 14000) dL_wayFine_9 rfl ok_X11_wayFine ml_RL_110 im_X11_wayFine se_X11_wayFine (by decide) ⟨_, rfl, rfl⟩ (by show 0 < nx; omega) hs0 rfl rfl (Nat.le_of_ble_eq_true rfl) (by decide) (by decide) (wayFine_p (k := k + 99) hl0 hC hs hhb) (locOK [some (.ref 0), some (.int x1), some (.int x2), some (.int x3), some (.int x4)] (.ref 71) rfl) ?_ ?_))))))))
  · rintro r ⟨I1, J1, R1, S1, n1⟩ ⟨hr, hK, hC2⟩
    obtain ⟨e0, rfl⟩ := ansR_l hr
    have hn1 : nx ≤ n1 := hK.1
    have s71 : S1 71 = (101, 1) := (hK.2 71 (by decide) (by decide)).2.2.2.trans h71
    exact wp_i2l (q := 13) dL_wayFine_12 rfl (wp_lastoreC (q := 14) dL_wayFine_13 rfl (by omega) s71 cn_0 cz_0 (Nat.le_of_ble_eq_true rfl) (wp_goto (tgt := 25) dL_wayFine_14 rfl (wp_iconst (q := 26) dL_wayFine_25 rfl ki_0 (wp_ireturn dL_wayFine_26 rfl ⟨by rw [e0]; rfl, hK.g.j, hC2.j71, fun _ => Eq.trans (up2_h (f := J1) (a := 71) (i := 0) (j := 0)) (if_pos rfl)⟩))))
  · rintro E μ' ⟨hr, hK, hC2⟩
    obtain ⟨e0, hE⟩ := ansR_r hr
    have hc : (aWayFine κ x1 x2 x3 x4).1 = 1 ∨ (aWayFine κ x1 x2 x3 x4).1 = 2 := by omega
    rcases hc with e | e
    · have hE2 : E = eNS := by rw [hE, e]; rfl
      subst hE2
      exact ⟨19, ⟨[], [⟨0, 14, 21, 13⟩], ⟨0, 14, 17, 19⟩, 2, rfl, (fun _ h => absurd h List.not_mem_nil), by decide, by decide, cl_RL_19, by decide, (Or.inr ⟨dL_wayFine_17, rfl⟩), by decide, rfl⟩, wp_iconst (q := 20) dL_wayFine_19 rfl ki_1 (wp_ireturn dL_wayFine_20 rfl ⟨by rw [e]; rfl, hK.g, hC2, fun h => by rw [e] at h; cases h⟩)⟩
    · have hE2 : E = eIA := by rw [hE, e]; rfl
      subst hE2
      exact ⟨23, ⟨[⟨0, 14, 17, 19⟩], [], ⟨0, 14, 21, 13⟩, 2, rfl, (List.forall_mem_cons.mpr ⟨Or.inr ⟨by decide, _, cl_RL_19, by decide, by decide⟩, (fun _ h => absurd h List.not_mem_nil)⟩), by decide, by decide, cl_RL_13, by decide, (Or.inr ⟨dL_wayFine_21, rfl⟩), by decide, rfl⟩, wp_iconst (q := 24) dL_wayFine_23 rfl ki_2 (wp_ireturn dL_wayFine_24 rfl ⟨by rw [e]; rfl, hK.g, hC2, fun h => by rw [e] at h; cases h⟩)⟩
abbrev mL_freeWays : Mt := (yL_freeWays, cL_freeWays, 7, (some .int), [(0, 13, 16, 19), (0, 13, 20, 13)])
theorem cwL_freeWays : Cond.codeWith yL_freeWays cL_freeWays 7 (some .int) [(0, 13, 16, 19), (0, 13, 20, 13)] ∈ TW := List.mem_filter.mpr ⟨tt_5 (List.mem_of_getElem? (i := 202) rfl), rfl⟩
theorem okL_freeWays : mOKw mL_freeWays 6 := ⟨cwL_freeWays, in_RL, rfl, ⟨by decide, by decide⟩, by decide +kernel, by decide⟩
theorem W_freeWays {x1 : Int32} {x2 : Int32} {x3 : Int32} {x4 : Int32} (hl0 : l.stackTraces = false) (hG : GT G) (hC : CI (I, J, R, S, nx) (κ, ι, (τ, tm, tn), (t, tp), fk, fp)) (h71 : S 71 = (101, 1)) (hs : sok hb pb κ) (hhb : hb < 2 ^ 28) : Cal l G (k + 105) 1000 14000 mL_freeWays [.ref 0, .int x1, .int x2, .int x3, .int x4, .ref 71] (I, J, R, S, nx) (WQ (I, J, R, S, nx) (aFreeWays κ x1 x2 x3 x4).1 (aFreeWays κ x1 x2 x3 x4).2 (κ, ι, (τ, tm, tn), (t, tp), fk, fp)) := by
  obtain ⟨hs0, h72⟩ := hC.s0
  have hle : (aFreeWays κ x1 x2 x3 x4).1 ≤ 2 := by unfold aFreeWays; (repeat' split) <;> first | exact Nat.zero_le _ | exact Nat.le_of_ble_eq_true rfl | exact gDl _ _ _ _ _ | exact gY_le _ _ _ _ | exact Nat.le_trans (gT_le _ _) (by decide) | exact gE_le _ _ _ _ _ | exact gS_le _ _ _ _ _ _ _ | (rw [laR_0]; exact Nat.zero_le _)
  refine Cal.ofW rfl (by decide +kernel) (by simp) (Nat.le_of_ble_eq_true rfl) rfl (wp_aload (q := 2) dL_freeWays_0 rfl rfl (wp_iconst (q := 3) dL_freeWays_2 rfl ki_0 (wp_aload_n (q := 4) dL_freeWays_3 rfl rfl rfl (wp_iload_n (q := 5) dL_freeWays_4 rfl rfl rfl (wp_iload_n (q := 6) dL_freeWays_5 rfl rfl rfl (wp_iload_n (q := 7) dL_freeWays_6 rfl rfl rfl (wp_iload (q := 9) dL_freeWays_7 rfl rfl (wp_invVC (q := 12) (As := [.int x1, .int x2, .int x3, .int x4]) (t := 11) (i := 6) (mc' := 40) (ms' := 14000) dL_freeWays_9 rfl ok_X11_freeWays ml_RL_113 im_X11_freeWays se_X11_freeWays (by decide) ⟨_, rfl, rfl⟩ (by show 0 < nx; omega) hs0 rfl rfl (Nat.le_of_ble_eq_true rfl) (by decide) (by decide) (freeWays_p (k := k + 99) hl0 hC hs hhb) (locOK [some (.ref 0), some (.int x1), some (.int x2), some (.int x3), some (.int x4)] (.ref 71) rfl) ?_ ?_))))))))
  · rintro r ⟨I1, J1, R1, S1, n1⟩ ⟨hr, hK, hC2⟩
    obtain ⟨e0, rfl⟩ := ansJ_l hr
    have hn1 : nx ≤ n1 := hK.1
    have s71 : S1 71 = (101, 1) := (hK.2 71 (by decide) (by decide)).2.2.2.trans h71
    exact (wp_lastoreC (q := 13) dL_freeWays_12 rfl (by omega) s71 cn_0 cz_0 (Nat.le_of_ble_eq_true rfl) (wp_goto (tgt := 24) dL_freeWays_13 rfl (wp_iconst (q := 25) dL_freeWays_24 rfl ki_0 (wp_ireturn dL_freeWays_25 rfl ⟨by rw [e0]; rfl, hK.g.j, hC2.j71, fun _ => Eq.trans (up2_h (f := J1) (a := 71) (i := 0) (j := 0)) (if_pos rfl)⟩))))
  · rintro E μ' ⟨hr, hK, hC2⟩
    obtain ⟨e0, hE⟩ := ansJ_r hr
    have hc : (aFreeWays κ x1 x2 x3 x4).1 = 1 ∨ (aFreeWays κ x1 x2 x3 x4).1 = 2 := by omega
    rcases hc with e | e
    · have hE2 : E = eNS := by rw [hE, e]; rfl
      subst hE2
      exact ⟨18, ⟨[], [⟨0, 13, 20, 13⟩], ⟨0, 13, 16, 19⟩, 2, rfl, (fun _ h => absurd h List.not_mem_nil), by decide, by decide, cl_RL_19, by decide, (Or.inr ⟨dL_freeWays_16, rfl⟩), by decide, rfl⟩, wp_iconst (q := 19) dL_freeWays_18 rfl ki_1 (wp_ireturn dL_freeWays_19 rfl ⟨by rw [e]; rfl, hK.g, hC2, fun h => by rw [e] at h; cases h⟩)⟩
    · have hE2 : E = eIA := by rw [hE, e]; rfl
      subst hE2
      exact ⟨22, ⟨[⟨0, 13, 16, 19⟩], [], ⟨0, 13, 20, 13⟩, 2, rfl, (List.forall_mem_cons.mpr ⟨Or.inr ⟨by decide, _, cl_RL_19, by decide, by decide⟩, (fun _ h => absurd h List.not_mem_nil)⟩), by decide, by decide, cl_RL_13, by decide, (Or.inr ⟨dL_freeWays_20, rfl⟩), by decide, rfl⟩, wp_iconst (q := 23) dL_freeWays_22 rfl ki_2 (wp_ireturn dL_freeWays_23 rfl ⟨by rw [e]; rfl, hK.g, hC2, fun h => by rw [e] at h; cases h⟩)⟩
abbrev mL_guard : Mt := (yL_guard, cL_guard, 6, (some .int), [(0, 12, 15, 19), (0, 12, 19, 13)])
theorem cwL_guard : Cond.codeWith yL_guard cL_guard 6 (some .int) [(0, 12, 15, 19), (0, 12, 19, 13)] ∈ TW := List.mem_filter.mpr ⟨tt_5 (List.mem_of_getElem? (i := 220) rfl), rfl⟩
theorem okL_guard : mOKw mL_guard 5 := ⟨cwL_guard, in_RL, rfl, ⟨by decide, by decide⟩, by decide +kernel, by decide⟩
theorem W_guard {x1 : Int32} {x2 : Int32} {x3 : Int32} (hl0 : l.stackTraces = false) (hG : GT G) (hC : CI (I, J, R, S, nx) (κ, ι, (τ, tm, tn), (t, tp), fk, fp)) (h71 : S 71 = (101, 1)) (hs : sok hb pb κ) (hhb : hb < 2 ^ 28) : Cal l G (k + 105) 1000 14000 mL_guard [.ref 0, .int x1, .int x2, .int x3, .ref 71] (I, J, R, S, nx) (WQ (I, J, R, S, nx) (aGuard κ x1 x2 x3).1 (Int32.toInt64 (aGuard κ x1 x2 x3).2) (κ, ι, (τ, tm, tn), (t, tp), fk, fp)) := by
  obtain ⟨hs0, h72⟩ := hC.s0
  have hle : (aGuard κ x1 x2 x3).1 ≤ 2 := by unfold aGuard; (repeat' split) <;> first | exact Nat.zero_le _ | exact Nat.le_of_ble_eq_true rfl | exact gDl _ _ _ _ _ | exact gY_le _ _ _ _ | exact Nat.le_trans (gT_le _ _) (by decide) | exact gE_le _ _ _ _ _ | exact gS_le _ _ _ _ _ _ _ | (rw [laR_0]; exact Nat.zero_le _)
  refine Cal.ofW rfl (by decide +kernel) (by simp) (Nat.le_of_ble_eq_true rfl) rfl (wp_aload (q := 2) dL_guard_0 rfl rfl (wp_iconst (q := 3) dL_guard_2 rfl ki_0 (wp_aload_n (q := 4) dL_guard_3 rfl rfl rfl (wp_iload_n (q := 5) dL_guard_4 rfl rfl rfl (wp_iload_n (q := 6) dL_guard_5 rfl rfl rfl (wp_iload_n (q := 7) dL_guard_6 rfl rfl rfl (wp_invVC (q := 10) (As := [.int x1, .int x2, .int x3]) (t := 11) (i := 5) (mc' := 40) (ms' := 14000) dL_guard_7 rfl ok_X11_guard ml_RL_117 im_X11_guard se_X11_guard (by decide) ⟨_, rfl, rfl⟩ (by show 0 < nx; omega) hs0 rfl rfl (Nat.le_of_ble_eq_true rfl) (by decide) (by decide) (guard_p (k := k + 99) hl0 hC hs hhb) (locOK [some (.ref 0), some (.int x1), some (.int x2), some (.int x3)] (.ref 71) rfl) ?_ ?_)))))))
  · rintro r ⟨I1, J1, R1, S1, n1⟩ ⟨hr, hK, hC2⟩
    obtain ⟨e0, rfl⟩ := ansR_l hr
    have hn1 : nx ≤ n1 := hK.1
    have s71 : S1 71 = (101, 1) := (hK.2 71 (by decide) (by decide)).2.2.2.trans h71
    exact wp_i2l (q := 11) dL_guard_10 rfl (wp_lastoreC (q := 12) dL_guard_11 rfl (by omega) s71 cn_0 cz_0 (Nat.le_of_ble_eq_true rfl) (wp_goto (tgt := 23) dL_guard_12 rfl (wp_iconst (q := 24) dL_guard_23 rfl ki_0 (wp_ireturn dL_guard_24 rfl ⟨by rw [e0]; rfl, hK.g.j, hC2.j71, fun _ => Eq.trans (up2_h (f := J1) (a := 71) (i := 0) (j := 0)) (if_pos rfl)⟩))))
  · rintro E μ' ⟨hr, hK, hC2⟩
    obtain ⟨e0, hE⟩ := ansR_r hr
    have hc : (aGuard κ x1 x2 x3).1 = 1 ∨ (aGuard κ x1 x2 x3).1 = 2 := by omega
    rcases hc with e | e
    · have hE2 : E = eNS := by rw [hE, e]; rfl
      subst hE2
      exact ⟨17, ⟨[], [⟨0, 12, 19, 13⟩], ⟨0, 12, 15, 19⟩, 2, rfl, (fun _ h => absurd h List.not_mem_nil), by decide, by decide, cl_RL_19, by decide, (Or.inr ⟨dL_guard_15, rfl⟩), by decide, rfl⟩, wp_iconst (q := 18) dL_guard_17 rfl ki_1 (wp_ireturn dL_guard_18 rfl ⟨by rw [e]; rfl, hK.g, hC2, fun h => by rw [e] at h; cases h⟩)⟩
    · have hE2 : E = eIA := by rw [hE, e]; rfl
      subst hE2
      exact ⟨21, ⟨[⟨0, 12, 15, 19⟩], [], ⟨0, 12, 19, 13⟩, 2, rfl, (List.forall_mem_cons.mpr ⟨Or.inr ⟨by decide, _, cl_RL_19, by decide, by decide⟩, (fun _ h => absurd h List.not_mem_nil)⟩), by decide, by decide, cl_RL_13, by decide, (Or.inr ⟨dL_guard_19, rfl⟩), by decide, rfl⟩, wp_iconst (q := 22) dL_guard_21 rfl ki_2 (wp_ireturn dL_guard_22 rfl ⟨by rw [e]; rfl, hK.g, hC2, fun h => by rw [e] at h; cases h⟩)⟩
abbrev mL_errands : Mt := (yL_errands, cL_errands, 4, (some .int), [(0, 9, 12, 19), (0, 9, 15, 51), (0, 9, 18, 13)])
theorem cwL_errands : Cond.codeWith yL_errands cL_errands 4 (some .int) [(0, 9, 12, 19), (0, 9, 15, 51), (0, 9, 18, 13)] ∈ TW := List.mem_filter.mpr ⟨tt_5 (List.mem_of_getElem? (i := 232) rfl), rfl⟩
theorem okL_errands : mOKw mL_errands 3 := ⟨cwL_errands, in_RL, rfl, ⟨by decide, by decide⟩, by decide +kernel, by decide⟩
theorem W_errands {x1 : Int32} (hl0 : l.stackTraces = false) (hG : GT G) (hC : CI (I, J, R, S, nx) (κ, ι, (τ, tm, tn), (t, tp), fk, fp)) (h71 : S 71 = (101, 1)) (hs : sok hb pb κ) (hhb : hb < 2 ^ 28) : Cal l G (k + 105) 1000 14000 mL_errands [.ref 0, .int x1, .ref 71] (I, J, R, S, nx) (WQ (I, J, R, S, nx) (aErrands κ τ tm tn x1).1 (Int32.toInt64 (aErrands κ τ tm tn x1).2) (κ, ι, (τ, tm, tn), (t, tp), fk, fp)) := by
  obtain ⟨hs0, h72⟩ := hC.s0
  have hle : (aErrands κ τ tm tn x1).1 ≤ 3 := by unfold aErrands; (repeat' split) <;> first | exact Nat.zero_le _ | exact Nat.le_of_ble_eq_true rfl | exact gDl _ _ _ _ _ | exact gY_le _ _ _ _ | exact Nat.le_trans (gT_le _ _) (by decide) | exact gE_le _ _ _ _ _ | exact gS_le _ _ _ _ _ _ _ | (rw [laR_0]; exact Nat.zero_le _)
  refine Cal.ofW rfl (by decide +kernel) (by simp) (Nat.le_of_ble_eq_true rfl) rfl (wp_aload_n (q := 1) dL_errands_0 rfl rfl rfl (wp_iconst (q := 2) dL_errands_1 rfl ki_0 (wp_aload_n (q := 3) dL_errands_2 rfl rfl rfl (wp_iload_n (q := 4) dL_errands_3 rfl rfl rfl (wp_invVC (q := 7) (As := [.int x1]) (t := 11) (i := 3) (mc' := 40) (ms' := 14000) dL_errands_4 rfl ok_X11_errands ml_RL_120 im_X11_errands se_X11_errands (by decide) ⟨_, rfl, rfl⟩ (by show 0 < nx; omega) hs0 rfl rfl (Nat.le_of_ble_eq_true rfl) (by decide) (by decide) (errands_p (k := k + 98) hl0 hC hs hhb) (locOK [some (.ref 0), some (.int x1)] (.ref 71) rfl) ?_ ?_)))))
  · rintro r ⟨I1, J1, R1, S1, n1⟩ ⟨hr, hK, hC2⟩
    obtain ⟨e0, rfl⟩ := ansR_l hr
    have hn1 : nx ≤ n1 := hK.1
    have s71 : S1 71 = (101, 1) := (hK.2 71 (by decide) (by decide)).2.2.2.trans h71
    exact wp_i2l (q := 8) dL_errands_7 rfl (wp_lastoreC (q := 9) dL_errands_8 rfl (by omega) s71 cn_0 cz_0 (Nat.le_of_ble_eq_true rfl) (wp_goto (tgt := 21) dL_errands_9 rfl (wp_iconst (q := 22) dL_errands_21 rfl ki_0 (wp_ireturn dL_errands_22 rfl ⟨by rw [e0]; rfl, hK.g.j, hC2.j71, fun _ => Eq.trans (up2_h (f := J1) (a := 71) (i := 0) (j := 0)) (if_pos rfl)⟩))))
  · rintro E μ' ⟨hr, hK, hC2⟩
    obtain ⟨e0, hE⟩ := ansR_r hr
    have hc : (aErrands κ τ tm tn x1).1 = 1 ∨ (aErrands κ τ tm tn x1).1 = 2 ∨ (aErrands κ τ tm tn x1).1 = 3 := by omega
    rcases hc with e | e | e
    · have hE2 : E = eNS := by rw [hE, e]; rfl
      subst hE2
      exact ⟨13, ⟨[], [⟨0, 9, 15, 51⟩, ⟨0, 9, 18, 13⟩], ⟨0, 9, 12, 19⟩, 1, rfl, (fun _ h => absurd h List.not_mem_nil), by decide, by decide, cl_RL_19, by decide, (Or.inl ⟨_, dL_errands_12, rfl, rfl⟩), by decide, rfl⟩, wp_iconst (q := 14) dL_errands_13 rfl ki_1 (wp_ireturn dL_errands_14 rfl ⟨by rw [e]; rfl, hK.g, hC2, fun h => by rw [e] at h; cases h⟩)⟩
    · have hE2 : E = eIS := by rw [hE, e]; rfl
      subst hE2
      exact ⟨16, ⟨[⟨0, 9, 12, 19⟩], [⟨0, 9, 18, 13⟩], ⟨0, 9, 15, 51⟩, 1, rfl, (List.forall_mem_cons.mpr ⟨Or.inr ⟨by decide, _, cl_RL_19, by decide, by decide⟩, (fun _ h => absurd h List.not_mem_nil)⟩), by decide, by decide, cl_RL_51, by decide, (Or.inl ⟨_, dL_errands_15, rfl, rfl⟩), by decide, rfl⟩, wp_iconst (q := 17) dL_errands_16 rfl ki_2 (wp_ireturn dL_errands_17 rfl ⟨by rw [e]; rfl, hK.g, hC2, fun h => by rw [e] at h; cases h⟩)⟩
    · have hE2 : E = eIA := by rw [hE, e]; rfl
      subst hE2
      exact ⟨19, ⟨[⟨0, 9, 12, 19⟩, ⟨0, 9, 15, 51⟩], [], ⟨0, 9, 18, 13⟩, 1, rfl, (List.forall_mem_cons.mpr ⟨Or.inr ⟨by decide, _, cl_RL_19, by decide, by decide⟩, (List.forall_mem_cons.mpr ⟨Or.inr ⟨by decide, _, cl_RL_51, by decide, by decide⟩, (fun _ h => absurd h List.not_mem_nil)⟩)⟩), by decide, by decide, cl_RL_13, by decide, (Or.inl ⟨_, dL_errands_18, rfl, rfl⟩), by decide, rfl⟩, wp_iconst (q := 20) dL_errands_19 rfl ki_3 (wp_ireturn dL_errands_20 rfl ⟨by rw [e]; rfl, hK.g, hC2, fun h => by rw [e] at h; cases h⟩)⟩
abbrev mL_bestOrder : Mt := (yL_bestOrder, cL_bestOrder, 5, (some .int), [(0, 10, 13, 19), (0, 10, 17, 51), (0, 10, 21, 13)])
theorem cwL_bestOrder : Cond.codeWith yL_bestOrder cL_bestOrder 5 (some .int) [(0, 10, 13, 19), (0, 10, 17, 51), (0, 10, 21, 13)] ∈ TW := List.mem_filter.mpr ⟨tt_6 (List.mem_of_getElem? (i := 62) rfl), rfl⟩
theorem okL_bestOrder : mOKw mL_bestOrder 4 := ⟨cwL_bestOrder, in_RL, rfl, ⟨by decide, by decide⟩, by decide +kernel, by decide⟩
theorem W_bestOrder {x1 : Int32} {x2 : Int32} (hl0 : l.stackTraces = false) (hG : GT G) (hC : CI (I, J, R, S, nx) (κ, ι, (τ, tm, tn), (t, tp), fk, fp)) (h71 : S 71 = (101, 1)) (hs : sok hb pb κ) (hhb : hb < 2 ^ 28) : Cal l G (k + 105) 1000 14000 mL_bestOrder [.ref 0, .int x1, .int x2, .ref 71] (I, J, R, S, nx) (WQ (I, J, R, S, nx) (aBest κ τ tm tn x1 x2).1 (Int32.toInt64 (aBest κ τ tm tn x1 x2).2) (κ, ι, (τ, tm, tn), (t, tp), fk, fp)) := by
  obtain ⟨hs0, h72⟩ := hC.s0
  have hle : (aBest κ τ tm tn x1 x2).1 ≤ 3 := by unfold aBest; (repeat' split) <;> first | exact Nat.zero_le _ | exact Nat.le_of_ble_eq_true rfl | exact gDl _ _ _ _ _ | exact gY_le _ _ _ _ | exact Nat.le_trans (gT_le _ _) (by decide) | exact gE_le _ _ _ _ _ | exact gS_le _ _ _ _ _ _ _ | (rw [laR_0]; exact Nat.zero_le _)
  refine Cal.ofW rfl (by decide +kernel) (by simp) (Nat.le_of_ble_eq_true rfl) rfl (wp_aload_n (q := 1) dL_bestOrder_0 rfl rfl rfl (wp_iconst (q := 2) dL_bestOrder_1 rfl ki_0 (wp_aload_n (q := 3) dL_bestOrder_2 rfl rfl rfl (wp_iload_n (q := 4) dL_bestOrder_3 rfl rfl rfl (wp_iload_n (q := 5) dL_bestOrder_4 rfl rfl rfl (wp_invVC (q := 8) (As := [.int x1, .int x2]) (t := 11) (i := 4) (mc' := 40) (ms' := 14000) dL_bestOrder_5 rfl ok_X11_bestOrder ml_RL_123 im_X11_bestOrder se_X11_bestOrder (by decide) ⟨_, rfl, rfl⟩ (by show 0 < nx; omega) hs0 rfl rfl (Nat.le_of_ble_eq_true rfl) (by decide) (by decide) (bestOrder_p (k := k + 59) hl0 hC hs hhb) (locOK [some (.ref 0), some (.int x1), some (.int x2)] (.ref 71) rfl) ?_ ?_))))))
  · rintro r ⟨I1, J1, R1, S1, n1⟩ ⟨hr, hK, hC2⟩
    obtain ⟨e0, rfl⟩ := ansR_l hr
    have hn1 : nx ≤ n1 := hK.1
    have s71 : S1 71 = (101, 1) := (hK.2 71 (by decide) (by decide)).2.2.2.trans h71
    exact wp_i2l (q := 9) dL_bestOrder_8 rfl (wp_lastoreC (q := 10) dL_bestOrder_9 rfl (by omega) s71 cn_0 cz_0 (Nat.le_of_ble_eq_true rfl) (wp_goto (tgt := 25) dL_bestOrder_10 rfl (wp_iconst (q := 26) dL_bestOrder_25 rfl ki_0 (wp_ireturn dL_bestOrder_26 rfl ⟨by rw [e0]; rfl, hK.g.j, hC2.j71, fun _ => Eq.trans (up2_h (f := J1) (a := 71) (i := 0) (j := 0)) (if_pos rfl)⟩))))
  · rintro E μ' ⟨hr, hK, hC2⟩
    obtain ⟨e0, hE⟩ := ansR_r hr
    have hc : (aBest κ τ tm tn x1 x2).1 = 1 ∨ (aBest κ τ tm tn x1 x2).1 = 2 ∨ (aBest κ τ tm tn x1 x2).1 = 3 := by omega
    rcases hc with e | e | e
    · have hE2 : E = eNS := by rw [hE, e]; rfl
      subst hE2
      exact ⟨15, ⟨[], [⟨0, 10, 17, 51⟩, ⟨0, 10, 21, 13⟩], ⟨0, 10, 13, 19⟩, 2, rfl, (fun _ h => absurd h List.not_mem_nil), by decide, by decide, cl_RL_19, by decide, (Or.inr ⟨dL_bestOrder_13, rfl⟩), by decide, rfl⟩, wp_iconst (q := 16) dL_bestOrder_15 rfl ki_1 (wp_ireturn dL_bestOrder_16 rfl ⟨by rw [e]; rfl, hK.g, hC2, fun h => by rw [e] at h; cases h⟩)⟩
    · have hE2 : E = eIS := by rw [hE, e]; rfl
      subst hE2
      exact ⟨19, ⟨[⟨0, 10, 13, 19⟩], [⟨0, 10, 21, 13⟩], ⟨0, 10, 17, 51⟩, 2, rfl, (List.forall_mem_cons.mpr ⟨Or.inr ⟨by decide, _, cl_RL_19, by decide, by decide⟩, (fun _ h => absurd h List.not_mem_nil)⟩), by decide, by decide, cl_RL_51, by decide, (Or.inr ⟨dL_bestOrder_17, rfl⟩), by decide, rfl⟩, wp_iconst (q := 20) dL_bestOrder_19 rfl ki_2 (wp_ireturn dL_bestOrder_20 rfl ⟨by rw [e]; rfl, hK.g, hC2, fun h => by rw [e] at h; cases h⟩)⟩
    · have hE2 : E = eIA := by rw [hE, e]; rfl
      subst hE2
      exact ⟨23, ⟨[⟨0, 10, 13, 19⟩, ⟨0, 10, 17, 51⟩], [], ⟨0, 10, 21, 13⟩, 2, rfl, (List.forall_mem_cons.mpr ⟨Or.inr ⟨by decide, _, cl_RL_19, by decide, by decide⟩, (List.forall_mem_cons.mpr ⟨Or.inr ⟨by decide, _, cl_RL_51, by decide, by decide⟩, (fun _ h => absurd h List.not_mem_nil)⟩)⟩), by decide, by decide, cl_RL_13, by decide, (Or.inr ⟨dL_bestOrder_21, rfl⟩), by decide, rfl⟩, wp_iconst (q := 24) dL_bestOrder_23 rfl ki_3 (wp_ireturn dL_bestOrder_24 rfl ⟨by rw [e]; rfl, hK.g, hC2, fun h => by rw [e] at h; cases h⟩)⟩
abbrev mL_seen : Mt := (yL_seen, cL_seen, 6, (some .int), [(0, 12, 15, 19), (0, 12, 19, 51), (0, 12, 23, 13)])
theorem cwL_seen : Cond.codeWith yL_seen cL_seen 6 (some .int) [(0, 12, 15, 19), (0, 12, 19, 51), (0, 12, 23, 13)] ∈ TW := List.mem_filter.mpr ⟨tt_6 (List.mem_of_getElem? (i := 79) rfl), rfl⟩
theorem okL_seen : mOKw mL_seen 5 := ⟨cwL_seen, in_RL, rfl, ⟨by decide, by decide⟩, by decide +kernel, by decide⟩
theorem W_seen {x1 : Int32} {x2 : Int32} {x3 : Int32} (hl0 : l.stackTraces = false) (hG : GT G) (hC : CI (I, J, R, S, nx) (κ, ι, (τ, tm, tn), (t, tp), fk, fp)) (h71 : S 71 = (101, 1)) (hs : sok hb pb κ) (hhb : hb < 2 ^ 28) : Cal l G (k + 105) 1000 14000 mL_seen [.ref 0, .int x1, .int x2, .int x3, .ref 71] (I, J, R, S, nx) (WQ (I, J, R, S, nx) (aSeen κ τ tm tn x1 x2 x3).1 (Int32.toInt64 (aSeen κ τ tm tn x1 x2 x3).2) (κ, ι, (τ, tm, tn), (t, tp), fk, fp)) := by
  obtain ⟨hs0, h72⟩ := hC.s0
  have hle : (aSeen κ τ tm tn x1 x2 x3).1 ≤ 3 := by unfold aSeen; (repeat' split) <;> first | exact Nat.zero_le _ | exact Nat.le_of_ble_eq_true rfl | exact gDl _ _ _ _ _ | exact gY_le _ _ _ _ | exact Nat.le_trans (gT_le _ _) (by decide) | exact gE_le _ _ _ _ _ | exact gS_le _ _ _ _ _ _ _ | (rw [laR_0]; exact Nat.zero_le _)
  refine Cal.ofW rfl (by decide +kernel) (by simp) (Nat.le_of_ble_eq_true rfl) rfl (wp_aload (q := 2) dL_seen_0 rfl rfl (wp_iconst (q := 3) dL_seen_2 rfl ki_0 (wp_aload_n (q := 4) dL_seen_3 rfl rfl rfl (wp_iload_n (q := 5) dL_seen_4 rfl rfl rfl (wp_iload_n (q := 6) dL_seen_5 rfl rfl rfl (wp_iload_n (q := 7) dL_seen_6 rfl rfl rfl (wp_invVC (q := 10) (As := [.int x1, .int x2, .int x3]) (t := 11) (i := 5) (mc' := 40) (ms' := 14000) dL_seen_7 rfl ok_X11_seen ml_RL_126 im_X11_seen se_X11_seen (by decide) ⟨_, rfl, rfl⟩ (by show 0 < nx; omega) hs0 rfl rfl (Nat.le_of_ble_eq_true rfl) (by decide) (by decide) (seen_p (k := k + 98) hl0 hC hs hhb) (locOK [some (.ref 0), some (.int x1), some (.int x2), some (.int x3)] (.ref 71) rfl) ?_ ?_)))))))
  · rintro r ⟨I1, J1, R1, S1, n1⟩ ⟨hr, hK, hC2⟩
    obtain ⟨e0, rfl⟩ := ansR_l hr
    have hn1 : nx ≤ n1 := hK.1
    have s71 : S1 71 = (101, 1) := (hK.2 71 (by decide) (by decide)).2.2.2.trans h71
    exact wp_i2l (q := 11) dL_seen_10 rfl (wp_lastoreC (q := 12) dL_seen_11 rfl (by omega) s71 cn_0 cz_0 (Nat.le_of_ble_eq_true rfl) (wp_goto (tgt := 27) dL_seen_12 rfl (wp_iconst (q := 28) dL_seen_27 rfl ki_0 (wp_ireturn dL_seen_28 rfl ⟨by rw [e0]; rfl, hK.g.j, hC2.j71, fun _ => Eq.trans (up2_h (f := J1) (a := 71) (i := 0) (j := 0)) (if_pos rfl)⟩))))
  · rintro E μ' ⟨hr, hK, hC2⟩
    obtain ⟨e0, hE⟩ := ansR_r hr
    have hc : (aSeen κ τ tm tn x1 x2 x3).1 = 1 ∨ (aSeen κ τ tm tn x1 x2 x3).1 = 2 ∨ (aSeen κ τ tm tn x1 x2 x3).1 = 3 := by omega
    rcases hc with e | e | e
    · have hE2 : E = eNS := by rw [hE, e]; rfl
      subst hE2
      exact ⟨17, ⟨[], [⟨0, 12, 19, 51⟩, ⟨0, 12, 23, 13⟩], ⟨0, 12, 15, 19⟩, 2, rfl, (fun _ h => absurd h List.not_mem_nil), by decide, by decide, cl_RL_19, by decide, (Or.inr ⟨dL_seen_15, rfl⟩), by decide, rfl⟩, wp_iconst (q := 18) dL_seen_17 rfl ki_1 (wp_ireturn dL_seen_18 rfl ⟨by rw [e]; rfl, hK.g, hC2, fun h => by rw [e] at h; cases h⟩)⟩
    · have hE2 : E = eIS := by rw [hE, e]; rfl
      subst hE2
      exact ⟨21, ⟨[⟨0, 12, 15, 19⟩], [⟨0, 12, 23, 13⟩], ⟨0, 12, 19, 51⟩, 2, rfl, (List.forall_mem_cons.mpr ⟨Or.inr ⟨by decide, _, cl_RL_19, by decide, by decide⟩, (fun _ h => absurd h List.not_mem_nil)⟩), by decide, by decide, cl_RL_51, by decide, (Or.inr ⟨dL_seen_19, rfl⟩), by decide, rfl⟩, wp_iconst (q := 22) dL_seen_21 rfl ki_2 (wp_ireturn dL_seen_22 rfl ⟨by rw [e]; rfl, hK.g, hC2, fun h => by rw [e] at h; cases h⟩)⟩
    · have hE2 : E = eIA := by rw [hE, e]; rfl
      subst hE2
      exact ⟨25, ⟨[⟨0, 12, 15, 19⟩, ⟨0, 12, 19, 51⟩], [], ⟨0, 12, 23, 13⟩, 2, rfl, (List.forall_mem_cons.mpr ⟨Or.inr ⟨by decide, _, cl_RL_19, by decide, by decide⟩, (List.forall_mem_cons.mpr ⟨Or.inr ⟨by decide, _, cl_RL_51, by decide, by decide⟩, (fun _ h => absurd h List.not_mem_nil)⟩)⟩), by decide, by decide, cl_RL_13, by decide, (Or.inr ⟨dL_seen_23, rfl⟩), by decide, rfl⟩, wp_iconst (q := 26) dL_seen_25 rfl ki_3 (wp_ireturn dL_seen_26 rfl ⟨by rw [e]; rfl, hK.g, hC2, fun h => by rw [e] at h; cases h⟩)⟩
abbrev mL_breath : Mt := (yL_breath, cL_breath, 7, (some .int), [(0, 14, 17, 19), (0, 14, 21, 51), (0, 14, 25, 13)])
theorem cwL_breath : Cond.codeWith yL_breath cL_breath 7 (some .int) [(0, 14, 17, 19), (0, 14, 21, 51), (0, 14, 25, 13)] ∈ TW := List.mem_filter.mpr ⟨tt_6 (List.mem_of_getElem? (i := 139) rfl), rfl⟩
theorem okL_breath : mOKw mL_breath 6 := ⟨cwL_breath, in_RL, rfl, ⟨by decide, by decide⟩, by decide +kernel, by decide⟩
theorem W_breath {x1 : Int32} {x2 : Int32} {x3 : Int32} {x4 : Int32} (hl0 : l.stackTraces = false) (hG : GT G) (hC : CI (I, J, R, S, nx) (κ, ι, (τ, tm, tn), (t, tp), fk, fp)) (h71 : S 71 = (101, 1)) (hs : sok hb pb κ) (hhb : hb < 2 ^ 28) : Cal l G (k + 105) 1000 14000 mL_breath [.ref 0, .int x1, .int x2, .int x3, .int x4, .ref 71] (I, J, R, S, nx) (WQ (I, J, R, S, nx) (aBreath κ τ tm tn x1 x2 x3 x4).1 (Int32.toInt64 (aBreath κ τ tm tn x1 x2 x3 x4).2) (κ, ι, (τ, tm, tn), (t, tp), fk, fp)) := by
  obtain ⟨hs0, h72⟩ := hC.s0
  have hle : (aBreath κ τ tm tn x1 x2 x3 x4).1 ≤ 3 := by unfold aBreath; (repeat' split) <;> first | exact Nat.zero_le _ | exact Nat.le_of_ble_eq_true rfl | exact gDl _ _ _ _ _ | exact gY_le _ _ _ _ | exact Nat.le_trans (gT_le _ _) (by decide) | exact gE_le _ _ _ _ _ | exact gS_le _ _ _ _ _ _ _ | (rw [laR_0]; exact Nat.zero_le _)
  refine Cal.ofW rfl (by decide +kernel) (by simp) (Nat.le_of_ble_eq_true rfl) rfl (wp_aload (q := 2) dL_breath_0 rfl rfl (wp_iconst (q := 3) dL_breath_2 rfl ki_0 (wp_aload_n (q := 4) dL_breath_3 rfl rfl rfl (wp_iload_n (q := 5) dL_breath_4 rfl rfl rfl (wp_iload_n (q := 6) dL_breath_5 rfl rfl rfl (wp_iload_n (q := 7) dL_breath_6 rfl rfl rfl (wp_iload (q := 9) dL_breath_7 rfl rfl (wp_invVC (q := 12) (As := [.int x1, .int x2, .int x3, .int x4]) (t := 11) (i := 6) (mc' := 40) (ms' := 14000) dL_breath_9 rfl ok_X11_breath ml_RL_129 im_X11_breath se_X11_breath (by decide) ⟨_, rfl, rfl⟩ (by show 0 < nx; omega) hs0 rfl rfl (Nat.le_of_ble_eq_true rfl) (by decide) (by decide) (breath_p (k := k + 98) hl0 hC hs hhb) (locOK [some (.ref 0), some (.int x1), some (.int x2), some (.int x3), some (.int x4)] (.ref 71) rfl) ?_ ?_))))))))
  · rintro r ⟨I1, J1, R1, S1, n1⟩ ⟨hr, hK, hC2⟩
    obtain ⟨e0, rfl⟩ := ansR_l hr
    have hn1 : nx ≤ n1 := hK.1
    have s71 : S1 71 = (101, 1) := (hK.2 71 (by decide) (by decide)).2.2.2.trans h71
    exact wp_i2l (q := 13) dL_breath_12 rfl (wp_lastoreC (q := 14) dL_breath_13 rfl (by omega) s71 cn_0 cz_0 (Nat.le_of_ble_eq_true rfl) (wp_goto (tgt := 29) dL_breath_14 rfl (wp_iconst (q := 30) dL_breath_29 rfl ki_0 (wp_ireturn dL_breath_30 rfl ⟨by rw [e0]; rfl, hK.g.j, hC2.j71, fun _ => Eq.trans (up2_h (f := J1) (a := 71) (i := 0) (j := 0)) (if_pos rfl)⟩))))
  · rintro E μ' ⟨hr, hK, hC2⟩
    obtain ⟨e0, hE⟩ := ansR_r hr
    have hc : (aBreath κ τ tm tn x1 x2 x3 x4).1 = 1 ∨ (aBreath κ τ tm tn x1 x2 x3 x4).1 = 2 ∨ (aBreath κ τ tm tn x1 x2 x3 x4).1 = 3 := by omega
    rcases hc with e | e | e
    · have hE2 : E = eNS := by rw [hE, e]; rfl
      subst hE2
      exact ⟨19, ⟨[], [⟨0, 14, 21, 51⟩, ⟨0, 14, 25, 13⟩], ⟨0, 14, 17, 19⟩, 2, rfl, (fun _ h => absurd h List.not_mem_nil), by decide, by decide, cl_RL_19, by decide, (Or.inr ⟨dL_breath_17, rfl⟩), by decide, rfl⟩, wp_iconst (q := 20) dL_breath_19 rfl ki_1 (wp_ireturn dL_breath_20 rfl ⟨by rw [e]; rfl, hK.g, hC2, fun h => by rw [e] at h; cases h⟩)⟩
    · have hE2 : E = eIS := by rw [hE, e]; rfl
      subst hE2
      exact ⟨23, ⟨[⟨0, 14, 17, 19⟩], [⟨0, 14, 25, 13⟩], ⟨0, 14, 21, 51⟩, 2, rfl, (List.forall_mem_cons.mpr ⟨Or.inr ⟨by decide, _, cl_RL_19, by decide, by decide⟩, (fun _ h => absurd h List.not_mem_nil)⟩), by decide, by decide, cl_RL_51, by decide, (Or.inr ⟨dL_breath_21, rfl⟩), by decide, rfl⟩, wp_iconst (q := 24) dL_breath_23 rfl ki_2 (wp_ireturn dL_breath_24 rfl ⟨by rw [e]; rfl, hK.g, hC2, fun h => by rw [e] at h; cases h⟩)⟩
    · have hE2 : E = eIA := by rw [hE, e]; rfl
      subst hE2
      exact ⟨27, ⟨[⟨0, 14, 17, 19⟩, ⟨0, 14, 21, 51⟩], [], ⟨0, 14, 25, 13⟩, 2, rfl, (List.forall_mem_cons.mpr ⟨Or.inr ⟨by decide, _, cl_RL_19, by decide, by decide⟩, (List.forall_mem_cons.mpr ⟨Or.inr ⟨by decide, _, cl_RL_51, by decide, by decide⟩, (fun _ h => absurd h List.not_mem_nil)⟩)⟩), by decide, by decide, cl_RL_13, by decide, (Or.inr ⟨dL_breath_25, rfl⟩), by decide, rfl⟩, wp_iconst (q := 28) dL_breath_27 rfl ki_3 (wp_ireturn dL_breath_28 rfl ⟨by rw [e]; rfl, hK.g, hC2, fun h => by rw [e] at h; cases h⟩)⟩
abbrev mL_look : Mt := (yL_look, cL_look, 6, (some .int), [(0, 12, 15, 19), (0, 12, 19, 51), (0, 12, 23, 13)])
theorem cwL_look : Cond.codeWith yL_look cL_look 6 (some .int) [(0, 12, 15, 19), (0, 12, 19, 51), (0, 12, 23, 13)] ∈ TW := List.mem_filter.mpr ⟨tt_6 (List.mem_of_getElem? (i := 146) rfl), rfl⟩
theorem okL_look : mOKw mL_look 5 := ⟨cwL_look, in_RL, rfl, ⟨by decide, by decide⟩, by decide +kernel, by decide⟩
theorem W_look {x1 : Int32} {x2 : Int32} {x3 : Int32} (hl0 : l.stackTraces = false) (hG : GT G) (hC : CI (I, J, R, S, nx) (κ, ι, (τ, tm, tn), (t, tp), fk, fp)) (h71 : S 71 = (101, 1)) (hs : sok hb pb κ) (hhb : hb < 2 ^ 28) : Cal l G (k + 105) 1000 14000 mL_look [.ref 0, .int x1, .int x2, .int x3, .ref 71] (I, J, R, S, nx) (WQ (I, J, R, S, nx) (aLook κ τ tm tn x1 x2 x3).1 (Int32.toInt64 (aLook κ τ tm tn x1 x2 x3).2) (κ, ι, (τ, tm, tn), (t, tp), fk, fp)) := by
  obtain ⟨hs0, h72⟩ := hC.s0
  have hle : (aLook κ τ tm tn x1 x2 x3).1 ≤ 3 := by unfold aLook; (repeat' split) <;> first | exact Nat.zero_le _ | exact Nat.le_of_ble_eq_true rfl | exact gDl _ _ _ _ _ | exact gY_le _ _ _ _ | exact Nat.le_trans (gT_le _ _) (by decide) | exact gE_le _ _ _ _ _ | exact gS_le _ _ _ _ _ _ _ | (rw [laR_0]; exact Nat.zero_le _)
  refine Cal.ofW rfl (by decide +kernel) (by simp) (Nat.le_of_ble_eq_true rfl) rfl (wp_aload (q := 2) dL_look_0 rfl rfl (wp_iconst (q := 3) dL_look_2 rfl ki_0 (wp_aload_n (q := 4) dL_look_3 rfl rfl rfl (wp_iload_n (q := 5) dL_look_4 rfl rfl rfl (wp_iload_n (q := 6) dL_look_5 rfl rfl rfl (wp_iload_n (q := 7) dL_look_6 rfl rfl rfl (wp_invVC (q := 10) (As := [.int x1, .int x2, .int x3]) (t := 11) (i := 5) (mc' := 40) (ms' := 14000) dL_look_7 rfl ok_X11_look ml_RL_132 im_X11_look se_X11_look (by decide) ⟨_, rfl, rfl⟩ (by show 0 < nx; omega) hs0 rfl rfl (Nat.le_of_ble_eq_true rfl) (by decide) (by decide) (look_p (k := k + 98) hl0 hC hs hhb) (locOK [some (.ref 0), some (.int x1), some (.int x2), some (.int x3)] (.ref 71) rfl) ?_ ?_)))))))
  · rintro r ⟨I1, J1, R1, S1, n1⟩ ⟨hr, hK, hC2⟩
    obtain ⟨e0, rfl⟩ := ansR_l hr
    have hn1 : nx ≤ n1 := hK.1
    have s71 : S1 71 = (101, 1) := (hK.2 71 (by decide) (by decide)).2.2.2.trans h71
    exact wp_i2l (q := 11) dL_look_10 rfl (wp_lastoreC (q := 12) dL_look_11 rfl (by omega) s71 cn_0 cz_0 (Nat.le_of_ble_eq_true rfl) (wp_goto (tgt := 27) dL_look_12 rfl (wp_iconst (q := 28) dL_look_27 rfl ki_0 (wp_ireturn dL_look_28 rfl ⟨by rw [e0]; rfl, hK.g.j, hC2.j71, fun _ => Eq.trans (up2_h (f := J1) (a := 71) (i := 0) (j := 0)) (if_pos rfl)⟩))))
  · rintro E μ' ⟨hr, hK, hC2⟩
    obtain ⟨e0, hE⟩ := ansR_r hr
    have hc : (aLook κ τ tm tn x1 x2 x3).1 = 1 ∨ (aLook κ τ tm tn x1 x2 x3).1 = 2 ∨ (aLook κ τ tm tn x1 x2 x3).1 = 3 := by omega
    rcases hc with e | e | e
    · have hE2 : E = eNS := by rw [hE, e]; rfl
      subst hE2
      exact ⟨17, ⟨[], [⟨0, 12, 19, 51⟩, ⟨0, 12, 23, 13⟩], ⟨0, 12, 15, 19⟩, 2, rfl, (fun _ h => absurd h List.not_mem_nil), by decide, by decide, cl_RL_19, by decide, (Or.inr ⟨dL_look_15, rfl⟩), by decide, rfl⟩, wp_iconst (q := 18) dL_look_17 rfl ki_1 (wp_ireturn dL_look_18 rfl ⟨by rw [e]; rfl, hK.g, hC2, fun h => by rw [e] at h; cases h⟩)⟩
    · have hE2 : E = eIS := by rw [hE, e]; rfl
      subst hE2
      exact ⟨21, ⟨[⟨0, 12, 15, 19⟩], [⟨0, 12, 23, 13⟩], ⟨0, 12, 19, 51⟩, 2, rfl, (List.forall_mem_cons.mpr ⟨Or.inr ⟨by decide, _, cl_RL_19, by decide, by decide⟩, (fun _ h => absurd h List.not_mem_nil)⟩), by decide, by decide, cl_RL_51, by decide, (Or.inr ⟨dL_look_19, rfl⟩), by decide, rfl⟩, wp_iconst (q := 22) dL_look_21 rfl ki_2 (wp_ireturn dL_look_22 rfl ⟨by rw [e]; rfl, hK.g, hC2, fun h => by rw [e] at h; cases h⟩)⟩
    · have hE2 : E = eIA := by rw [hE, e]; rfl
      subst hE2
      exact ⟨25, ⟨[⟨0, 12, 15, 19⟩, ⟨0, 12, 19, 51⟩], [], ⟨0, 12, 23, 13⟩, 2, rfl, (List.forall_mem_cons.mpr ⟨Or.inr ⟨by decide, _, cl_RL_19, by decide, by decide⟩, (List.forall_mem_cons.mpr ⟨Or.inr ⟨by decide, _, cl_RL_51, by decide, by decide⟩, (fun _ h => absurd h List.not_mem_nil)⟩)⟩), by decide, by decide, cl_RL_13, by decide, (Or.inr ⟨dL_look_23, rfl⟩), by decide, rfl⟩, wp_iconst (q := 26) dL_look_25 rfl ki_3 (wp_ireturn dL_look_26 rfl ⟨by rw [e]; rfl, hK.g, hC2, fun h => by rw [e] at h; cases h⟩)⟩
abbrev mL_tray : Mt := (yL_tray, cL_tray, 5, (some .int), [(0, 7, 10, 19), (0, 7, 14, 13)])
theorem cwL_tray : Cond.codeWith yL_tray cL_tray 5 (some .int) [(0, 7, 10, 19), (0, 7, 14, 13)] ∈ TW := List.mem_filter.mpr ⟨tt_6 (List.mem_of_getElem? (i := 162) rfl), rfl⟩
theorem okL_tray : mOKw mL_tray 4 := ⟨cwL_tray, in_RL, rfl, ⟨by decide, by decide⟩, by decide +kernel, by decide⟩
theorem W_tray {x1 : Int32} {x2 : Int32} {x3 : Int32} (hl0 : l.stackTraces = false) (hG : GT G) (hC : CI (I, J, R, S, nx) (κ, ι, (τ, tm, tn), (t, tp), fk, fp)) (h71 : S 71 = (101, 1)) (hs : sok hb pb κ) (hhb : hb < 2 ^ 28) : Cal l G (k + 105) 1000 14000 mL_tray [.ref 0, .int x1, .int x2, .int x3] (I, J, R, S, nx) (fun r μ' => r = .inl (some (.int (nI ((aTray τ tm tn x1 x2 x3).1)))) ∧ KG (I, J, R, S, nx) μ' ∧ CI μ' (κ, ι, ((aTray τ tm tn x1 x2 x3).2.1, (aTray τ tm tn x1 x2 x3).2.2.1, (aTray τ tm tn x1 x2 x3).2.2.2), (t, tp), fk, fp)) := by
  obtain ⟨hs0, h72⟩ := hC.s0
  have hle : ((aTray τ tm tn x1 x2 x3).1) ≤ 2 := by unfold aTray; (repeat' split) <;> first | exact Nat.zero_le _ | exact Nat.le_of_ble_eq_true rfl | exact gDl _ _ _ _ _ | exact gY_le _ _ _ _ | exact Nat.le_trans (gT_le _ _) (by decide) | exact gE_le _ _ _ _ _ | exact gS_le _ _ _ _ _ _ _ | (rw [laR_0]; exact Nat.zero_le _)
  refine Cal.ofW rfl (by decide +kernel) (by simp) (Nat.le_of_ble_eq_true rfl) rfl (wp_aload_n (q := 1) dL_tray_0 rfl rfl rfl (wp_iload_n (q := 2) dL_tray_1 rfl rfl rfl (wp_iload_n (q := 3) dL_tray_2 rfl rfl rfl (wp_iload_n (q := 4) dL_tray_3 rfl rfl rfl (wp_invVC (q := 7) (As := [.int x1, .int x2, .int x3]) (t := 11) (i := 4) (mc' := 40) (ms' := 14000) dL_tray_4 rfl ok_X11_tray ml_RL_135 im_X11_tray se_X11_tray (by decide) ⟨_, rfl, rfl⟩ (by show 0 < nx; omega) hs0 rfl rfl (Nat.le_of_ble_eq_true rfl) (by decide) (by decide) (tray_p (k := k + 103) hl0 hC hs hhb) (locOK [some (.ref 0), some (.int x1), some (.int x2)] (.int x3) rfl) ?_ ?_)))))
  · rintro r ⟨I1, J1, R1, S1, n1⟩ ⟨hr, hK, hC2⟩
    obtain ⟨e0, rfl⟩ := ansV_l hr
    have hn1 : nx ≤ n1 := hK.1
    exact wp_goto (tgt := 18) dL_tray_7 rfl (wp_iconst (q := 19) dL_tray_18 rfl ki_0 (wp_ireturn dL_tray_19 rfl ⟨by rw [e0]; rfl, hK.g, hC2⟩))
  · rintro E μ' ⟨hr, hK, hC2⟩
    obtain ⟨e0, hE⟩ := ansV_r hr
    have hc : ((aTray τ tm tn x1 x2 x3).1) = 1 ∨ ((aTray τ tm tn x1 x2 x3).1) = 2 := by omega
    rcases hc with e | e
    · have hE2 : E = eNS := by rw [hE, e]; rfl
      subst hE2
      exact ⟨12, ⟨[], [⟨0, 7, 14, 13⟩], ⟨0, 7, 10, 19⟩, 2, rfl, (fun _ h => absurd h List.not_mem_nil), by decide, by decide, cl_RL_19, by decide, (Or.inr ⟨dL_tray_10, rfl⟩), by decide, rfl⟩, wp_iconst (q := 13) dL_tray_12 rfl ki_1 (wp_ireturn dL_tray_13 rfl ⟨by rw [e]; rfl, hK.g, hC2⟩)⟩
    · have hE2 : E = eIA := by rw [hE, e]; rfl
      subst hE2
      exact ⟨16, ⟨[⟨0, 7, 10, 19⟩], [], ⟨0, 7, 14, 13⟩, 2, rfl, (List.forall_mem_cons.mpr ⟨Or.inr ⟨by decide, _, cl_RL_19, by decide, by decide⟩, (fun _ h => absurd h List.not_mem_nil)⟩), by decide, by decide, cl_RL_13, by decide, (Or.inr ⟨dL_tray_14, rfl⟩), by decide, rfl⟩, wp_iconst (q := 17) dL_tray_16 rfl ki_2 (wp_ireturn dL_tray_17 rfl ⟨by rw [e]; rfl, hK.g, hC2⟩)⟩
abbrev mL_write : Mt := (yL_write, cL_write, 7, (some .int), [(0, 11, 14, 19), (0, 11, 18, 51), (0, 11, 22, 143)])
theorem cwL_write : Cond.codeWith yL_write cL_write 7 (some .int) [(0, 11, 14, 19), (0, 11, 18, 51), (0, 11, 22, 143)] ∈ TW := List.mem_filter.mpr ⟨tt_6 (List.mem_of_getElem? (i := 170) rfl), rfl⟩
theorem okL_write : mOKw mL_write 5 := ⟨cwL_write, in_RL, rfl, ⟨by decide, by decide⟩, by decide +kernel, by decide⟩
theorem W_write {x1 : Int32} {x2 : Int32} {x3 : Int64} (hl0 : l.stackTraces = false) (hG : GT G) (hC : CI (I, J, R, S, nx) (κ, ι, (τ, tm, tn), (t, tp), fk, fp)) (h71 : S 71 = (101, 1)) (hs : sok hb pb κ) (hhb : hb < 2 ^ 28) : Cal l G (k + 105) 1000 14000 mL_write [.ref 0, .int x1, .int x2, .long x3, .ref 71] (I, J, R, S, nx) (WQ (I, J, R, S, nx) ((aWrite τ tm tn x1 x2 x3).1).1 ((aWrite τ tm tn x1 x2 x3).1).2 (κ, ι, (τ, tm, (aWrite τ tm tn x1 x2 x3).2), (t, tp), fk, fp)) := by
  obtain ⟨hs0, h72⟩ := hC.s0
  have hle : ((aWrite τ tm tn x1 x2 x3).1).1 ≤ 3 := by unfold aWrite; (repeat' split) <;> first | exact Nat.zero_le _ | exact Nat.le_of_ble_eq_true rfl | exact gDl _ _ _ _ _ | exact gY_le _ _ _ _ | exact Nat.le_trans (gT_le _ _) (by decide) | exact gE_le _ _ _ _ _ | exact gS_le _ _ _ _ _ _ _ | (rw [laR_0]; exact Nat.zero_le _)
  refine Cal.ofW rfl (by decide +kernel) (by simp) (Nat.le_of_ble_eq_true rfl) rfl (wp_aload (q := 2) dL_write_0 rfl rfl (wp_iconst (q := 3) dL_write_2 rfl ki_0 (wp_aload_n (q := 4) dL_write_3 rfl rfl rfl (wp_iload_n (q := 5) dL_write_4 rfl rfl rfl (wp_iload_n (q := 6) dL_write_5 rfl rfl rfl (wp_lload_n (q := 7) dL_write_6 rfl rfl rfl (wp_invVC (q := 10) (As := [.int x1, .int x2, .long x3]) (t := 11) (i := 6) (mc' := 40) (ms' := 14000) dL_write_7 rfl ok_X11_write ml_RL_139 im_X11_write se_X11_write (by decide) ⟨_, rfl, rfl⟩ (by show 0 < nx; omega) hs0 rfl rfl (Nat.le_of_ble_eq_true rfl) (by decide) (by decide) (write_p (k := k + 103) hl0 hC hs hhb) (locOK [some (.ref 0), some (.int x1), some (.int x2), some (.long x3), none] (.ref 71) rfl) ?_ ?_)))))))
  · rintro r ⟨I1, J1, R1, S1, n1⟩ ⟨hr, hK, hC2⟩
    obtain ⟨e0, rfl⟩ := ansJ_l hr
    have hn1 : nx ≤ n1 := hK.1
    have s71 : S1 71 = (101, 1) := (hK.2 71 (by decide) (by decide)).2.2.2.trans h71
    exact (wp_lastoreC (q := 11) dL_write_10 rfl (by omega) s71 cn_0 cz_0 (Nat.le_of_ble_eq_true rfl) (wp_goto (tgt := 26) dL_write_11 rfl (wp_iconst (q := 27) dL_write_26 rfl ki_0 (wp_ireturn dL_write_27 rfl ⟨by rw [e0]; rfl, hK.g.j, hC2.j71, fun _ => Eq.trans (up2_h (f := J1) (a := 71) (i := 0) (j := 0)) (if_pos rfl)⟩))))
  · rintro E μ' ⟨hr, hK, hC2⟩
    obtain ⟨e0, hE⟩ := ansJ_r hr
    have hc : ((aWrite τ tm tn x1 x2 x3).1).1 = 1 ∨ ((aWrite τ tm tn x1 x2 x3).1).1 = 2 ∨ ((aWrite τ tm tn x1 x2 x3).1).1 = 3 := by omega
    rcases hc with e | e | e
    · have hE2 : E = eNS := by rw [hE, e]; rfl
      subst hE2
      exact ⟨16, ⟨[], [⟨0, 11, 18, 51⟩, ⟨0, 11, 22, 143⟩], ⟨0, 11, 14, 19⟩, 2, rfl, (fun _ h => absurd h List.not_mem_nil), by decide, by decide, cl_RL_19, by decide, (Or.inr ⟨dL_write_14, rfl⟩), by decide, rfl⟩, wp_iconst (q := 17) dL_write_16 rfl ki_1 (wp_ireturn dL_write_17 rfl ⟨by rw [e]; rfl, hK.g, hC2, fun h => by rw [e] at h; cases h⟩)⟩
    · have hE2 : E = eIS := by rw [hE, e]; rfl
      subst hE2
      exact ⟨20, ⟨[⟨0, 11, 14, 19⟩], [⟨0, 11, 22, 143⟩], ⟨0, 11, 18, 51⟩, 2, rfl, (List.forall_mem_cons.mpr ⟨Or.inr ⟨by decide, _, cl_RL_19, by decide, by decide⟩, (fun _ h => absurd h List.not_mem_nil)⟩), by decide, by decide, cl_RL_51, by decide, (Or.inr ⟨dL_write_18, rfl⟩), by decide, rfl⟩, wp_iconst (q := 21) dL_write_20 rfl ki_2 (wp_ireturn dL_write_21 rfl ⟨by rw [e]; rfl, hK.g, hC2, fun h => by rw [e] at h; cases h⟩)⟩
    · have hE2 : E = eIO := by rw [hE, e]; rfl
      subst hE2
      exact ⟨24, ⟨[⟨0, 11, 14, 19⟩, ⟨0, 11, 18, 51⟩], [], ⟨0, 11, 22, 143⟩, 2, rfl, (List.forall_mem_cons.mpr ⟨Or.inr ⟨by decide, _, cl_RL_19, by decide, by decide⟩, (List.forall_mem_cons.mpr ⟨Or.inr ⟨by decide, _, cl_RL_51, by decide, by decide⟩, (fun _ h => absurd h List.not_mem_nil)⟩)⟩), by decide, by decide, cl_RL_143, by decide, (Or.inr ⟨dL_write_22, rfl⟩), by decide, rfl⟩, wp_iconst (q := 25) dL_write_24 rfl ki_3 (wp_ireturn dL_write_25 rfl ⟨by rw [e]; rfl, hK.g, hC2, fun h => by rw [e] at h; cases h⟩)⟩
abbrev mL_copy : Mt := (yL_copy, cL_copy, 5, (some .int), [(0, 10, 13, 19), (0, 10, 17, 51)])
theorem cwL_copy : Cond.codeWith yL_copy cL_copy 5 (some .int) [(0, 10, 13, 19), (0, 10, 17, 51)] ∈ TW := List.mem_filter.mpr ⟨tt_6 (List.mem_of_getElem? (i := 198) rfl), rfl⟩
theorem okL_copy : mOKw mL_copy 4 := ⟨cwL_copy, in_RL, rfl, ⟨by decide, by decide⟩, by decide +kernel, by decide⟩
theorem W_copy {x1 : Int32} {x2 : Int32} (hl0 : l.stackTraces = false) (hG : GT G) (hC : CI (I, J, R, S, nx) (κ, ι, (τ, tm, tn), (t, tp), fk, fp)) (h71 : S 71 = (101, 1)) (hs : sok hb pb κ) (hhb : hb < 2 ^ 28) : Cal l G (k + 105) 1000 14000 mL_copy [.ref 0, .int x1, .int x2, .ref 71] (I, J, R, S, nx) (WQ (I, J, R, S, nx) ((aCopy κ τ tm tn x1 x2).1).1 (Int32.toInt64 ((aCopy κ τ tm tn x1 x2).1).2) (κ, ι, (τ, tm, (aCopy κ τ tm tn x1 x2).2), (t, tp), fk, fp)) := by
  obtain ⟨hs0, h72⟩ := hC.s0
  have hle : ((aCopy κ τ tm tn x1 x2).1).1 ≤ 2 := by unfold aCopy; (repeat' split) <;> first | exact Nat.zero_le _ | exact Nat.le_of_ble_eq_true rfl | exact gDl _ _ _ _ _ | exact gY_le _ _ _ _ | exact Nat.le_trans (gT_le _ _) (by decide) | exact gE_le _ _ _ _ _ | exact gS_le _ _ _ _ _ _ _ | (rw [laR_0]; exact Nat.zero_le _)
  refine Cal.ofW rfl (by decide +kernel) (by simp) (Nat.le_of_ble_eq_true rfl) rfl (wp_aload_n (q := 1) dL_copy_0 rfl rfl rfl (wp_iconst (q := 2) dL_copy_1 rfl ki_0 (wp_aload_n (q := 3) dL_copy_2 rfl rfl rfl (wp_iload_n (q := 4) dL_copy_3 rfl rfl rfl (wp_iload_n (q := 5) dL_copy_4 rfl rfl rfl (wp_invVC (q := 8) (As := [.int x1, .int x2]) (t := 11) (i := 4) (mc' := 40) (ms' := 14000) dL_copy_5 rfl ok_X11_copy ml_RL_145 im_X11_copy se_X11_copy (by decide) ⟨_, rfl, rfl⟩ (by show 0 < nx; omega) hs0 rfl rfl (Nat.le_of_ble_eq_true rfl) (by decide) (by decide) (copy_p (k := k + 101) hl0 hC hs hhb) (locOK [some (.ref 0), some (.int x1), some (.int x2)] (.ref 71) rfl) ?_ ?_))))))
  · rintro r ⟨I1, J1, R1, S1, n1⟩ ⟨hr, hK, hC2⟩
    obtain ⟨e0, rfl⟩ := ansR_l hr
    have hn1 : nx ≤ n1 := hK.1
    have s71 : S1 71 = (101, 1) := (hK.2 71 (by decide) (by decide)).2.2.2.trans h71
    exact wp_i2l (q := 9) dL_copy_8 rfl (wp_lastoreC (q := 10) dL_copy_9 rfl (by omega) s71 cn_0 cz_0 (Nat.le_of_ble_eq_true rfl) (wp_goto (tgt := 21) dL_copy_10 rfl (wp_iconst (q := 22) dL_copy_21 rfl ki_0 (wp_ireturn dL_copy_22 rfl ⟨by rw [e0]; rfl, hK.g.j, hC2.j71, fun _ => Eq.trans (up2_h (f := J1) (a := 71) (i := 0) (j := 0)) (if_pos rfl)⟩))))
  · rintro E μ' ⟨hr, hK, hC2⟩
    obtain ⟨e0, hE⟩ := ansR_r hr
    have hc : ((aCopy κ τ tm tn x1 x2).1).1 = 1 ∨ ((aCopy κ τ tm tn x1 x2).1).1 = 2 := by omega
    rcases hc with e | e
    · have hE2 : E = eNS := by rw [hE, e]; rfl
      subst hE2
      exact ⟨15, ⟨[], [⟨0, 10, 17, 51⟩], ⟨0, 10, 13, 19⟩, 2, rfl, (fun _ h => absurd h List.not_mem_nil), by decide, by decide, cl_RL_19, by decide, (Or.inr ⟨dL_copy_13, rfl⟩), by decide, rfl⟩, wp_iconst (q := 16) dL_copy_15 rfl ki_1 (wp_ireturn dL_copy_16 rfl ⟨by rw [e]; rfl, hK.g, hC2, fun h => by rw [e] at h; cases h⟩)⟩
    · have hE2 : E = eIS := by rw [hE, e]; rfl
      subst hE2
      exact ⟨19, ⟨[⟨0, 10, 13, 19⟩], [], ⟨0, 10, 17, 51⟩, 2, rfl, (List.forall_mem_cons.mpr ⟨Or.inr ⟨by decide, _, cl_RL_19, by decide, by decide⟩, (fun _ h => absurd h List.not_mem_nil)⟩), by decide, by decide, cl_RL_51, by decide, (Or.inr ⟨dL_copy_17, rfl⟩), by decide, rfl⟩, wp_iconst (q := 20) dL_copy_19 rfl ki_2 (wp_ireturn dL_copy_20 rfl ⟨by rw [e]; rfl, hK.g, hC2, fun h => by rw [e] at h; cases h⟩)⟩
abbrev mL_image : Mt := (yL_image, cL_image, 3, (some .int), [(0, 5, 8, 19)])
theorem cwL_image : Cond.codeWith yL_image cL_image 3 (some .int) [(0, 5, 8, 19)] ∈ TW := List.mem_filter.mpr ⟨tt_6 (List.mem_of_getElem? (i := 205) rfl), rfl⟩
theorem okL_image : mOKw mL_image 2 := ⟨cwL_image, in_RL, rfl, ⟨by decide, by decide⟩, by decide +kernel, by decide⟩
theorem W_image {x1 : Int32} (hl0 : l.stackTraces = false) (hG : GT G) (hC : CI (I, J, R, S, nx) (κ, ι, (τ, tm, tn), (t, tp), fk, fp)) (h71 : S 71 = (101, 1)) (hs : sok hb pb κ) (hhb : hb < 2 ^ 28) : Cal l G (k + 105) 1000 14000 mL_image [.ref 0, .int x1] (I, J, R, S, nx) (fun r μ' => r = .inl (some (.int (nI (aImage κ ι x1).1))) ∧ KG (I, J, R, S, nx) μ' ∧ CI μ' (κ, (aImage κ ι x1).2, (τ, tm, tn), (t, tp), fk, fp)) := by
  obtain ⟨hs0, h72⟩ := hC.s0
  have hle : (aImage κ ι x1).1 ≤ 1 := by unfold aImage; (repeat' split) <;> first | exact Nat.zero_le _ | exact Nat.le_of_ble_eq_true rfl | exact gDl _ _ _ _ _ | exact gY_le _ _ _ _ | exact Nat.le_trans (gT_le _ _) (by decide) | exact gE_le _ _ _ _ _ | exact gS_le _ _ _ _ _ _ _ | (rw [laR_0]; exact Nat.zero_le _)
  refine Cal.ofW rfl (by decide +kernel) (by simp) (Nat.le_of_ble_eq_true rfl) rfl (wp_aload_n (q := 1) dL_image_0 rfl rfl rfl (wp_iload_n (q := 2) dL_image_1 rfl rfl rfl (wp_invVC (q := 5) (As := [.int x1]) (t := 11) (i := 2) (mc' := 40) (ms' := 14000) dL_image_2 rfl ok_X11_image ml_RL_148 im_X11_image se_X11_image (by decide) ⟨_, rfl, rfl⟩ (by show 0 < nx; omega) hs0 rfl rfl (Nat.le_of_ble_eq_true rfl) (by decide) (by decide) (image_p (k := k + 102) hl0 hC hs hhb) (locOK [some (.ref 0)] (.int x1) rfl) ?_ ?_)))
  · rintro r ⟨I1, J1, R1, S1, n1⟩ ⟨hr, hK, hC2⟩
    obtain ⟨e0, rfl⟩ := ansV_l hr
    have hn1 : nx ≤ n1 := hK.1
    exact wp_goto (tgt := 11) dL_image_5 rfl (wp_iconst (q := 12) dL_image_11 rfl ki_0 (wp_ireturn dL_image_12 rfl ⟨by rw [e0]; rfl, hK.g, hC2⟩))
  · rintro E μ' ⟨hr, hK, hC2⟩
    obtain ⟨e0, hE⟩ := ansV_r hr
    have e : (aImage κ ι x1).1 = 1 := by omega
    · have hE2 : E = eNS := by rw [hE, e]; rfl
      subst hE2
      exact ⟨9, ⟨[], [], ⟨0, 5, 8, 19⟩, 1, rfl, (fun _ h => absurd h List.not_mem_nil), by decide, by decide, cl_RL_19, by decide, (Or.inl ⟨_, dL_image_8, rfl, rfl⟩), by decide, rfl⟩, wp_iconst (q := 10) dL_image_9 rfl ki_1 (wp_ireturn dL_image_10 rfl ⟨by rw [e]; rfl, hK.g, hC2⟩)⟩
abbrev mL_restore : Mt := (yL_restore, cL_restore, 3, (some .int), [(0, 5, 8, 19), (0, 5, 11, 51)])
theorem cwL_restore : Cond.codeWith yL_restore cL_restore 3 (some .int) [(0, 5, 8, 19), (0, 5, 11, 51)] ∈ TW := List.mem_filter.mpr ⟨tt_7 (List.mem_of_getElem? (i := 0) rfl), rfl⟩
theorem okL_restore : mOKw mL_restore 2 := ⟨cwL_restore, in_RL, rfl, ⟨by decide, by decide⟩, by decide +kernel, by decide⟩
theorem W_restore {x1 : Int32} (hl0 : l.stackTraces = false) (hG : GT G) (hC : CI (I, J, R, S, nx) (κ, ι, (τ, tm, tn), (t, tp), fk, fp)) (h71 : S 71 = (101, 1)) (hs : sok hb pb κ) (hhb : hb < 2 ^ 28) : Cal l G (k + 105) 1000 14000 mL_restore [.ref 0, .int x1] (I, J, R, S, nx) (fun r μ' => r = .inl (some (.int (nI (aRest κ ι x1).1))) ∧ KG (I, J, R, S, nx) μ' ∧ CI μ' ((aRest κ ι x1).2, ι, (τ, tm, tn), (t, tp), fk, fp)) := by
  obtain ⟨hs0, h72⟩ := hC.s0
  have hle : (aRest κ ι x1).1 ≤ 2 := by unfold aRest; (repeat' split) <;> first | exact Nat.zero_le _ | exact Nat.le_of_ble_eq_true rfl | exact gDl _ _ _ _ _ | exact gY_le _ _ _ _ | exact Nat.le_trans (gT_le _ _) (by decide) | exact gE_le _ _ _ _ _ | exact gS_le _ _ _ _ _ _ _ | (rw [laR_0]; exact Nat.zero_le _)
  refine Cal.ofW rfl (by decide +kernel) (by simp) (Nat.le_of_ble_eq_true rfl) rfl (wp_aload_n (q := 1) dL_restore_0 rfl rfl rfl (wp_iload_n (q := 2) dL_restore_1 rfl rfl rfl (wp_invVC (q := 5) (As := [.int x1]) (t := 11) (i := 2) (mc' := 40) (ms' := 14000) dL_restore_2 rfl ok_X11_restore ml_RL_152 im_X11_restore se_X11_restore (by decide) ⟨_, rfl, rfl⟩ (by show 0 < nx; omega) hs0 rfl rfl (Nat.le_of_ble_eq_true rfl) (by decide) (by decide) (restore_p (k := k + 102) hl0 hC hs hhb) (locOK [some (.ref 0)] (.int x1) rfl) ?_ ?_)))
  · rintro r ⟨I1, J1, R1, S1, n1⟩ ⟨hr, hK, hC2⟩
    obtain ⟨e0, rfl⟩ := ansV_l hr
    have hn1 : nx ≤ n1 := hK.1
    exact wp_goto (tgt := 14) dL_restore_5 rfl (wp_iconst (q := 15) dL_restore_14 rfl ki_0 (wp_ireturn dL_restore_15 rfl ⟨by rw [e0]; rfl, hK.g, hC2⟩))
  · rintro E μ' ⟨hr, hK, hC2⟩
    obtain ⟨e0, hE⟩ := ansV_r hr
    have hc : (aRest κ ι x1).1 = 1 ∨ (aRest κ ι x1).1 = 2 := by omega
    rcases hc with e | e
    · have hE2 : E = eNS := by rw [hE, e]; rfl
      subst hE2
      exact ⟨9, ⟨[], [⟨0, 5, 11, 51⟩], ⟨0, 5, 8, 19⟩, 1, rfl, (fun _ h => absurd h List.not_mem_nil), by decide, by decide, cl_RL_19, by decide, (Or.inl ⟨_, dL_restore_8, rfl, rfl⟩), by decide, rfl⟩, wp_iconst (q := 10) dL_restore_9 rfl ki_1 (wp_ireturn dL_restore_10 rfl ⟨by rw [e]; rfl, hK.g, hC2⟩)⟩
    · have hE2 : E = eIS := by rw [hE, e]; rfl
      subst hE2
      exact ⟨12, ⟨[⟨0, 5, 8, 19⟩], [], ⟨0, 5, 11, 51⟩, 1, rfl, (List.forall_mem_cons.mpr ⟨Or.inr ⟨by decide, _, cl_RL_19, by decide, by decide⟩, (fun _ h => absurd h List.not_mem_nil)⟩), by decide, by decide, cl_RL_51, by decide, (Or.inl ⟨_, dL_restore_11, rfl, rfl⟩), by decide, rfl⟩, wp_iconst (q := 13) dL_restore_12 rfl ki_2 (wp_ireturn dL_restore_13 rfl ⟨by rw [e]; rfl, hK.g, hC2⟩)⟩
end A
