/-! the class: its answers, second part -/
section A
variable {l : Launch} {G : Gh} {k : Nat} {I : Nat → Nat → Int32} {J : Nat → Nat → Int64} {R : Nat → Nat → Option Nat} {S : Nat → Nat × Nat} {nx : Nat} {κ : Nat → Nat} {hb pb : Nat}
variable {ι : Nat → Option (Nat → Nat)} {τ tm : Nat → Nat} {tn : Nat → Nat → Int64} {tp : Nat} {fk fp : Int32} {t : Nat → Nat}
theorem ok0 {Es : List String} {v V : Int32} (e : v = V) : (.inl (some (.int v)) : Res) = ansR Es (0, V) := by rw [e]; rfl
theorem keep_ck {L dl pl ld lp : Nat} {I1 : Nat → Nat → Int32} (h : CK I κ L dl pl ld lp) (wl : LW R S nx L dl pl ld lp) (h2 : κ 2 ≤ 8) (h5 : κ 5 ≤ 10) (hF : Fr [30, 31] I I1) : CK I1 (qkeep κ) L dl pl ld lp := by
  have h' := h.fr wl hF (by decide) (by decide) (by decide)
  refine ⟨fun i hi => ?_, h'.2.1.cg h2 (fun i hi => ?_), h'.2.2.cg (fun i hi => ?_)⟩
  · have := prm_lt i hi
    rw [qkeep_low (by omega) (by omega)]; exact h'.1 i hi
  · by_cases c : i < 82
    · exact qkeep_low c (by omega)
    · exact qkeep_high (by omega) h5
  · by_cases c : i < 82
    · exact qkeep_low c (by omega)
    · exact qkeep_high (by omega) h5
theorem PV0 (h : ∀ j, j < 960 → I 29 j = 0) : PV I κ := fun wn hh a h1 h2 h3 => ⟨0, h _ (by omega), by decide, fun m _ => by simp⟩
theorem forget_c (w : CF R S nx) : Cal l G (k + 1) 0 0 mX7_forgetPrevailing [.ref 14] (I, J, R, S, nx) (fun r μ' => r = .inl none ∧ ∃ I', μ' = (I', J, R, S, nx) ∧ Fr [29] I I' ∧ ∀ κ', PV I' κ') :=
  Cal.of rfl (by decide +kernel) (by simp) (Nat.le_of_ble_eq_true rfl) rfl (sX7_forgetPrevailing_0 (P1 := fun I I' => Fr [29] I I' ∧ ∀ j, j < 960 → I' 29 j = 0) w (fill_i (cf_a w (q := (29, 100, 960)) (by decide)) (cf_n w (by decide)) (by decide)) (fun I1 h1 => ⟨rfl, _, rfl, h1.1, fun κ' => PV0 h1.2⟩))
theorem scrN {ow : Nat → Nat} : ∀ a ∈ [25, 27, 28, 29, 30, 31], Scr ow a := by
  intro a ha
  simp at ha
  exact Or.inl (by omega)
theorem mx0 {u v c : Nat} (hu : u < 2 ^ 30) (hv : v < 2 ^ 30) (hc : u - v = c) : (if (0 : Int32) < nI u - nI v then nI u - nI v else (0 : Int32)) = nI c := by
  by_cases g : v ≤ u
  · rw [pk_sub g, hc]
    by_cases g2 : c = 0
    · rw [g2]; rfl
    · rw [if_pos (show (0 : Int32) < nI c from nI_lt (a := 0) (by omega) (by omega))]
  · rw [show c = 0 by omega, if_neg]
    · rfl
    · rw [nI_z, nI_z, zI_sub, fa_lt, zI_toInt (by omega)]; show ¬ (0 : Int) < _; omega
def aFault (fk fp x : Int32) : Int32 := if x = 0 then fk else if x = 1 then fp else -1
theorem fault_p {x1 : Int32} (hl0 : l.stackTraces = false) (hC : CI (I, J, R, S, nx) (κ, ι, (τ, tm, tn), (t, tp), fk, fp)) (hs : sok hb pb κ) (hhb : hb < 2 ^ 28) : Cal l G k 40 14000 mX11_fault [.ref 0, .int x1] (I, J, R, S, nx) (CQ (I, J, R, S, nx) (.inl (some (.int (aFault fk fp x1)))) (κ, ι, (τ, tm, tn), (t, tp), fk, fp)) := by
  have hC0 := hC
  obtain ⟨ow, L, dl, pl, ld, lp, hR, wL, hL, hN, hV, hP⟩ := hC
  have e11 : I 1 11 = fk := hR.2.2.2.1.1
  have e12 : I 1 12 = fp := hR.2.2.2.1.2
  unfold aFault
  refine Cal.of rfl (by decide +kernel) (by simp) (Nat.le_of_ble_eq_true rfl) rfl (sX11_fault_0 hR.1 ?_ ?_ ?_)
  · intro n1 n2; rw [if_neg n1, if_neg n2]; exact ⟨rfl, CI.same hC0⟩
  · intro n1 n2; rw [if_neg n1, if_pos n2, e12]; exact ⟨rfl, CI.same hC0⟩
  · intro n1; rw [if_pos n1, e11]; exact ⟨rfl, CI.same hC0⟩
theorem ward_p {x1 : Int32} {x2 : Int32} (hl0 : l.stackTraces = false) (hC : CI (I, J, R, S, nx) (κ, ι, (τ, tm, tn), (t, tp), fk, fp)) (hs : sok hb pb κ) (hhb : hb < 2 ^ 28) : Cal l G (k + 1) 40 14000 mX11_ward [.ref 0, .int x1, .int x2] (I, J, R, S, nx) (CQ (I, J, R, S, nx) (ansR [eNS, eIA] (aWard κ x1 x2)) (κ, ι, (τ, tm, tn), (t, tp), fk, fp)) := by
  have hC0 := hC
  obtain ⟨ow, L, dl, pl, ld, lp, hR, wL, hL, hN, hV, hP⟩ := hC
  have hR : CR I J R S nx ow ι τ tm tn t tp fk fp := hR
  have wL : R 14 0 = some L := wL
  have hL : LdC I R S nx ow L κ dl pl ld lp := hL
  have hN : CN I κ := hN
  have hV : PV I κ := hV
  have hP : PS I 30 31 κ := hP
  have w : CF R S nx := hR.1
  have wl : LW R S nx L dl pl ld lp := hL.1
  have h : CK I κ L dl pl ld lp := ⟨hN, hL.2.1, hV⟩
  have ho := hs.q
  have h1w : κ 1 ≤ 5 := ho.1
  have h2a : κ 2 ≤ 8 := ho.2.1
  have h54 : κ 54 ≤ hb := ho.2.2.2.2.2.2.2.2.2.2.1
  have e1 : I L 1 = nI (κ 1) := h.2.1.1.2.1
  have e2 : I L 2 = nI (κ 2) := h.2.1.1.2.2.1
  have k0 : nd_needWard (I L 1) x1 = (if gL x1 (κ 1) then none else some eNS) := (by rw [e1]; exact ndW (by omega))
  have k1 : nd_needWithin x2 (0 : Int32) (5 : Int32) = (if gR x2 0 5 then none else some eIA) := (ndI (a := 0) (b := 5) (by decide) (by decide))
  by_cases g0 : gL x1 (κ 1)
  · by_cases g1 : gR x2 0 5
    · have c0 : nd_needWard (I L 1) x1 = none := by rw [k0, if_pos g0]
      have c1 : nd_needWithin x2 (0 : Int32) (5 : Int32) = none := by rw [k1, if_pos g1]
      rw [show aWard κ x1 x2 = (0, if x2 = 0 then nI (κ (56 + cN x1)) else if x2 = 1 then nI (κ (61 + cN x1)) else if x2 = 2 then nI (qlaid κ 7 (cN x1) (κ 54)) else if x2 = 3 then nI (qlaid κ 22 (cN x1) (κ 54)) else if x2 = 4 then nI (κ (17 + cN x1) - κ 54) else nI (κ (32 + cN x1) - κ 54)) by unfold aWard; rw [if_pos g0, if_pos g1]]
      refine Cal.of rfl (by decide +kernel) (by simp) (Nat.le_of_ble_eq_true rfl) rfl (sX11_ward_0 hl0 w wL wl (by decide) (ndy c0) (by decide) (fun _ => ndy c1) (fun _ _ => ?_) (fun _ _ => ?_) (fun _ _ => ?_) (fun _ _ => ?_) (fun _ _ => ?_) (fun _ _ => ?_) (fun _ _ => ?_) (fun _ _ => ?_) (fun _ _ => ?_) (fun _ _ => ?_) (fun _ _ => ?_) (fun _ _ => ?_) (fun _ _ => ?_) (fun _ _ => ?_) (fun _ _ => ?_) (fun _ _ => ?_))
      · obtain ⟨a, rfl, ha, ea⟩ := g0.n (by omega)
        intro _; rw [show (28 : Int32) + nI a = nI (28 + a) from nI_add 28 a]; exact vp_in_nI (by omega) (by decide)
      · obtain ⟨a, rfl, ha, ea⟩ := g0.n (by omega)
        intro g
        refine ⟨ok0 ?_, CI.same hC0⟩
        have hbd := (ho.2.2.2.2.2.2.2.1 a (by omega)).2.2.2.2.2.1
        rw [show (28 : Int32) + nI a = nI (3 + (25 + a)) by rw [show (28 : Int32) = nI 28 from rfl, nI_add]; congr 1; omega, nI_clamp (by omega), h.1.j (by omega), h.1.h.1, ea, show 7 + (25 + a) = 32 + a by omega, mx0 (c := κ (32 + a) - κ 54) (by omega) (by omega) rfl, if_neg (fun e => by rw [e] at g; exact absurd g (by decide)), if_neg (fun e => by rw [e] at g; exact absurd g (by decide)), if_neg (fun e => by rw [e] at g; exact absurd g (by decide)), if_neg (fun e => by rw [e] at g; exact absurd g (by decide)), if_neg (fun e => by rw [e] at g; exact absurd g (by decide))]
      · obtain ⟨a, rfl, ha, ea⟩ := g0.n (by omega)
        intro _; exact vp_in_nI (by omega) (by decide)
      · obtain ⟨a, rfl, ha, ea⟩ := g0.n (by omega)
        intro g
        refine ⟨ok0 ?_, CI.same hC0⟩
        rw [if_pos g, ea, nI_clamp (by omega)]; exact (h.2.1.2.1 a (by omega)).1
      · obtain ⟨a, rfl, ha, ea⟩ := g0.n (by omega)
        intro _; exact vp_in_nI (by omega) (by decide)
      · obtain ⟨a, rfl, ha, ea⟩ := g0.n (by omega)
        intro g
        subst g
        refine ⟨ok0 ?_, CI.same hC0⟩
        rw [if_neg (by decide), if_pos rfl, ea, nI_clamp (by omega)]; exact (h.2.1.2.1 a (by omega)).2
      · obtain ⟨a, rfl, ha, ea⟩ := g0.n (by omega)
        intro _; rw [show (3 : Int32) + (5 : Int32) + nI a = nI (8 + a) by rw [show (3 : Int32) + (5 : Int32) = nI 8 from rfl, nI_add]]; exact vp_in_nI (by omega) (by decide)
      · obtain ⟨a, rfl, ha, ea⟩ := g0.n (by omega)
        intro _ _; rw [show (3 : Int32) + (10 : Int32) + nI a = nI (13 + a) by rw [show (3 : Int32) + (10 : Int32) = nI 13 from rfl, nI_add]]; exact vp_in_nI (by omega) (by decide)
      · obtain ⟨a, rfl, ha, ea⟩ := g0.n (by omega)
        intro _ _ _; rw [show (3 : Int32) + nI a = nI (3 + a) from nI_add 3 a]; exact vp_in_nI (by omega) (by decide)
      · obtain ⟨a, rfl, ha, ea⟩ := g0.n (by omega)
        intro g
        subst g
        refine ⟨ok0 ?_, CI.same hC0⟩
        have hbd := ho.2.2.2.2.2.2.2.1 a (by omega)
        rw [if_neg (by decide), if_neg (by decide), if_pos rfl, ea, h.1.h.1]
        exact laid_c (what := 0) h.1 (by omega) (by rw [show 7 + (0 + 5 + a) = 12 + a by omega]; omega) (by rw [show 7 + (0 + 10 + a) = 17 + a by omega]; omega) (by omega)
      · obtain ⟨a, rfl, ha, ea⟩ := g0.n (by omega)
        intro _; rw [show (18 : Int32) + (5 : Int32) + nI a = nI (23 + a) by rw [show (18 : Int32) + (5 : Int32) = nI 23 from rfl, nI_add]]; exact vp_in_nI (by omega) (by decide)
      · obtain ⟨a, rfl, ha, ea⟩ := g0.n (by omega)
        intro _ _; rw [show (18 : Int32) + (10 : Int32) + nI a = nI (28 + a) by rw [show (18 : Int32) + (10 : Int32) = nI 28 from rfl, nI_add]]; exact vp_in_nI (by omega) (by decide)
      · obtain ⟨a, rfl, ha, ea⟩ := g0.n (by omega)
        intro _ _ _; rw [show (18 : Int32) + nI a = nI (18 + a) from nI_add 18 a]; exact vp_in_nI (by omega) (by decide)
      · obtain ⟨a, rfl, ha, ea⟩ := g0.n (by omega)
        intro g
        subst g
        refine ⟨ok0 ?_, CI.same hC0⟩
        have hbd := ho.2.2.2.2.2.2.2.1 a (by omega)
        rw [if_neg (by decide), if_neg (by decide), if_neg (by decide), if_pos rfl, ea, h.1.h.1]
        exact laid_c (what := 15) h.1 (by omega) (by rw [show 7 + (15 + 5 + a) = 27 + a by omega]; omega) (by rw [show 7 + (15 + 10 + a) = 32 + a by omega]; omega) (by omega)
      · obtain ⟨a, rfl, ha, ea⟩ := g0.n (by omega)
        intro _; rw [show (13 : Int32) + nI a = nI (13 + a) from nI_add 13 a]; exact vp_in_nI (by omega) (by decide)
      · obtain ⟨a, rfl, ha, ea⟩ := g0.n (by omega)
        intro g
        subst g
        refine ⟨ok0 ?_, CI.same hC0⟩
        have hbd := (ho.2.2.2.2.2.2.2.1 a (by omega)).2.2.1
        rw [show (13 : Int32) + nI a = nI (3 + (10 + a)) by rw [show (13 : Int32) = nI 13 from rfl, nI_add]; congr 1; omega, nI_clamp (by omega), h.1.j (by omega), h.1.h.1, ea, show 7 + (10 + a) = 17 + a by omega, mx0 (c := κ (17 + a) - κ 54) (by omega) (by omega) rfl, if_neg (by decide), if_neg (by decide), if_neg (by decide), if_neg (by decide), if_pos rfl]
    · have c0 : nd_needWard (I L 1) x1 = none := by rw [k0, if_pos g0]
      have c1 : nd_needWithin x2 (0 : Int32) (5 : Int32) = some eIA := by rw [k1, if_neg g1]
      rw [show aWard κ x1 x2 = (2, 0) by unfold aWard; rw [if_pos g0, if_neg g1]]
      exact Cal.of rfl (by decide +kernel) (by simp) (Nat.le_of_ble_eq_true rfl) rfl (sX11_ward_0 hl0 w wL wl (by decide) (ndy c0) (by decide) (fun _ => ndn c1 (fun n' hn => ⟨rfl, CI.thr hC0 hn⟩)) (fun _ g => ndx c1 g) (fun _ g => ndx c1 g) (fun _ g => ndx c1 g) (fun _ g => ndx c1 g) (fun _ g => ndx c1 g) (fun _ g => ndx c1 g) (fun _ g => ndx c1 g) (fun _ g => ndx c1 g) (fun _ g => ndx c1 g) (fun _ g => ndx c1 g) (fun _ g => ndx c1 g) (fun _ g => ndx c1 g) (fun _ g => ndx c1 g) (fun _ g => ndx c1 g) (fun _ g => ndx c1 g) (fun _ g => ndx c1 g))
  · have c0 : nd_needWard (I L 1) x1 = some eNS := by rw [k0, if_neg g0]
    rw [show aWard κ x1 x2 = (1, 0) by unfold aWard; rw [if_neg g0]]
    exact Cal.of rfl (by decide +kernel) (by simp) (Nat.le_of_ble_eq_true rfl) rfl (sX11_ward_0 hl0 w wL wl (by decide) (ndn c0 (fun n' hn => ⟨rfl, CI.thr hC0 hn⟩)) (by decide) (fun g => ndx c0 g) (fun g => ndx c0 g) (fun g => ndx c0 g) (fun g => ndx c0 g) (fun g => ndx c0 g) (fun g => ndx c0 g) (fun g => ndx c0 g) (fun g => ndx c0 g) (fun g => ndx c0 g) (fun g => ndx c0 g) (fun g => ndx c0 g) (fun g => ndx c0 g) (fun g => ndx c0 g) (fun g => ndx c0 g) (fun g => ndx c0 g) (fun g => ndx c0 g) (fun g => ndx c0 g))
theorem act_p {x1 : Int32} {x2 : Int32} (hl0 : l.stackTraces = false) (hC : CI (I, J, R, S, nx) (κ, ι, (τ, tm, tn), (t, tp), fk, fp)) (hs : sok hb pb κ) (hhb : hb < 2 ^ 28) : Cal l G (k + 1) 40 14000 mX11_act [.ref 0, .int x1, .int x2] (I, J, R, S, nx) (CQ (I, J, R, S, nx) (ansR [eNS, eIA] (aAct κ x1 x2)) (κ, ι, (τ, tm, tn), (t, tp), fk, fp)) := by
  have hC0 := hC
  obtain ⟨ow, L, dl, pl, ld, lp, hR, wL, hL, hN, hV, hP⟩ := hC
  have hR : CR I J R S nx ow ι τ tm tn t tp fk fp := hR
  have wL : R 14 0 = some L := wL
  have hL : LdC I R S nx ow L κ dl pl ld lp := hL
  have hN : CN I κ := hN
  have hV : PV I κ := hV
  have hP : PS I 30 31 κ := hP
  have w : CF R S nx := hR.1
  have wl : LW R S nx L dl pl ld lp := hL.1
  have h : CK I κ L dl pl ld lp := ⟨hN, hL.2.1, hV⟩
  have ho := hs.q
  have h1w : κ 1 ≤ 5 := ho.1
  have h2a : κ 2 ≤ 8 := ho.2.1
  have h54 : κ 54 ≤ hb := ho.2.2.2.2.2.2.2.2.2.2.1
  have e1 : I L 1 = nI (κ 1) := h.2.1.1.2.1
  have e2 : I L 2 = nI (κ 2) := h.2.1.1.2.2.1
  have k0 : nd_needAct (I L 2) x1 = (if gL x1 (κ 2) then none else some eNS) := (by rw [e2]; exact ndW (by omega))
  have k1 : nd_needWithin x2 (0 : Int32) (4 : Int32) = (if gR x2 0 4 then none else some eIA) := (ndI (a := 0) (b := 4) (by decide) (by decide))
  by_cases g0 : gL x1 (κ 2)
  · by_cases g1 : gR x2 0 4
    · have c0 : nd_needAct (I L 2) x1 = none := by rw [k0, if_pos g0]
      have c1 : nd_needWithin x2 (0 : Int32) (4 : Int32) = none := by rw [k1, if_pos g1]
      rw [show aAct κ x1 x2 = (0, if x2 = 0 then nI (κ (66 + cN x1)) else if x2 = 1 then nI (κ (37 + cN x1)) else if x2 = 2 then nI (κ (45 + cN x1)) else if x2 = 3 then nI (κ (74 + cN x1)) else if (κ 53).testBit (cN x1) then 1 else 0) by unfold aAct; rw [if_pos g0, if_pos g1]]
      refine Cal.of rfl (by decide +kernel) (by simp) (Nat.le_of_ble_eq_true rfl) rfl (sX11_act_0 hl0 w wL wl (by decide) (ndy c0) (by decide) (fun _ => ndy c1) (fun _ _ => ?_) (fun _ _ => ?_) (fun _ _ => ?_) (fun _ _ => ?_) (fun _ _ => ?_) (fun _ _ => ?_) (fun _ _ => ?_) (fun _ _ => ?_) (fun _ _ => ?_) (fun _ _ => ?_))
      · obtain ⟨a, rfl, ha, ea⟩ := g0.n (by omega)
        intro g g3
        refine ⟨ok0 ?_, CI.same hC0⟩
        rw [rep_c h.1 ho (by omega)] at g3
        rw [if_neg (fun e => by rw [e] at g; exact absurd g (by decide)), if_neg (fun e => by rw [e] at g; exact absurd g (by decide)), if_neg (fun e => by rw [e] at g; exact absurd g (by decide)), if_neg (fun e => by rw [e] at g; exact absurd g (by decide)), ea, if_neg g3]
      · obtain ⟨a, rfl, ha, ea⟩ := g0.n (by omega)
        intro g g3
        refine ⟨ok0 ?_, CI.same hC0⟩
        rw [rep_c h.1 ho (by omega), Decidable.not_not] at g3
        rw [if_neg (fun e => by rw [e] at g; exact absurd g (by decide)), if_neg (fun e => by rw [e] at g; exact absurd g (by decide)), if_neg (fun e => by rw [e] at g; exact absurd g (by decide)), if_neg (fun e => by rw [e] at g; exact absurd g (by decide)), ea, if_pos g3]
      · obtain ⟨a, rfl, ha, ea⟩ := g0.n (by omega)
        intro _; exact vp_in_nI (by omega) (by decide)
      · obtain ⟨a, rfl, ha, ea⟩ := g0.n (by omega)
        intro g
        subst g
        refine ⟨ok0 ?_, CI.same hC0⟩
        rw [if_pos rfl, ea, nI_clamp (by omega)]; exact (h.2.1.2.2.1 a (by omega)).1
      · obtain ⟨a, rfl, ha, ea⟩ := g0.n (by omega)
        intro _; rw [show (33 : Int32) + nI a = nI (33 + a) from nI_add 33 a]; exact vp_in_nI (by omega) (by decide)
      · obtain ⟨a, rfl, ha, ea⟩ := g0.n (by omega)
        intro g
        subst g
        refine ⟨ok0 ?_, CI.same hC0⟩
        rw [if_neg (by decide), if_pos rfl, ea, show (33 : Int32) + nI a = nI (3 + (30 + a)) by rw [show (33 : Int32) = nI 33 from rfl, nI_add]; congr 1; omega, nI_clamp (by omega), h.1.j (by omega), show 7 + (30 + a) = 37 + a by omega]
      · obtain ⟨a, rfl, ha, ea⟩ := g0.n (by omega)
        intro _; rw [show (41 : Int32) + nI a = nI (41 + a) from nI_add 41 a]; exact vp_in_nI (by omega) (by decide)
      · obtain ⟨a, rfl, ha, ea⟩ := g0.n (by omega)
        intro g
        subst g
        refine ⟨ok0 ?_, CI.same hC0⟩
        rw [if_neg (by decide), if_neg (by decide), if_pos rfl, ea, show (41 : Int32) + nI a = nI (3 + (38 + a)) by rw [show (41 : Int32) = nI 41 from rfl, nI_add]; congr 1; omega, nI_clamp (by omega), h.1.j (by omega), show 7 + (38 + a) = 45 + a by omega]
      · obtain ⟨a, rfl, ha, ea⟩ := g0.n (by omega)
        intro _; exact vp_in_nI (by omega) (by decide)
      · obtain ⟨a, rfl, ha, ea⟩ := g0.n (by omega)
        intro g
        subst g
        refine ⟨ok0 ?_, CI.same hC0⟩
        rw [if_neg (by decide), if_neg (by decide), if_neg (by decide), if_pos rfl, ea, nI_clamp (by omega)]; exact (h.2.1.2.2.1 a (by omega)).2
    · have c0 : nd_needAct (I L 2) x1 = none := by rw [k0, if_pos g0]
      have c1 : nd_needWithin x2 (0 : Int32) (4 : Int32) = some eIA := by rw [k1, if_neg g1]
      rw [show aAct κ x1 x2 = (2, 0) by unfold aAct; rw [if_pos g0, if_neg g1]]
      exact Cal.of rfl (by decide +kernel) (by simp) (Nat.le_of_ble_eq_true rfl) rfl (sX11_act_0 hl0 w wL wl (by decide) (ndy c0) (by decide) (fun _ => ndn c1 (fun n' hn => ⟨rfl, CI.thr hC0 hn⟩)) (fun _ g => ndx c1 g) (fun _ g => ndx c1 g) (fun _ g => ndx c1 g) (fun _ g => ndx c1 g) (fun _ g => ndx c1 g) (fun _ g => ndx c1 g) (fun _ g => ndx c1 g) (fun _ g => ndx c1 g) (fun _ g => ndx c1 g) (fun _ g => ndx c1 g))
  · have c0 : nd_needAct (I L 2) x1 = some eNS := by rw [k0, if_neg g0]
    rw [show aAct κ x1 x2 = (1, 0) by unfold aAct; rw [if_neg g0]]
    exact Cal.of rfl (by decide +kernel) (by simp) (Nat.le_of_ble_eq_true rfl) rfl (sX11_act_0 hl0 w wL wl (by decide) (ndn c0 (fun n' hn => ⟨rfl, CI.thr hC0 hn⟩)) (by decide) (fun g => ndx c0 g) (fun g => ndx c0 g) (fun g => ndx c0 g) (fun g => ndx c0 g) (fun g => ndx c0 g) (fun g => ndx c0 g) (fun g => ndx c0 g) (fun g => ndx c0 g) (fun g => ndx c0 g) (fun g => ndx c0 g) (fun g => ndx c0 g))
theorem hours_p {x1 : Int32} (hl0 : l.stackTraces = false) (hC : CI (I, J, R, S, nx) (κ, ι, (τ, tm, tn), (t, tp), fk, fp)) (hs : sok hb pb κ) (hhb : hb < 2 ^ 28) : Cal l G (k + 1) 40 14000 mX11_hours [.ref 0, .int x1] (I, J, R, S, nx) (CQ (I, J, R, S, nx) (ansR [eIA] ((aHours κ x1).1)) ((aHours κ x1).2, ι, (τ, tm, tn), (t, tp), fk, fp)) := by
  have hC0 := hC
  obtain ⟨ow, L, dl, pl, ld, lp, hR, wL, hL, hN, hV, hP⟩ := hC
  have hR : CR I J R S nx ow ι τ tm tn t tp fk fp := hR
  have wL : R 14 0 = some L := wL
  have hL : LdC I R S nx ow L κ dl pl ld lp := hL
  have hN : CN I κ := hN
  have hV : PV I κ := hV
  have hP : PS I 30 31 κ := hP
  have w : CF R S nx := hR.1
  have wl : LW R S nx L dl pl ld lp := hL.1
  have h : CK I κ L dl pl ld lp := ⟨hN, hL.2.1, hV⟩
  have ho := hs.q
  have h1w : κ 1 ≤ 5 := ho.1
  have h2a : κ 2 ≤ 8 := ho.2.1
  have h54 : κ 54 ≤ hb := ho.2.2.2.2.2.2.2.2.2.2.1
  have e1 : I L 1 = nI (κ 1) := h.2.1.1.2.1
  have e2 : I L 2 = nI (κ 2) := h.2.1.1.2.2.1
  have k0 : nd_needWithin x1 (1 : Int32) (99 : Int32) = (if gR x1 1 99 then none else some eIA) := (ndI (a := 1) (b := 99) (by decide) (by decide))
  by_cases g0 : gR x1 1 99
  · have c0 : nd_needWithin x1 (1 : Int32) (99 : Int32) = none := by rw [k0, if_pos g0]
    rw [show aHours κ x1 = ((0, nI (κ 54 + cN x1)), qhour (qkeep κ) (cN x1)) by unfold aHours; rw [if_pos g0]]
    refine Cal.of rfl (by decide +kernel) (by simp) (Nat.le_of_ble_eq_true rfl) rfl (sX11_hours_0 (P1 := fun I I' => Fr [30, 31] I I' ∧ PS I' 30 31 (qkeep κ)) hl0 w (by decide) (ndy c0) (fun _ => ?_) (fun _ => ?_))
    · exact keep_c w hN hP hs.2.1
    · intro I1 h1
      obtain ⟨n, rfl, _, hn, en⟩ := g0.n (by omega)
      have h' := keep_ck h wl h2a hs.2.1 h1.1
      have e54 : qkeep κ 54 = κ 54 := qkeep_low (by decide) (by decide)
      have e0 : 7 + prm 0 = 54 := by decide
      rw [en, h'.1.h.1, e54, nI_add]
      have hF : Fr [25] I1 (up2 I1 25 0 (nI (κ 54 + n))) := Fr.rf.up (by decide)
      have hN' := h'.1.up0 (t := 0) (v := κ 54 + n) (by decide)
      rw [e0] at hN'
      have eq1 : qhour (qkeep κ) n = qset (qkeep κ) 54 (κ 54 + n) := by unfold qhour; rw [e54]
      rw [eq1]
      have h'' := h'.st wl (by rw [qkeep_low (by decide) (by decide)]; exact h2a) hF hN' (fun i hi => qset_ne (by omega))
      exact ⟨rfl, CI.step hR wL hL (h1.1.tr hF (r3 := [25, 27, 28, 29, 30, 31]) (by decide)) scrN h'' ((h1.2.fr hF (by decide) (by decide)).cg hs.keep.2.1 (fun i hi => qset_ne (by omega)))⟩
  · have c0 : nd_needWithin x1 (1 : Int32) (99 : Int32) = some eIA := by rw [k0, if_neg g0]
    rw [show aHours κ x1 = ((1, 0), κ) by unfold aHours; rw [if_neg g0]]
    exact Cal.of rfl (by decide +kernel) (by simp) (Nat.le_of_ble_eq_true rfl) rfl (sX11_hours_0 (P1 := fun _ _ => True) hl0 w (by decide) (ndn c0 (fun n' hn => ⟨rfl, CI.thr hC0 hn⟩)) (fun g => ndx c0 g) (fun g => ndx c0 g))
theorem undo_p {x1 : Int32} (hl0 : l.stackTraces = false) (hC : CI (I, J, R, S, nx) (κ, ι, (τ, tm, tn), (t, tp), fk, fp)) (hs : sok hb pb κ) (hhb : hb < 2 ^ 28) : Cal l G (k + 2) 40 14000 mX11_undo [.ref 0, .int x1] (I, J, R, S, nx) (CQ (I, J, R, S, nx) (ansR [eIA] ((aUndo κ x1).1)) ((aUndo κ x1).2, ι, (τ, tm, tn), (t, tp), fk, fp)) := by
  have hC0 := hC
  obtain ⟨ow, L, dl, pl, ld, lp, hR, wL, hL, hN, hV, hP⟩ := hC
  have hR : CR I J R S nx ow ι τ tm tn t tp fk fp := hR
  have wL : R 14 0 = some L := wL
  have hL : LdC I R S nx ow L κ dl pl ld lp := hL
  have hN : CN I κ := hN
  have hV : PV I κ := hV
  have hP : PS I 30 31 κ := hP
  have w : CF R S nx := hR.1
  have wl : LW R S nx L dl pl ld lp := hL.1
  have h : CK I κ L dl pl ld lp := ⟨hN, hL.2.1, hV⟩
  have ho := hs.q
  have h1w : κ 1 ≤ 5 := ho.1
  have h2a : κ 2 ≤ 8 := ho.2.1
  have h54 : κ 54 ≤ hb := ho.2.2.2.2.2.2.2.2.2.2.1
  have e1 : I L 1 = nI (κ 1) := h.2.1.1.2.1
  have e2 : I L 2 = nI (κ 2) := h.2.1.1.2.2.1
  have h5 : κ 5 ≤ 10 := hs.2.1
  have k0 : nd_needWithin x1 (1 : Int32) (I 30 2) = (if gR x1 1 (κ 5) then none else some eIA) := (by obtain ⟨s, q1, q2, q3, q4⟩ := hP; rw [q3]; exact ndI (a := 1) (by decide) (by omega))
  by_cases g0 : gR x1 1 (κ 5)
  · have c0 : nd_needWithin x1 (1 : Int32) (I 30 2) = none := by rw [k0, if_pos g0]
    rw [show aUndo κ x1 = ((0, nI (κ 5 - cN x1)), qundo κ (cN x1)) by unfold aUndo; rw [if_pos g0]]
    refine Cal.of rfl (by decide +kernel) (by simp) (Nat.le_of_ble_eq_true rfl) rfl (sX11_undo_0 (P1 := fun I I' => Fr [25, 30] I I' ∧ PS I' 30 31 (qundo κ (cN x1)) ∧ CN I' (qundo κ (cN x1))) (P2 := fun I I' => Fr [29] I I' ∧ ∀ κ', PV I' κ') hl0 w (by decide) (ndy c0) (fun _ => ?_) (fun _ => ?_) (fun _ => ?_))
    · obtain ⟨n, rfl, hn1, hn, en⟩ := g0.n (by omega)
      rw [en]
      exact goBack_c w hP h5 ⟨hn1, hn⟩
    · intro I1 h1
      exact forget_c w
    · intro I1 h1 I2 h2
      obtain ⟨n, rfl, hn1, hn, en⟩ := g0.n (by omega)
      rw [en] at h1 ⊢
      have hF : Fr [25, 29, 30] I I2 := h1.1.tr h2.1 (by decide)
      have hF' : Fr [25, 27, 28, 29, 30, 31] I I2 := hF.wk (by decide)
      have hP2 := h1.2.1.fr h2.1 (by decide) (by decide)
      have ev : ∀ i, i ≠ 5 → (i < 7 ∨ 56 ≤ i) → qundo κ n i = κ i := fun i a b => by unfold qundo; rw [if_neg a, if_neg (by omega)]
      refine ⟨?_, CI.step hR wL hL hF' scrN ⟨h1.2.2.fr h2.1 (by decide), (hL.2.1.fr wl hF (by decide)).cg h2a (fun i hi => ev i (by omega) (by omega)), h2.2 _⟩ hP2⟩
      obtain ⟨s, q1, q2, q3, q4⟩ := hP2
      rw [q3]
      exact ok0 (by unfold qundo; rw [if_pos rfl])
  · have c0 : nd_needWithin x1 (1 : Int32) (I 30 2) = some eIA := by rw [k0, if_neg g0]
    rw [show aUndo κ x1 = ((1, 0), κ) by unfold aUndo; rw [if_neg g0]]
    exact Cal.of rfl (by decide +kernel) (by simp) (Nat.le_of_ble_eq_true rfl) rfl (sX11_undo_0 (P1 := fun _ _ => True) (P2 := fun _ _ => True) hl0 w (by decide) (ndn c0 (fun n' hn => ⟨rfl, CI.thr hC0 hn⟩)) (fun g => ndx c0 g) (fun g => ndx c0 g) (fun g => ndx c0 g))
theorem done_p {x1 : Int32} {x2 : Int32} {x3 : Int32} (hl0 : l.stackTraces = false) (hC : CI (I, J, R, S, nx) (κ, ι, (τ, tm, tn), (t, tp), fk, fp)) (hs : sok hb pb κ) (hhb : hb < 2 ^ 28) : Cal l G (k + 5) 40 14000 mX11_done [.ref 0, .int x1, .int x2, .int x3] (I, J, R, S, nx) (CQ (I, J, R, S, nx) (ansR [eNS, eIA] ((aDone κ x1 x2 x3).1)) ((aDone κ x1 x2 x3).2, ι, (τ, tm, tn), (t, tp), fk, fp)) := by
  have hC0 := hC
  obtain ⟨ow, L, dl, pl, ld, lp, hR, wL, hL, hN, hV, hP⟩ := hC
  have hR : CR I J R S nx ow ι τ tm tn t tp fk fp := hR
  have wL : R 14 0 = some L := wL
  have hL : LdC I R S nx ow L κ dl pl ld lp := hL
  have hN : CN I κ := hN
  have hV : PV I κ := hV
  have hP : PS I 30 31 κ := hP
  have w : CF R S nx := hR.1
  have wl : LW R S nx L dl pl ld lp := hL.1
  have h : CK I κ L dl pl ld lp := ⟨hN, hL.2.1, hV⟩
  have ho := hs.q
  have h1w : κ 1 ≤ 5 := ho.1
  have h2a : κ 2 ≤ 8 := ho.2.1
  have h54 : κ 54 ≤ hb := ho.2.2.2.2.2.2.2.2.2.2.1
  have e1 : I L 1 = nI (κ 1) := h.2.1.1.2.1
  have e2 : I L 2 = nI (κ 2) := h.2.1.1.2.2.1
  have h5 : κ 5 ≤ 10 := hs.2.1
  have e54 : qkeep κ 54 = κ 54 := qkeep_low (by decide) (by decide)
  have k0 : nd_needDeed (I L 1) x1 x2 x3 = (if gL x2 (κ 1) then (if gR x1 0 9 ∧ gR x3 1 24 then none else some eIA) else some eNS) := (by rw [e1]; exact ndD (by omega))
  by_cases g0 : gL x2 (κ 1)
  · by_cases g1 : gR x1 0 9 ∧ gR x3 1 24
    · have c0 : nd_needDeed (I L 1) x1 x2 x3 = none := by rw [k0, if_pos g0, if_pos g1]
      rw [show aDone κ x1 x2 x3 = ((0, nI (qcost (qkeep κ) (cN x1) (cN x2) (κ 54) (cN x3))), kDone κ x1 x2 x3) by unfold aDone; rw [gD_0 g0 ⟨g1.1, by decide, g1.2⟩]; rfl]
      refine Cal.of rfl (by decide +kernel) (by simp) (Nat.le_of_ble_eq_true rfl) rfl (sX11_done_0 (u2 := nI (qcost (qkeep κ) (cN x1) (cN x2) (κ 54) (cN x3))) (P1 := fun I I' => Fr [30, 31] I I' ∧ PS I' 30 31 (qkeep κ)) (P2 := fun I I' => Fr [25, 27, 28, 29] I I' ∧ CK I' (qdeed (qkeep κ) (cN x1) (cN x2) (cN x3)) L dl pl ld lp) hl0 w wL wl (by decide) (ndy c0) (fun _ => ?_) (fun _ => ?_) (fun _ => ?_))
      · exact keep_c w hN hP h5
      · intro I1 h1
        obtain ⟨a, rfl, _, ha, ea⟩ := g1.1.n (by omega)
        obtain ⟨b, rfl, hb2, eb⟩ := g0.n (by omega)
        obtain ⟨d, rfl, hd1, hd, ed⟩ := g1.2.n (by omega)
        rw [ea, eb, ed]
        have := doDeed_c (l := l) (G := G) (k := k) (J := J) w wL wl (keep_ck h wl h2a h5 h1.1) hs.keep.q (by omega) (kd := a) (wn := b) (ls := d) (by omega) (by omega) ⟨hd1, hd⟩
        rw [e54] at this
        exact this
      · intro I1 h1 I2 h2
        have hF : Fr [25, 27, 28, 29, 30, 31] I I2 := h1.1.tr h2.1 (by decide)
        exact ⟨rfl, CI.step hR wL hL hF scrN h2.2 ((h1.2.fr h2.1 (by decide) (by decide)).cg hs.keep.2.1 (fun i hi => by show qdeed (qkeep κ) (cN x1) (cN x2) (cN x3) i = qkeep κ i; unfold qdeed; rw [qset_ne (by omega), qset_ne (by omega)]))⟩
    · have c0 : nd_needDeed (I L 1) x1 x2 x3 = some eIA := by rw [k0, if_pos g0, if_neg g1]
      rw [show aDone κ x1 x2 x3 = ((2, 0), κ) by unfold aDone; rw [gD_2 g0 (fun g => g1 ⟨g.1, g.2.2⟩)]; rfl]
      exact Cal.of rfl (by decide +kernel) (by simp) (Nat.le_of_ble_eq_true rfl) rfl (sX11_done_0 (u2 := 0) (P1 := fun _ _ => True) (P2 := fun _ _ => True) hl0 w wL wl (by decide) (ndn c0 (fun n' hn => ⟨rfl, CI.thr hC0 hn⟩)) (fun g => ndx c0 g) (fun g => ndx c0 g) (fun g => ndx c0 g))
  · have c0 : nd_needDeed (I L 1) x1 x2 x3 = some eNS := by rw [k0, if_neg g0]
    rw [show aDone κ x1 x2 x3 = ((1, 0), κ) by unfold aDone; rw [gD_1 g0]; rfl]
    exact Cal.of rfl (by decide +kernel) (by simp) (Nat.le_of_ble_eq_true rfl) rfl (sX11_done_0 (u2 := 0) (P1 := fun _ _ => True) (P2 := fun _ _ => True) hl0 w wL wl (by decide) (ndn c0 (fun n' hn => ⟨rfl, CI.thr hC0 hn⟩)) (fun g => ndx c0 g) (fun g => ndx c0 g) (fun g => ndx c0 g))
theorem layOn_p {x1 : Int32} {x2 : Int32} {x3 : Int32} {x4 : Int32} {what : Nat} (hx1 : x1 = nI (3 + what)) (hwh : what = 0 ∨ what = 15) (hl0 : l.stackTraces = false) (hC : CI (I, J, R, S, nx) (κ, ι, (τ, tm, tn), (t, tp), fk, fp)) (hs : sok hb pb κ) (hhb : hb < 2 ^ 28) : Cal l G (k + 3) 40 14000 mX11_layOn [.ref 0, .int x1, .int x2, .int x3, .int x4] (I, J, R, S, nx) (CQ (I, J, R, S, nx) (ansR [eNS, eIA] ((aLay κ (7 + what) x2 x3 x4).1)) ((aLay κ (7 + what) x2 x3 x4).2, ι, (τ, tm, tn), (t, tp), fk, fp)) := by
  have hC0 := hC
  obtain ⟨ow, L, dl, pl, ld, lp, hR, wL, hL, hN, hV, hP⟩ := hC
  have hR : CR I J R S nx ow ι τ tm tn t tp fk fp := hR
  have wL : R 14 0 = some L := wL
  have hL : LdC I R S nx ow L κ dl pl ld lp := hL
  have hN : CN I κ := hN
  have hV : PV I κ := hV
  have hP : PS I 30 31 κ := hP
  have w : CF R S nx := hR.1
  have wl : LW R S nx L dl pl ld lp := hL.1
  have h : CK I κ L dl pl ld lp := ⟨hN, hL.2.1, hV⟩
  have ho := hs.q
  have h1w : κ 1 ≤ 5 := ho.1
  have h2a : κ 2 ≤ 8 := ho.2.1
  have h54 : κ 54 ≤ hb := ho.2.2.2.2.2.2.2.2.2.2.1
  have e1 : I L 1 = nI (κ 1) := h.2.1.1.2.1
  have e2 : I L 2 = nI (κ 2) := h.2.1.1.2.2.1
  have h5 : κ 5 ≤ 10 := hs.2.1
  have e54 : qkeep κ 54 = κ 54 := qkeep_low (by decide) (by decide)
  have k0 : nd_needWard (I L 1) x2 = (if gL x2 (κ 1) then none else some eNS) := (by rw [e1]; exact ndW (by omega))
  have k1 : nd_needWithin x3 (0 : Int32) (60 : Int32) = (if gR x3 0 60 then none else some eIA) := (ndI (a := 0) (b := 60) (by decide) (by decide))
  have k2 : nd_needWithin x4 (1 : Int32) (99 : Int32) = (if gR x4 1 99 then none else some eIA) := (ndI (a := 1) (b := 99) (by decide) (by decide))
  by_cases g0 : gL x2 (κ 1)
  · by_cases g1 : gR x3 0 60
    · by_cases g2 : gR x4 1 99
      · have c0 : nd_needWard (I L 1) x2 = none := by rw [k0, if_pos g0]
        have c1 : nd_needWithin x3 (0 : Int32) (60 : Int32) = none := by rw [k1, if_pos g1]
        have c2 : nd_needWithin x4 (1 : Int32) (99 : Int32) = none := by rw [k2, if_pos g2]
        rw [show aLay κ (7 + what) x2 x3 x4 = ((0, nI (qdeg (qlay (qkeep κ) (7 + what) (cN x2) (cN x3) (cN x4)) (cN x2) (κ 54))), kLay κ (7 + what) x2 x3 x4) by unfold aLay; rw [if_pos g0, if_pos ⟨g1, g2⟩]; rfl]
        refine Cal.of rfl (by decide +kernel) (by simp) (Nat.le_of_ble_eq_true rfl) rfl (sX11_layOn_0 (u3 := nI (qdeg (qlay (qkeep κ) (7 + what) (cN x2) (cN x3) (cN x4)) (cN x2) (κ 54))) (P1 := fun I I' => Fr [30, 31] I I' ∧ PS I' 30 31 (qkeep κ)) (P2 := fun I I' => Fr [25] I I' ∧ CK I' (qlay (qkeep κ) (7 + what) (cN x2) (cN x3) (cN x4)) L dl pl ld lp) (P3 := fun I I' => Fr [27, 28] I I' ∧ CK I' (qlay (qkeep κ) (7 + what) (cN x2) (cN x3) (cN x4)) L dl pl ld lp) hl0 w wL wl (by decide) (ndy c0) (by decide) (fun _ => ndy c1) (by decide) (fun _ _ => ndy c2) (fun _ _ _ => ?_) (fun _ _ _ => ?_) (fun _ _ _ => ?_) (fun _ _ _ => ?_))
        · exact keep_c w hN hP h5
        · intro I1 h1
          obtain ⟨b, rfl, hb2, eb⟩ := g0.n (by omega)
          obtain ⟨c, rfl, _, hc, ec⟩ := g1.n (by omega)
          obtain ⟨d, rfl, hd1, hd, ed⟩ := g2.n (by omega)
          rw [eb, ec, ed, hx1]
          exact layOn_c w wL wl (keep_ck h wl h2a h5 h1.1) hs.keep.q (by omega) (by omega) hwh (by omega)
        · intro I1 h1 I2 h2
          obtain ⟨b, rfl, hb2, eb⟩ := g0.n (by omega)
          obtain ⟨c, rfl, _, hc, ec⟩ := g1.n (by omega)
          obtain ⟨d, rfl, hd1, hd, ed⟩ := g2.n (by omega)
          rw [eb, ec, ed] at h2 ⊢
          have e54' : qlay (qkeep κ) (7 + what) b c d 54 = κ 54 := by unfold qlay; rw [qset_ne (by omega), qset_ne (by omega), qset_ne (by omega), e54]
          rw [h2.2.1.h.1, e54']
          exact degreeIn_c w wL wl h2.2 (hs.keep.lay (by omega) (by omega) (by omega) (by omega)).q (by omega) (by omega) (by omega)
        · intro I1 h1 I2 h2 I3 h3
          obtain ⟨b, rfl, hb2, eb⟩ := g0.n (by omega)
          obtain ⟨c, rfl, _, hc, ec⟩ := g1.n (by omega)
          obtain ⟨d, rfl, hd1, hd, ed⟩ := g2.n (by omega)
          rw [eb, ec, ed] at h2 h3 ⊢
          have hF : Fr [25, 27, 28, 29, 30, 31] I I3 := (h1.1.tr h2.1 (r3 := [25, 30, 31]) (by decide)).tr h3.1 (by decide)
          have hP3 := (h1.2.fr h2.1 (by decide) (by decide)).fr h3.1 (by decide) (by decide)
          unfold kLay
          rw [eb, ec, ed]
          exact ⟨rfl, CI.step hR wL hL hF scrN h3.2 (hP3.cg hs.keep.2.1 (fun i hi => by show qlay (qkeep κ) (7 + what) b c d i = qkeep κ i; unfold qlay; rw [qset_ne (by omega), qset_ne (by omega), qset_ne (by omega)]))⟩
      · have c0 : nd_needWard (I L 1) x2 = none := by rw [k0, if_pos g0]
        have c1 : nd_needWithin x3 (0 : Int32) (60 : Int32) = none := by rw [k1, if_pos g1]
        have c2 : nd_needWithin x4 (1 : Int32) (99 : Int32) = some eIA := by rw [k2, if_neg g2]
        rw [show aLay κ (7 + what) x2 x3 x4 = ((2, 0), κ) by unfold aLay; rw [if_pos g0, if_neg (fun g => g2 g.2)]]
        exact Cal.of rfl (by decide +kernel) (by simp) (Nat.le_of_ble_eq_true rfl) rfl (sX11_layOn_0 (u3 := 0) (P1 := fun _ _ => True) (P2 := fun _ _ => True) (P3 := fun _ _ => True) hl0 w wL wl (by decide) (ndy c0) (by decide) (fun _ => ndy c1) (by decide) (fun _ _ => ndn c2 (fun n' hn => ⟨rfl, CI.thr hC0 hn⟩)) (fun _ _ g => ndx c2 g) (fun _ _ g => ndx c2 g) (fun _ _ g => ndx c2 g) (fun _ _ g => ndx c2 g))
    · have c0 : nd_needWard (I L 1) x2 = none := by rw [k0, if_pos g0]
      have c1 : nd_needWithin x3 (0 : Int32) (60 : Int32) = some eIA := by rw [k1, if_neg g1]
      rw [show aLay κ (7 + what) x2 x3 x4 = ((2, 0), κ) by unfold aLay; rw [if_pos g0, if_neg (fun g => g1 g.1)]]
      exact Cal.of rfl (by decide +kernel) (by simp) (Nat.le_of_ble_eq_true rfl) rfl (sX11_layOn_0 (u3 := 0) (P1 := fun _ _ => True) (P2 := fun _ _ => True) (P3 := fun _ _ => True) hl0 w wL wl (by decide) (ndy c0) (by decide) (fun _ => ndn c1 (fun n' hn => ⟨rfl, CI.thr hC0 hn⟩)) (by decide) (fun _ g => ndx c1 g) (fun _ g => ndx c1 g) (fun _ g => ndx c1 g) (fun _ g => ndx c1 g) (fun _ g => ndx c1 g))
  · have c0 : nd_needWard (I L 1) x2 = some eNS := by rw [k0, if_neg g0]
    rw [show aLay κ (7 + what) x2 x3 x4 = ((1, 0), κ) by unfold aLay; rw [if_neg g0]]
    exact Cal.of rfl (by decide +kernel) (by simp) (Nat.le_of_ble_eq_true rfl) rfl (sX11_layOn_0 (u3 := 0) (P1 := fun _ _ => True) (P2 := fun _ _ => True) (P3 := fun _ _ => True) hl0 w wL wl (by decide) (ndn c0 (fun n' hn => ⟨rfl, CI.thr hC0 hn⟩)) (by decide) (fun g => ndx c0 g) (by decide) (fun g => ndx c0 g) (fun g => ndx c0 g) (fun g => ndx c0 g) (fun g => ndx c0 g) (fun g => ndx c0 g))
theorem fire_p {x1 x2 x3 : Int32} (hl0 : l.stackTraces = false) (hC : CI (I, J, R, S, nx) (κ, ι, (τ, tm, tn), (t, tp), fk, fp)) (hs : sok hb pb κ) (hhb : hb < 2 ^ 28) : Cal l G (k + 4) 40 14000 mX11_fire [.ref 0, .int x1, .int x2, .int x3] (I, J, R, S, nx) (CQ (I, J, R, S, nx) (ansR [eNS, eIA] (aLay κ 7 x1 x2 x3).1) ((aLay κ 7 x1 x2 x3).2, ι, (τ, tm, tn), (t, tp), fk, fp)) := by
  have w : CF R S nx := by obtain ⟨ow, L, dl, pl, ld, lp, hR, _⟩ := hC; exact hR.1
  refine Cal.of rfl (by decide +kernel) (by simp) (Nat.le_of_ble_eq_true rfl) rfl (sX11_fire_0 w ⟨Nat.le_refl 40, Nat.le_refl 14000⟩ (layOn_p (x1 := 3) (what := 0) rfl (Or.inl rfl) hl0 hC hs hhb) ?_ (fun E μ' g => g))
  intro r μ' g
  obtain ⟨I2, J2, R2, S2, n2⟩ := μ'
  obtain ⟨g1, g2⟩ := g
  have hr : ∃ v, r = some (.int v) := by
    unfold ansR at g1
    split at g1
    · exact ⟨_, Sum.inl.inj g1⟩
    · cases g1
  obtain ⟨v, rfl⟩ := hr
  exact sX11_fire_8 ⟨g1, g2⟩
theorem ice_p {x1 x2 x3 : Int32} (hl0 : l.stackTraces = false) (hC : CI (I, J, R, S, nx) (κ, ι, (τ, tm, tn), (t, tp), fk, fp)) (hs : sok hb pb κ) (hhb : hb < 2 ^ 28) : Cal l G (k + 4) 40 14000 mX11_ice [.ref 0, .int x1, .int x2, .int x3] (I, J, R, S, nx) (CQ (I, J, R, S, nx) (ansR [eNS, eIA] (aLay κ 22 x1 x2 x3).1) ((aLay κ 22 x1 x2 x3).2, ι, (τ, tm, tn), (t, tp), fk, fp)) := by
  have w : CF R S nx := by obtain ⟨ow, L, dl, pl, ld, lp, hR, _⟩ := hC; exact hR.1
  refine Cal.of rfl (by decide +kernel) (by simp) (Nat.le_of_ble_eq_true rfl) rfl (sX11_ice_0 w ⟨Nat.le_refl 40, Nat.le_refl 14000⟩ (layOn_p (x1 := 18) (what := 15) rfl (Or.inr rfl) hl0 hC hs hhb) ?_ (fun E μ' g => g))
  intro r μ' g
  obtain ⟨I2, J2, R2, S2, n2⟩ := μ'
  obtain ⟨g1, g2⟩ := g
  have hr : ∃ v, r = some (.int v) := by
    unfold ansR at g1
    split at g1
    · exact ⟨_, Sum.inl.inj g1⟩
    · cases g1
  obtain ⟨v, rfl⟩ := hr
  exact sX11_ice_9 ⟨g1, g2⟩
end A
