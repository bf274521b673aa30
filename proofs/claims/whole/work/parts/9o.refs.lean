/-! the reference's calls, with its whole state -/
def RQ (I : Nat → Nat → Int32) (J : Nat → Nat → Int64) (R : Nat → Nat → Option Nat) (S : Nat → Nat × Nat) (nx : Nat) (v : Option Value) (n : Nat) (st : St) : Res → Mem → Prop := fun r μ' => r = .inl v ∧ ∃ I' J', μ' = (I', J', R, S, nx) ∧ RW I J I' J' ∧ I' 43 4 = nI n ∧ RS I' J' R S nx st.1 st.2.1 st.2.2.1.1 st.2.2.1.2.1 st.2.2.1.2.2 st.2.2.2.1.1 st.2.2.2.1.2 st.2.2.2.2.1 st.2.2.2.2.2
section A
variable {l : Launch} {G : Gh} {k : Nat} {I : Nat → Nat → Int32} {J : Nat → Nat → Int64} {R : Nat → Nat → Option Nat} {S : Nat → Nat × Nat} {nx : Nat} {κ : Nat → Nat} {hb pb : Nat}
variable {I' : Nat → Nat → Int32} {J' : Nat → Nat → Int64} {κ' : Nat → Nat} {ι ι' : Nat → Option (Nat → Nat)} {τ tm τ' tm' : Nat → Nat} {tn tn' : Nat → Nat → Int64} {tp tp' : Nat} {fk fp fk' fp' : Int32} {t t' : Nat → Nat} {n : Nat}
theorem Im.cg (h : Im I ι) (e6 : I' 46 = I 46) (e7 : I' 47 = I 47) : Im I' ι := by unfold Im; rw [e6, e7]; exact h
theorem Tp.cg (h : Tp I t tp) (e6 : I' 43 6 = I 43 6) (e8 : I' 48 = I 48) : Tp I' t tp := by unfold Tp; rw [e6, e8]; exact h
theorem Tk.cg (h : Tk I J τ tm tn) (e8 : I' 68 = I 68) (e9 : I' 69 = I 69) (ej : J' 70 = J 70) : Tk I' J' τ tm tn := by unfold Tk; rw [e8, e9, ej]; exact h
theorem RS.pu (h : RS I J R S nx κ ι τ tm tn t tp fk fp) (g : PU n κ' I I') (hj : ∀ a, a ≠ 62 → a ≠ 63 → J' a = J a) : RW I J I' J' ∧ I' 43 4 = nI n ∧ RS I' J' R S nx κ' ι τ tm tn t tp fk fp := by
  obtain ⟨h1, h2, h3, h4, h5, h6, h7⟩ := h
  obtain ⟨g1, g2, g3⟩ := g
  have e : ∀ a, a ∉ scr → a ≠ 44 → a ≠ 43 → I' a = I a := fun a x y z => g1.1 a x (by simpa using y) z
  exact ⟨(g1.rw (J := J) (by decide)).j (fun a ha => hj a (by omega) (by omega)), g2, h1, g3, h3.cg (e 68 (by decide) (by decide) (by decide)) (e 69 (by decide) (by decide) (by decide)) (hj 70 (by decide) (by decide)), h4.cg (e 46 (by decide) (by decide) (by decide)) (e 47 (by decide) (by decide) (by decide)), h5.cg (g1.2 6 (by decide)) (e 48 (by decide) (by decide) (by decide)), (g1.2 14 (by decide)).trans h6, (g1.2 15 (by decide)).trans h7⟩
theorem RS.tu (h : RS I J R S nx κ ι τ tm tn t tp fk fp) (g : TU n I I') (hj : UT J J') (hT : Tk I' J' τ' tm' tn') : RW I J I' J' ∧ I' 43 4 = nI n ∧ RS I' J' R S nx κ ι τ' tm' tn' t tp fk fp := by
  obtain ⟨h1, h2, h3, h4, h5, h6, h7⟩ := h
  obtain ⟨g1, g2, g3⟩ := g
  have e : ∀ a, a ∉ scr → a ∉ [68, 69] → a ≠ 43 → I' a = I a := fun a x y z => g1.1 a x y z
  refine ⟨(g1.rw (J := J) (by decide)).j (fun a ha => hj a (by omega)), g2, h1, ?_, hT, h4.cg (e 46 (by decide) (by decide) (by decide)) (e 47 (by decide) (by decide) (by decide)), h5.cg (g1.2 6 (by decide)) (e 48 (by decide) (by decide) (by decide)), (g1.2 14 (by decide)).trans h6, (g1.2 15 (by decide)).trans h7⟩
  intro i hi; rw [g3]; exact h2 i hi
theorem RS.iu (h : RS I J R S nx κ ι τ tm tn t tp fk fp) (g : IU n I I') (hI : Im I' ι') : RW I J I' J ∧ I' 43 4 = nI n ∧ RS I' J R S nx κ ι' τ tm tn t tp fk fp := by
  obtain ⟨h1, h2, h3, h4, h5, h6, h7⟩ := h
  obtain ⟨g1, g2⟩ := g
  have e : ∀ a, a ∉ scr → a ∉ [46, 47] → a ≠ 43 → I' a = I a := fun a x y z => g1.1 a x y z
  refine ⟨g1.rw (by decide), g2, h1, ?_, h3.cg (e 68 (by decide) (by decide) (by decide)) (e 69 (by decide) (by decide) (by decide)) rfl, hI, h5.cg (g1.2 6 (by decide)) (e 48 (by decide) (by decide) (by decide)), (g1.2 14 (by decide)).trans h6, (g1.2 15 (by decide)).trans h7⟩
  intro i hi; rw [e 44 (by decide) (by decide) (by decide)]; exact h2 i hi
theorem R_feed {x1 x2 x3 x4 x5 : Int32} (hG : GT G) (hR : RS I J R S nx κ ι τ tm tn t tp fk fp) (hs : sok hb pb κ) (hhb : hb < 2 ^ 28) : Cal l G (k + 105) 0 0 mX12_feed [.ref 43, .int x1, .int x2, .int x3, .int x4, .int x5] (I, J, R, S, nx) (RQ I J R S nx (some (.int (aFeed t tp x1 x2 x3 x4 x5).1)) 0 (κ, ι, (τ, tm, tn), ((aFeed t tp x1 x2 x3 x4 x5).2.1, (aFeed t tp x1 x2 x3 x4 x5).2.2), fk, fp)) := by
  refine (feed_r hR.1.1 hR.2.2.2.2.1).mono (fun r μ' hq => ?_)
  obtain ⟨q1, I1, rfl, q2, q3, q4⟩ := hq
  obtain ⟨h1, h2, h3, h4, h5, h6, h7⟩ := hR
  have e : ∀ a, a ≠ 43 → a ∉ [48] → I1 a = I a := fun a x y => q2.1 a x y
  refine ⟨q1, I1, J, rfl, q2.rw (by decide), q3, h1, ?_, h3.cg (e 68 (by decide) (by decide)) (e 69 (by decide) (by decide)) rfl, h4.cg (e 46 (by decide) (by decide)) (e 47 (by decide) (by decide)), q4, (q2.2 14 (by decide)).trans h6, (q2.2 15 (by decide)).trans h7⟩
  intro i hi; rw [e 44 (by decide) (by decide)]; exact h2 i hi
theorem R_land {x1 : Int32} (hG : GT G) (hR : RS I J R S nx κ ι τ tm tn t tp fk fp) (hs : sok hb pb κ) (hhb : hb < 2 ^ 28) : Cal l G (k + 105) 0 0 mX12_land [.ref 43, .int x1] (I, J, R, S, nx) (RQ I J R S nx (some (.int (aLand κ t tp fk fp x1).1.2)) (aLand κ t tp fk fp x1).1.1 ((aLand κ t tp fk fp x1).2.1, ι, (τ, tm, tn), (t, (aLand κ t tp fk fp x1).2.2.1), (aLand κ t tp fk fp x1).2.2.2.1, (aLand κ t tp fk fp x1).2.2.2.2)) := by
  have hq0 := land_r (l := l) (k := k + 1) (J := J) (x := x1) hR.1.1 hG hR.2.1 hR.2.2.2.2.1
  rw [hR.2.2.2.2.2.1, hR.2.2.2.2.2.2] at hq0
  refine hq0.mono (fun r μ' hq => ?_)
  obtain ⟨q1, I1, rfl, q2, q3, q4, q5, q6, q7⟩ := hq
  obtain ⟨h1, h2, h3, h4, h5, h6, h7⟩ := hR
  have e : ∀ a, a ≠ 43 → a ∉ [44, 45] → I1 a = I a := fun a x y => q2.1 a x y
  exact ⟨q1, I1, J, rfl, q2.rw (by decide), q3, h1, q4, h3.cg (e 68 (by decide) (by decide)) (e 69 (by decide) (by decide)) rfl, h4.cg (e 46 (by decide) (by decide)) (e 47 (by decide) (by decide)), q5, q6, q7⟩
theorem R_fault {x1 : Int32} (hG : GT G) (hR : RS I J R S nx κ ι τ tm tn t tp fk fp) (hs : sok hb pb κ) (hhb : hb < 2 ^ 28) : Cal l G (k + 105) 0 0 mX12_fault [.ref 43, .int x1] (I, J, R, S, nx) (RQ I J R S nx (some (.int (aFault fk fp x1))) 0 (κ, ι, (τ, tm, tn), (t, tp), fk, fp)) := by
  refine (fault_r (x := x1) hR.1.1 hR.2.1).mono (fun r μ' hq => ?_)
  obtain ⟨q1, I1, rfl, q2⟩ := hq
  rw [hR.2.2.2.2.2.1, hR.2.2.2.2.2.2] at q1
  exact ⟨q1, I1, J, rfl, hR.pu q2 (fun _ _ _ => rfl)⟩
theorem R_count {x1 : Int32} (hG : GT G) (hR : RS I J R S nx κ ι τ tm tn t tp fk fp) (hs : sok hb pb κ) (hhb : hb < 2 ^ 28) : Cal l G (k + 105) 0 0 mX12_count [.ref 43, .int x1] (I, J, R, S, nx) (RQ I J R S nx (some (.int (aCount κ (nI tp) x1))) 0 (κ, ι, (τ, tm, tn), (t, tp), fk, fp)) := by
  refine (count_r (k := k + 103) (x := x1) hR.1.1 hR.2.1 hs.q (by omega)).mono (fun r μ' hq => ?_)
  obtain ⟨q1, I1, rfl, q2⟩ := hq
  rw [hR.2.2.2.2.1.1] at q1
  exact ⟨q1, I1, J, rfl, hR.pu q2 (fun _ _ _ => rfl)⟩
theorem R_ward {x1 : Int32} {x2 : Int32} (hG : GT G) (hR : RS I J R S nx κ ι τ tm tn t tp fk fp) (hs : sok hb pb κ) (hhb : hb < 2 ^ 28) : Cal l G (k + 105) 0 0 mX12_ward [.ref 43, .int x1, .int x2] (I, J, R, S, nx) (RQ I J R S nx (some (.int (aWard κ x1 x2).2)) (aWard κ x1 x2).1 (κ, ι, (τ, tm, tn), (t, tp), fk, fp)) := by
  refine (ward_r (k := k + 103) (x := x1) (y := x2) hR.1.1 hR.2.1 hs.q (by omega)).mono (fun r μ' hq => ?_)
  obtain ⟨q1, I1, rfl, q2⟩ := hq
  exact ⟨q1, I1, J, rfl, hR.pu q2 (fun _ _ _ => rfl)⟩
theorem R_act {x1 : Int32} {x2 : Int32} (hG : GT G) (hR : RS I J R S nx κ ι τ tm tn t tp fk fp) (hs : sok hb pb κ) (hhb : hb < 2 ^ 28) : Cal l G (k + 105) 0 0 mX12_act [.ref 43, .int x1, .int x2] (I, J, R, S, nx) (RQ I J R S nx (some (.int (aAct κ x1 x2).2)) (aAct κ x1 x2).1 (κ, ι, (τ, tm, tn), (t, tp), fk, fp)) := by
  refine (act_r (k := k + 103) (x := x1) (y := x2) hR.1.1 hR.2.1 hs.q (by omega)).mono (fun r μ' hq => ?_)
  obtain ⟨q1, I1, rfl, q2⟩ := hq
  exact ⟨q1, I1, J, rfl, hR.pu q2 (fun _ _ _ => rfl)⟩
theorem R_degree {x1 : Int32} {x2 : Int32} (hG : GT G) (hR : RS I J R S nx κ ι τ tm tn t tp fk fp) (hs : sok hb pb κ) (hhb : hb < 2 ^ 28) : Cal l G (k + 105) 0 0 mX12_degree [.ref 43, .int x1, .int x2] (I, J, R, S, nx) (RQ I J R S nx (some (.int (aDegree κ x1 x2).2)) (aDegree κ x1 x2).1 (κ, ι, (τ, tm, tn), (t, tp), fk, fp)) := by
  refine (degree_r (k := k + 101) (x := x1) (y := x2) hR.1.1 hR.2.1 hs.q (by omega)).mono (fun r μ' hq => ?_)
  obtain ⟨q1, I1, rfl, q2⟩ := hq
  exact ⟨q1, I1, J, rfl, hR.pu q2 (fun _ _ _ => rfl)⟩
theorem R_code {x1 : Int32} {x2 : Int32} (hG : GT G) (hR : RS I J R S nx κ ι τ tm tn t tp fk fp) (hs : sok hb pb κ) (hhb : hb < 2 ^ 28) : Cal l G (k + 105) 0 0 mX12_code [.ref 43, .int x1, .int x2] (I, J, R, S, nx) (RQ I J R S nx (some (.int (aCode κ x1 x2).2)) (aCode κ x1 x2).1 (κ, ι, (τ, tm, tn), (t, tp), fk, fp)) := by
  refine (code_r (k := k + 99) (x := x1) (y := x2) hR.1.1 hR.2.1 hs.q (by omega)).mono (fun r μ' hq => ?_)
  obtain ⟨q1, I1, rfl, q2⟩ := hq
  exact ⟨q1, I1, J, rfl, hR.pu q2 (fun _ _ _ => rfl)⟩
theorem R_fine {x1 : Int32} {x2 : Int32} {x3 : Int32} {x4 : Int32} (hG : GT G) (hR : RS I J R S nx κ ι τ tm tn t tp fk fp) (hs : sok hb pb κ) (hhb : hb < 2 ^ 28) : Cal l G (k + 105) 0 0 mX12_fine [.ref 43, .int x1, .int x2, .int x3, .int x4] (I, J, R, S, nx) (RQ I J R S nx (some (.int (aFine κ x1 x2 x3 x4).2)) (aFine κ x1 x2 x3 x4).1 (κ, ι, (τ, tm, tn), (t, tp), fk, fp)) := by
  refine (fine_r (k := k + 98) (x1 := x1) (x2 := x2) (x3 := x3) (x4 := x4) hR.1.1 hR.2.1 hs.q (by omega)).mono (fun r μ' hq => ?_)
  obtain ⟨q1, I1, rfl, q2⟩ := hq
  exact ⟨q1, I1, J, rfl, hR.pu q2 (fun _ _ _ => rfl)⟩
theorem R_lawful {x1 : Int32} {x2 : Int32} {x3 : Int32} {x4 : Int32} (hG : GT G) (hR : RS I J R S nx κ ι τ tm tn t tp fk fp) (hs : sok hb pb κ) (hhb : hb < 2 ^ 28) : Cal l G (k + 105) 0 0 mX12_lawful [.ref 43, .int x1, .int x2, .int x3, .int x4] (I, J, R, S, nx) (RQ I J R S nx (some (.int (aLawful κ x1 x2 x3 x4).2)) (aLawful κ x1 x2 x3 x4).1 (κ, ι, (τ, tm, tn), (t, tp), fk, fp)) := by
  refine (lawful_r (k := k + 98) (x1 := x1) (x2 := x2) (x3 := x3) (x4 := x4) hR.1.1 hR.2.1 hs.q (by omega)).mono (fun r μ' hq => ?_)
  obtain ⟨q1, I1, rfl, q2⟩ := hq
  exact ⟨q1, I1, J, rfl, hR.pu q2 (fun _ _ _ => rfl)⟩
theorem R_fire {x1 : Int32} {x2 : Int32} {x3 : Int32} (hG : GT G) (hR : RS I J R S nx κ ι τ tm tn t tp fk fp) (hs : sok hb pb κ) (hhb : hb < 2 ^ 28) : Cal l G (k + 105) 0 0 mX12_fire [.ref 43, .int x1, .int x2, .int x3] (I, J, R, S, nx) (RQ I J R S nx (some (.int (aLay κ 7 x1 x2 x3).1.2)) (aLay κ 7 x1 x2 x3).1.1 ((aLay κ 7 x1 x2 x3).2, ι, (τ, tm, tn), (t, tp), fk, fp)) := by
  refine (fire_r (k := k + 100) (x := x1) (y := x2) (z := x3) hR.1.1 hR.2.1 hs hhb).mono (fun r μ' hq => ?_)
  obtain ⟨q1, I1, rfl, q2⟩ := hq
  exact ⟨q1, I1, J, rfl, hR.pu q2 (fun _ _ _ => rfl)⟩
theorem R_ice {x1 : Int32} {x2 : Int32} {x3 : Int32} (hG : GT G) (hR : RS I J R S nx κ ι τ tm tn t tp fk fp) (hs : sok hb pb κ) (hhb : hb < 2 ^ 28) : Cal l G (k + 105) 0 0 mX12_ice [.ref 43, .int x1, .int x2, .int x3] (I, J, R, S, nx) (RQ I J R S nx (some (.int (aLay κ 22 x1 x2 x3).1.2)) (aLay κ 22 x1 x2 x3).1.1 ((aLay κ 22 x1 x2 x3).2, ι, (τ, tm, tn), (t, tp), fk, fp)) := by
  refine (ice_r (k := k + 100) (x := x1) (y := x2) (z := x3) hR.1.1 hR.2.1 hs hhb).mono (fun r μ' hq => ?_)
  obtain ⟨q1, I1, rfl, q2⟩ := hq
  exact ⟨q1, I1, J, rfl, hR.pu q2 (fun _ _ _ => rfl)⟩
theorem R_amend {x1 : Int32} {x2 : Int32} {x3 : Int32} (hG : GT G) (hR : RS I J R S nx κ ι τ tm tn t tp fk fp) (hs : sok hb pb κ) (hhb : hb < 2 ^ 28) : Cal l G (k + 105) 0 0 mX12_amend [.ref 43, .int x1, .int x2, .int x3] (I, J, R, S, nx) (RQ I J R S nx (some (.int ((aAmend κ x1 x2 x3).1).2)) ((aAmend κ x1 x2 x3).1).1 ((aAmend κ x1 x2 x3).2, ι, (τ, tm, tn), (t, tp), fk, fp)) := by
  refine (amend_r (k := k + 99) (x := x1) (y := x2) (z := x3) hR.1.1 hR.2.1 hs hhb).mono (fun r μ' hq => ?_)
  obtain ⟨q1, I1, rfl, q2⟩ := hq
  exact ⟨q1, I1, J, rfl, hR.pu q2 (fun _ _ _ => rfl)⟩
theorem R_repeal {x1 : Int32} (hG : GT G) (hR : RS I J R S nx κ ι τ tm tn t tp fk fp) (hs : sok hb pb κ) (hhb : hb < 2 ^ 28) : Cal l G (k + 105) 0 0 mX12_repeal [.ref 43, .int x1] (I, J, R, S, nx) (RQ I J R S nx (some (.int ((aRepeal κ x1).1).2)) ((aRepeal κ x1).1).1 ((aRepeal κ x1).2, ι, (τ, tm, tn), (t, tp), fk, fp)) := by
  refine (repeal_r (k := k + 103) (x := x1) hR.1.1 hR.2.1 hs hhb).mono (fun r μ' hq => ?_)
  obtain ⟨q1, I1, rfl, q2⟩ := hq
  exact ⟨q1, I1, J, rfl, hR.pu q2 (fun _ _ _ => rfl)⟩
theorem R_hours {x1 : Int32} (hG : GT G) (hR : RS I J R S nx κ ι τ tm tn t tp fk fp) (hs : sok hb pb κ) (hhb : hb < 2 ^ 28) : Cal l G (k + 105) 0 0 mX12_hours [.ref 43, .int x1] (I, J, R, S, nx) (RQ I J R S nx (some (.int ((aHours κ x1).1).2)) ((aHours κ x1).1).1 ((aHours κ x1).2, ι, (τ, tm, tn), (t, tp), fk, fp)) := by
  refine (hours_r (k := k + 104) (x := x1) hR.1.1 hR.2.1 hs hhb).mono (fun r μ' hq => ?_)
  obtain ⟨q1, I1, rfl, q2⟩ := hq
  exact ⟨q1, I1, J, rfl, hR.pu q2 (fun _ _ _ => rfl)⟩
theorem R_done {x1 : Int32} {x2 : Int32} {x3 : Int32} (hG : GT G) (hR : RS I J R S nx κ ι τ tm tn t tp fk fp) (hs : sok hb pb κ) (hhb : hb < 2 ^ 28) : Cal l G (k + 105) 0 0 mX12_done [.ref 43, .int x1, .int x2, .int x3] (I, J, R, S, nx) (RQ I J R S nx (some (.int ((aDone κ x1 x2 x3).1).2)) ((aDone κ x1 x2 x3).1).1 ((aDone κ x1 x2 x3).2, ι, (τ, tm, tn), (t, tp), fk, fp)) := by
  refine (done_r (k := k + 97) (x1 := x1) (x2 := x2) (x3 := x3) hR.1.1 hR.2.1 hs hhb).mono (fun r μ' hq => ?_)
  obtain ⟨q1, I1, rfl, q2⟩ := hq
  exact ⟨q1, I1, J, rfl, hR.pu q2 (fun _ _ _ => rfl)⟩
theorem R_undo {x1 : Int32} (hG : GT G) (hR : RS I J R S nx κ ι τ tm tn t tp fk fp) (hs : sok hb pb κ) (hhb : hb < 2 ^ 28) : Cal l G (k + 105) 0 0 mX12_undo [.ref 43, .int x1] (I, J, R, S, nx) (RQ I J R S nx (some (.int ((aUndo κ x1).1).2)) ((aUndo κ x1).1).1 ((aUndo κ x1).2, ι, (τ, tm, tn), (t, tp), fk, fp)) := by
  refine (undo_r (k := k + 104) (x := x1) hR.1.1 hR.2.1 hs hhb).mono (fun r μ' hq => ?_)
  obtain ⟨q1, I1, rfl, q2⟩ := hq
  exact ⟨q1, I1, J, rfl, hR.pu q2 (fun _ _ _ => rfl)⟩
theorem R_judge {x1 : Int32} {x2 : Int32} (hG : GT G) (hR : RS I J R S nx κ ι τ tm tn t tp fk fp) (hs : sok hb pb κ) (hhb : hb < 2 ^ 28) : Cal l G (k + 105) 0 0 mX12_judge [.ref 43, .int x1, .int x2] (I, J, R, S, nx) (RQ I J R S nx (some (.int (aJudge κ τ tm tn x1 x2).2)) (aJudge κ τ tm tn x1 x2).1 (κ, ι, (τ, tm, tn), (t, tp), fk, fp)) := by
  refine (judge_r (k := k + 96) (x := x1) (y := x2) hR.1.1 hR.2.1 hs hhb hR.2.2.1).mono (fun r μ' hq => ?_)
  obtain ⟨q1, I1, rfl, q2⟩ := hq
  exact ⟨q1, I1, J, rfl, hR.pu q2 (fun _ _ _ => rfl)⟩
theorem R_perform {x1 : Int32} (hG : GT G) (hR : RS I J R S nx κ ι τ tm tn t tp fk fp) (hs : sok hb pb κ) (hhb : hb < 2 ^ 28) : Cal l G (k + 105) 0 0 mX12_perform [.ref 43, .int x1] (I, J, R, S, nx) (RQ I J R S nx (some (.int ((aPerf κ τ tm tn x1).1).2)) ((aPerf κ τ tm tn x1).1).1 ((aPerf κ τ tm tn x1).2, ι, (τ, tm, tn), (t, tp), fk, fp)) := by
  refine (perform_r (k := k + 96) (x := x1) hR.1.1 hR.2.1 hs hhb hR.2.2.1).mono (fun r μ' hq => ?_)
  obtain ⟨q1, I1, rfl, q2⟩ := hq
  exact ⟨q1, I1, J, rfl, hR.pu q2 (fun _ _ _ => rfl)⟩
theorem R_season {x1 : Int32} {x2 : Int32} (hG : GT G) (hR : RS I J R S nx κ ι τ tm tn t tp fk fp) (hs : sok hb pb κ) (hhb : hb < 2 ^ 28) : Cal l G (k + 105) 0 0 mX12_season [.ref 43, .int x1, .int x2] (I, J, R, S, nx) (RQ I J R S nx (some (.int ((aSeason κ x1 x2).1).2)) ((aSeason κ x1 x2).1).1 ((aSeason κ x1 x2).2, ι, (τ, tm, tn), (t, tp), fk, fp)) := by
  refine (season_r (k := k + 96) (x := x1) (y := x2) hR.1.1 hR.2.1 hs hhb).mono (fun r μ' hq => ?_)
  obtain ⟨q1, I1, rfl, q2⟩ := hq
  exact ⟨q1, I1, J, rfl, hR.pu q2 (fun _ _ _ => rfl)⟩
theorem R_soonest {x1 : Int32} {x2 : Int32} {x3 : Int32} (hG : GT G) (hR : RS I J R S nx κ ι τ tm tn t tp fk fp) (hs : sok hb pb κ) (hhb : hb < 2 ^ 28) : Cal l G (k + 105) 0 0 mX12_soonest [.ref 43, .int x1, .int x2, .int x3] (I, J, R, S, nx) (RQ I J R S nx (some (.int (aSoonest κ x1 x2 x3).2)) (aSoonest κ x1 x2 x3).1 (κ, ι, (τ, tm, tn), (t, tp), fk, fp)) := by
  refine (soonest_r (k := k + 97) (x1 := x1) (x2 := x2) (x3 := x3) hR.1.1 hR.2.1 hs.q (by omega)).mono (fun r μ' hq => ?_)
  obtain ⟨q1, I1, rfl, q2⟩ := hq
  exact ⟨q1, I1, J, rfl, hR.pu q2 (fun _ _ _ => rfl)⟩
theorem R_where {x1 : Int32} {x2 : Int32} (hG : GT G) (hR : RS I J R S nx κ ι τ tm tn t tp fk fp) (hs : sok hb pb κ) (hhb : hb < 2 ^ 28) : Cal l G (k + 105) 0 0 mX12_where [.ref 43, .int x1, .int x2] (I, J, R, S, nx) (RQ I J R S nx (some (.int (aWhere κ x1 x2).2)) (aWhere κ x1 x2).1 (κ, ι, (τ, tm, tn), (t, tp), fk, fp)) := by
  refine (where_r (k := k + 97) (x1 := x1) (x2 := x2) hR.1.1 hR.2.1 hs.q (by omega)).mono (fun r μ' hq => ?_)
  obtain ⟨q1, I1, rfl, q2⟩ := hq
  exact ⟨q1, I1, J, rfl, hR.pu q2 (fun _ _ _ => rfl)⟩
theorem R_cheapest {x1 : Int32} {x2 : Int32} {x3 : Int32} (hG : GT G) (hR : RS I J R S nx κ ι τ tm tn t tp fk fp) (hs : sok hb pb κ) (hhb : hb < 2 ^ 28) : Cal l G (k + 105) 0 0 mX12_cheapest [.ref 43, .int x1, .int x2, .int x3] (I, J, R, S, nx) (RQ I J R S nx (some (.int (aCheap κ x1 x2 x3).2)) (aCheap κ x1 x2 x3).1 (κ, ι, (τ, tm, tn), (t, tp), fk, fp)) := by
  refine (cheapest_r (k := k + 98) (x1 := x1) (x2 := x2) (x3 := x3) hR.1.1 hR.2.1 hs.q (by omega)).mono (fun r μ' hq => ?_)
  obtain ⟨q1, I1, rfl, q2⟩ := hq
  exact ⟨q1, I1, J, rfl, hR.pu q2 (fun _ _ _ => rfl)⟩
theorem R_freeHours {x1 : Int32} {x2 : Int32} {x3 : Int32} (hG : GT G) (hR : RS I J R S nx κ ι τ tm tn t tp fk fp) (hs : sok hb pb κ) (hhb : hb < 2 ^ 28) : Cal l G (k + 105) 0 0 mX12_freeHours [.ref 43, .int x1, .int x2, .int x3] (I, J, R, S, nx) (RQ I J R S nx (some (.int (aFreeH κ x1 x2 x3).2)) (aFreeH κ x1 x2 x3).1 (κ, ι, (τ, tm, tn), (t, tp), fk, fp)) := by
  refine (freeHours_r (k := k + 98) (x1 := x1) (x2 := x2) (x3 := x3) hR.1.1 hR.2.1 hs.q (by omega)).mono (fun r μ' hq => ?_)
  obtain ⟨q1, I1, rfl, q2⟩ := hq
  exact ⟨q1, I1, J, rfl, hR.pu q2 (fun _ _ _ => rfl)⟩
theorem R_spell {x1 : Int32} {x2 : Int32} {x3 : Int32} {x4 : Int32} (hG : GT G) (hR : RS I J R S nx κ ι τ tm tn t tp fk fp) (hs : sok hb pb κ) (hhb : hb < 2 ^ 28) : Cal l G (k + 105) 0 0 mX12_spell [.ref 43, .int x1, .int x2, .int x3, .int x4] (I, J, R, S, nx) (RQ I J R S nx (some (.int (aSpell κ x1 x2 x3 x4).2)) (aSpell κ x1 x2 x3 x4).1 (κ, ι, (τ, tm, tn), (t, tp), fk, fp)) := by
  refine (spell_r (k := k + 98) (x1 := x1) (x2 := x2) (x3 := x3) (x4 := x4) hR.1.1 hR.2.1 hs.q (by omega)).mono (fun r μ' hq => ?_)
  obtain ⟨q1, I1, rfl, q2⟩ := hq
  exact ⟨q1, I1, J, rfl, hR.pu q2 (fun _ _ _ => rfl)⟩
theorem R_lawless {x1 : Int32} (hG : GT G) (hR : RS I J R S nx κ ι τ tm tn t tp fk fp) (hs : sok hb pb κ) (hhb : hb < 2 ^ 28) : Cal l G (k + 105) 0 0 mX12_lawless [.ref 43, .int x1] (I, J, R, S, nx) (RQ I J R S nx (some (.int (aLawless κ x1).2)) (aLawless κ x1).1 (κ, ι, (τ, tm, tn), (t, tp), fk, fp)) := by
  refine (lawless_r (k := k + 99) (x := x1) hR.1.1 hR.2.1 hs.q (by omega)).mono (fun r μ' hq => ?_)
  obtain ⟨q1, I1, rfl, q2⟩ := hq
  exact ⟨q1, I1, J, rfl, hR.pu q2 (fun _ _ _ => rfl)⟩
theorem R_alwaysBarred  (hG : GT G) (hR : RS I J R S nx κ ι τ tm tn t tp fk fp) (hs : sok hb pb κ) (hhb : hb < 2 ^ 28) : Cal l G (k + 105) 0 0 mX12_alwaysBarred [.ref 43] (I, J, R, S, nx) (RQ I J R S nx (some (.int (aAlways κ).2)) (aAlways κ).1 (κ, ι, (τ, tm, tn), (t, tp), fk, fp)) := by
  refine (alwaysBarred_r (k := k + 99)  hR.1.1 hR.2.1 hs.q (by omega)).mono (fun r μ' hq => ?_)
  obtain ⟨q1, I1, rfl, q2⟩ := hq
  exact ⟨q1, I1, J, rfl, hR.pu q2 (fun _ _ _ => rfl)⟩
theorem R_strictest  (hG : GT G) (hR : RS I J R S nx κ ι τ tm tn t tp fk fp) (hs : sok hb pb κ) (hhb : hb < 2 ^ 28) : Cal l G (k + 105) 0 0 mX12_strictest [.ref 43] (I, J, R, S, nx) (RQ I J R S nx (some (.int (aStrict κ).2)) (aStrict κ).1 (κ, ι, (τ, tm, tn), (t, tp), fk, fp)) := by
  refine (strictest_r (k := k + 99)  hR.1.1 hR.2.1 hs.q (by omega)).mono (fun r μ' hq => ?_)
  obtain ⟨q1, I1, rfl, q2⟩ := hq
  exact ⟨q1, I1, J, rfl, hR.pu q2 (fun _ _ _ => rfl)⟩
theorem R_heat {x1 : Int32} {x2 : Int32} {x3 : Int32} {x4 : Int32} (hG : GT G) (hR : RS I J R S nx κ ι τ tm tn t tp fk fp) (hs : sok hb pb κ) (hhb : hb < 2 ^ 28) : Cal l G (k + 105) 0 0 mX12_heat [.ref 43, .int x1, .int x2, .int x3, .int x4] (I, J, R, S, nx) (RQ I J R S nx (some (.int (aHeat κ x1 x2 x3 x4).2)) (aHeat κ x1 x2 x3 x4).1 (κ, ι, (τ, tm, tn), (t, tp), fk, fp)) := by
  refine (heat_r (k := k + 99) (x1 := x1) (x2 := x2) (x3 := x3) (x4 := x4) hR.1.1 hR.2.1 hs.q (by omega)).mono (fun r μ' hq => ?_)
  obtain ⟨q1, I1, rfl, q2⟩ := hq
  exact ⟨q1, I1, J, rfl, hR.pu q2 (fun _ _ _ => rfl)⟩
theorem R_leastHeat {x1 : Int32} {x2 : Int32} {x3 : Int32} (hG : GT G) (hR : RS I J R S nx κ ι τ tm tn t tp fk fp) (hs : sok hb pb κ) (hhb : hb < 2 ^ 28) : Cal l G (k + 105) 0 0 mX12_leastHeat [.ref 43, .int x1, .int x2, .int x3] (I, J, R, S, nx) (RQ I J R S nx (some (.int (aLeast κ x1 x2 x3).2)) (aLeast κ x1 x2 x3).1 (κ, ι, (τ, tm, tn), (t, tp), fk, fp)) := by
  refine (leastHeat_r (k := k + 99) (x1 := x1) (x2 := x2) (x3 := x3) hR.1.1 hR.2.1 hs.q (by omega)).mono (fun r μ' hq => ?_)
  obtain ⟨q1, I1, rfl, q2⟩ := hq
  exact ⟨q1, I1, J, rfl, hR.pu q2 (fun _ _ _ => rfl)⟩
theorem R_cover {x1 : Int32} {x2 : Int32} {x3 : Int32} (hG : GT G) (hR : RS I J R S nx κ ι τ tm tn t tp fk fp) (hs : sok hb pb κ) (hhb : hb < 2 ^ 28) : Cal l G (k + 105) 0 0 mX12_cover [.ref 43, .int x1, .int x2, .int x3] (I, J, R, S, nx) (RQ I J R S nx (some (.int (aCover κ x1 x2 x3).2)) (aCover κ x1 x2 x3).1 (κ, ι, (τ, tm, tn), (t, tp), fk, fp)) := by
  refine (cover_r (k := k + 99) (x1 := x1) (x2 := x2) (x3 := x3) hR.1.1 hR.2.1 hs.q (by omega)).mono (fun r μ' hq => ?_)
  obtain ⟨q1, I1, rfl, q2⟩ := hq
  exact ⟨q1, I1, J, rfl, hR.pu q2 (fun _ _ _ => rfl)⟩
theorem R_widen {x1 : Int32} {x2 : Int32} (hG : GT G) (hR : RS I J R S nx κ ι τ tm tn t tp fk fp) (hs : sok hb pb κ) (hhb : hb < 2 ^ 28) : Cal l G (k + 105) 0 0 mX12_widen [.ref 43, .int x1, .int x2] (I, J, R, S, nx) (RQ I J R S nx (some (.int (aWiden κ x1 x2).2)) (aWiden κ x1 x2).1 (κ, ι, (τ, tm, tn), (t, tp), fk, fp)) := by
  refine (widen_r (k := k + 100) (x1 := x1) (x2 := x2) hR.1.1 hR.2.1 hs.q (by omega)).mono (fun r μ' hq => ?_)
  obtain ⟨q1, I1, rfl, q2⟩ := hq
  exact ⟨q1, I1, J, rfl, hR.pu q2 (fun _ _ _ => rfl)⟩
theorem R_heaviest {x1 : Int32} (hG : GT G) (hR : RS I J R S nx κ ι τ tm tn t tp fk fp) (hs : sok hb pb κ) (hhb : hb < 2 ^ 28) : Cal l G (k + 105) 0 0 mX12_heaviest [.ref 43, .int x1] (I, J, R, S, nx) (RQ I J R S nx (some (.int (aHeavy κ x1).2)) (aHeavy κ x1).1 (κ, ι, (τ, tm, tn), (t, tp), fk, fp)) := by
  refine (heaviest_r (k := k + 99) (x := x1) hR.1.1 hR.2.1 hs.q (by omega)).mono (fun r μ' hq => ?_)
  obtain ⟨q1, I1, rfl, q2⟩ := hq
  exact ⟨q1, I1, J, rfl, hR.pu q2 (fun _ _ _ => rfl)⟩
theorem R_freeWay {x1 : Int32} {x2 : Int32} {x3 : Int32} (hG : GT G) (hR : RS I J R S nx κ ι τ tm tn t tp fk fp) (hs : sok hb pb κ) (hhb : hb < 2 ^ 28) : Cal l G (k + 105) 0 0 mX12_freeWay [.ref 43, .int x1, .int x2, .int x3] (I, J, R, S, nx) (RQ I J R S nx (some (.int (aFreeWay κ x1 x2 x3).2)) (aFreeWay κ x1 x2 x3).1 (κ, ι, (τ, tm, tn), (t, tp), fk, fp)) := by
  refine (freeWay_r (k := k + 97) (x1 := x1) (x2 := x2) (x3 := x3) hR.1.1 hR.2.1 hs.q (by omega)).mono (fun r μ' hq => ?_)
  obtain ⟨q1, I1, rfl, q2⟩ := hq
  exact ⟨q1, I1, J, rfl, hR.pu q2 (fun _ _ _ => rfl)⟩
theorem R_freeAt {x1 : Int32} {x2 : Int32} {x3 : Int32} {x4 : Int32} (hG : GT G) (hR : RS I J R S nx κ ι τ tm tn t tp fk fp) (hs : sok hb pb κ) (hhb : hb < 2 ^ 28) : Cal l G (k + 105) 0 0 mX12_freeAt [.ref 43, .int x1, .int x2, .int x3, .int x4] (I, J, R, S, nx) (RQ I J R S nx (some (.int (aFreeAt κ x1 x2 x3 x4).2)) (aFreeAt κ x1 x2 x3 x4).1 (κ, ι, (τ, tm, tn), (t, tp), fk, fp)) := by
  refine (freeAt_r (k := k + 97) (x1 := x1) (x2 := x2) (x3 := x3) (x4 := x4) hR.1.1 hR.2.1 hs hhb).mono (fun r μ' hq => ?_)
  obtain ⟨q1, I1, rfl, q2⟩ := hq
  exact ⟨q1, I1, J, rfl, hR.pu q2 (fun _ _ _ => rfl)⟩
theorem R_wayFine {x1 : Int32} {x2 : Int32} {x3 : Int32} {x4 : Int32} (hG : GT G) (hR : RS I J R S nx κ ι τ tm tn t tp fk fp) (hs : sok hb pb κ) (hhb : hb < 2 ^ 28) : Cal l G (k + 105) 0 0 mX12_wayFine [.ref 43, .int x1, .int x2, .int x3, .int x4] (I, J, R, S, nx) (RQ I J R S nx (some (.int (aWayFine κ x1 x2 x3 x4).2)) (aWayFine κ x1 x2 x3 x4).1 (κ, ι, (τ, tm, tn), (t, tp), fk, fp)) := by
  refine (wayFine_r (k := k + 97) (x1 := x1) (x2 := x2) (x3 := x3) (x4 := x4) hR.1.1 hR.2.1 hs.q (by omega)).mono (fun r μ' hq => ?_)
  obtain ⟨q1, I1, rfl, q2⟩ := hq
  exact ⟨q1, I1, J, rfl, hR.pu q2 (fun _ _ _ => rfl)⟩
theorem R_freeWays {x1 : Int32} {x2 : Int32} {x3 : Int32} {x4 : Int32} (hG : GT G) (hR : RS I J R S nx κ ι τ tm tn t tp fk fp) (hs : sok hb pb κ) (hhb : hb < 2 ^ 28) : Cal l G (k + 105) 0 0 mX12_freeWays [.ref 43, .int x1, .int x2, .int x3, .int x4] (I, J, R, S, nx) (RQ I J R S nx (some (.long (aFreeWays κ x1 x2 x3 x4).2)) (aFreeWays κ x1 x2 x3 x4).1 (κ, ι, (τ, tm, tn), (t, tp), fk, fp)) := by
  refine (freeWays_r (k := k + 97) (x1 := x1) (x2 := x2) (x3 := x3) (x4 := x4) hR.1.1 hR.2.1 hs.q (by omega)).mono (fun r μ' hq => ?_)
  obtain ⟨q1, I1, J1, rfl, q2, q3⟩ := hq
  exact ⟨q1, I1, J1, rfl, hR.pu q2 q3⟩
theorem R_guard {x1 : Int32} {x2 : Int32} {x3 : Int32} (hG : GT G) (hR : RS I J R S nx κ ι τ tm tn t tp fk fp) (hs : sok hb pb κ) (hhb : hb < 2 ^ 28) : Cal l G (k + 105) 0 0 mX12_guard [.ref 43, .int x1, .int x2, .int x3] (I, J, R, S, nx) (RQ I J R S nx (some (.int (aGuard κ x1 x2 x3).2)) (aGuard κ x1 x2 x3).1 (κ, ι, (τ, tm, tn), (t, tp), fk, fp)) := by
  refine (guard_r (k := k + 97) (x1 := x1) (x2 := x2) (x3 := x3) hR.1.1 hR.2.1 hs.q (by omega)).mono (fun r μ' hq => ?_)
  obtain ⟨q1, I1, rfl, q2⟩ := hq
  exact ⟨q1, I1, J, rfl, hR.pu q2 (fun _ _ _ => rfl)⟩
theorem R_errands {x1 : Int32} (hG : GT G) (hR : RS I J R S nx κ ι τ tm tn t tp fk fp) (hs : sok hb pb κ) (hhb : hb < 2 ^ 28) : Cal l G (k + 105) 0 0 mX12_errands [.ref 43, .int x1] (I, J, R, S, nx) (RQ I J R S nx (some (.int (aErrands κ τ tm tn x1).2)) (aErrands κ τ tm tn x1).1 (κ, ι, (τ, tm, tn), (t, tp), fk, fp)) := by
  refine (errands_r (k := k + 97) (x := x1) hR.1.1 hR.2.1 hs.q (by omega) hR.2.2.1).mono (fun r μ' hq => ?_)
  obtain ⟨q1, I1, rfl, q2⟩ := hq
  exact ⟨q1, I1, J, rfl, hR.pu q2 (fun _ _ _ => rfl)⟩
theorem R_bestOrder {x1 : Int32} {x2 : Int32} (hG : GT G) (hR : RS I J R S nx κ ι τ tm tn t tp fk fp) (hs : sok hb pb κ) (hhb : hb < 2 ^ 28) : Cal l G (k + 105) 0 0 mX12_bestOrder [.ref 43, .int x1, .int x2] (I, J, R, S, nx) (RQ I J R S nx (some (.int (aBest κ τ tm tn x1 x2).2)) (aBest κ τ tm tn x1 x2).1 (κ, ι, (τ, tm, tn), (t, tp), fk, fp)) := by
  refine (bestOrder_r (k := k + 60) (x := x1) (y := x2) hR.1.1 hR.2.1 hs.q (by omega) hR.2.2.1).mono (fun r μ' hq => ?_)
  obtain ⟨q1, I1, rfl, q2⟩ := hq
  exact ⟨q1, I1, J, rfl, hR.pu q2 (fun _ _ _ => rfl)⟩
theorem R_seen {x1 : Int32} {x2 : Int32} {x3 : Int32} (hG : GT G) (hR : RS I J R S nx κ ι τ tm tn t tp fk fp) (hs : sok hb pb κ) (hhb : hb < 2 ^ 28) : Cal l G (k + 105) 0 0 mX12_seen [.ref 43, .int x1, .int x2, .int x3] (I, J, R, S, nx) (RQ I J R S nx (some (.int (aSeen κ τ tm tn x1 x2 x3).2)) (aSeen κ τ tm tn x1 x2 x3).1 (κ, ι, (τ, tm, tn), (t, tp), fk, fp)) := by
  refine (seen_r (k := k + 98) (x := x1) (y := x2) (z := x3) hR.1.1 hR.2.1 hs.q (by omega) hR.2.2.1).mono (fun r μ' hq => ?_)
  obtain ⟨q1, I1, rfl, q2⟩ := hq
  exact ⟨q1, I1, J, rfl, hR.pu q2 (fun _ _ _ => rfl)⟩
theorem R_breath {x1 : Int32} {x2 : Int32} {x3 : Int32} {x4 : Int32} (hG : GT G) (hR : RS I J R S nx κ ι τ tm tn t tp fk fp) (hs : sok hb pb κ) (hhb : hb < 2 ^ 28) : Cal l G (k + 105) 0 0 mX12_breath [.ref 43, .int x1, .int x2, .int x3, .int x4] (I, J, R, S, nx) (RQ I J R S nx (some (.int (aBreath κ τ tm tn x1 x2 x3 x4).2)) (aBreath κ τ tm tn x1 x2 x3 x4).1 (κ, ι, (τ, tm, tn), (t, tp), fk, fp)) := by
  refine (breath_r (k := k + 98) (x := x1) (y := x2) (z := x3) (u := x4) hR.1.1 hR.2.1 hs.q (by omega) hR.2.2.1).mono (fun r μ' hq => ?_)
  obtain ⟨q1, I1, rfl, q2⟩ := hq
  exact ⟨q1, I1, J, rfl, hR.pu q2 (fun _ _ _ => rfl)⟩
theorem R_look {x1 : Int32} {x2 : Int32} {x3 : Int32} (hG : GT G) (hR : RS I J R S nx κ ι τ tm tn t tp fk fp) (hs : sok hb pb κ) (hhb : hb < 2 ^ 28) : Cal l G (k + 105) 0 0 mX12_look [.ref 43, .int x1, .int x2, .int x3] (I, J, R, S, nx) (RQ I J R S nx (some (.int (aLook κ τ tm tn x1 x2 x3).2)) (aLook κ τ tm tn x1 x2 x3).1 (κ, ι, (τ, tm, tn), (t, tp), fk, fp)) := by
  refine (look_r (k := k + 98) (x := x1) (y := x2) (z := x3) hR.1.1 hR.2.1 hs.q (by omega) hR.2.2.1).mono (fun r μ' hq => ?_)
  obtain ⟨q1, I1, rfl, q2⟩ := hq
  exact ⟨q1, I1, J, rfl, hR.pu q2 (fun _ _ _ => rfl)⟩
theorem R_tray {x1 : Int32} {x2 : Int32} {x3 : Int32} (hG : GT G) (hR : RS I J R S nx κ ι τ tm tn t tp fk fp) (hs : sok hb pb κ) (hhb : hb < 2 ^ 28) : Cal l G (k + 105) 0 0 mX12_tray [.ref 43, .int x1, .int x2, .int x3] (I, J, R, S, nx) (RQ I J R S nx none ((aTray τ tm tn x1 x2 x3).1) (κ, ι, ((aTray τ tm tn x1 x2 x3).2.1, (aTray τ tm tn x1 x2 x3).2.2.1, (aTray τ tm tn x1 x2 x3).2.2.2), (t, tp), fk, fp)) := by
  refine (tray_r (k := k + 103) (x := x1) (y := x2) (z := x3) hR.1.1 hR.2.2.1).mono (fun r μ' hq => ?_)
  obtain ⟨q1, I1, J1, rfl, q2, q3, q4⟩ := hq
  exact ⟨q1, I1, J1, rfl, hR.tu q2 q3 q4⟩
theorem R_write {x1 : Int32} {x2 : Int32} {x3 : Int64} (hG : GT G) (hR : RS I J R S nx κ ι τ tm tn t tp fk fp) (hs : sok hb pb κ) (hhb : hb < 2 ^ 28) : Cal l G (k + 105) 0 0 mX12_write [.ref 43, .int x1, .int x2, .long x3] (I, J, R, S, nx) (RQ I J R S nx (some (.long ((aWrite τ tm tn x1 x2 x3).1).2)) ((aWrite τ tm tn x1 x2 x3).1).1 (κ, ι, (τ, tm, (aWrite τ tm tn x1 x2 x3).2), (t, tp), fk, fp)) := by
  refine (write_r (k := k + 102) (x := x1) (y := x2) (v := x3) hR.1.1 hR.2.2.1).mono (fun r μ' hq => ?_)
  obtain ⟨q1, I1, J1, rfl, q2, q3, q4⟩ := hq
  exact ⟨q1, I1, J1, rfl, hR.tu q2 q3 q4⟩
theorem R_copy {x1 : Int32} {x2 : Int32} (hG : GT G) (hR : RS I J R S nx κ ι τ tm tn t tp fk fp) (hs : sok hb pb κ) (hhb : hb < 2 ^ 28) : Cal l G (k + 105) 0 0 mX12_copy [.ref 43, .int x1, .int x2] (I, J, R, S, nx) (RQ I J R S nx (some (.int ((aCopy κ τ tm tn x1 x2).1).2)) ((aCopy κ τ tm tn x1 x2).1).1 (κ, ι, (τ, tm, (aCopy κ τ tm tn x1 x2).2), (t, tp), fk, fp)) := by
  refine (copy_r (k := k + 101) (x := x1) (y := x2) hR.1.1 hR.2.1 hs.q (by omega) hR.2.2.1).mono (fun r μ' hq => ?_)
  obtain ⟨q1, I1, J1, rfl, q2, q3, q4⟩ := hq
  exact ⟨q1, I1, J1, rfl, hR.tu q2 q3 q4⟩
theorem R_image {x1 : Int32} (hG : GT G) (hR : RS I J R S nx κ ι τ tm tn t tp fk fp) (hs : sok hb pb κ) (hhb : hb < 2 ^ 28) : Cal l G (k + 105) 0 0 mX12_image [.ref 43, .int x1] (I, J, R, S, nx) (RQ I J R S nx none (aImage κ ι x1).1 (κ, (aImage κ ι x1).2, (τ, tm, tn), (t, tp), fk, fp)) := by
  refine (image_r (k := k + 104) (x := x1) hR.1.1 hR.2.1 hR.2.2.2.1).mono (fun r μ' hq => ?_)
  obtain ⟨q1, I1, rfl, q2, q3⟩ := hq
  exact ⟨q1, I1, J, rfl, hR.iu q2 q3⟩
theorem R_restore {x1 : Int32} (hG : GT G) (hR : RS I J R S nx κ ι τ tm tn t tp fk fp) (hs : sok hb pb κ) (hhb : hb < 2 ^ 28) : Cal l G (k + 105) 0 0 mX12_restore [.ref 43, .int x1] (I, J, R, S, nx) (RQ I J R S nx none (aRest κ ι x1).1 ((aRest κ ι x1).2, ι, (τ, tm, tn), (t, tp), fk, fp)) := by
  refine (restore_r (k := k + 104) (x := x1) hR.1.1 hR.2.1 hR.2.2.2.1).mono (fun r μ' hq => ?_)
  obtain ⟨q1, I1, rfl, q2⟩ := hq
  exact ⟨q1, I1, J, rfl, hR.pu q2 (fun _ _ _ => rfl)⟩
end A
