/-! class and reference beside one another: what a call leaves of the other -/
def RS (I : Nat → Nat → Int32) (J : Nat → Nat → Int64) (R : Nat → Nat → Option Nat) (S : Nat → Nat × Nat) (nx : Nat) (κ : Nat → Nat) (ι : Nat → Option (Nat → Nat)) (τ tm : Nat → Nat) (tn : Nat → Nat → Int64) (t : Nat → Nat) (tp : Nat) (fk fp : Int32) : Prop := (MW R S nx ∧ S 71 = (101, 1)) ∧ Kn I κ ∧ Tk I J τ tm tn ∧ Im I ι ∧ Tp I t tp ∧ I 43 14 = fk ∧ I 43 15 = fp
/-- the reference's cells stay as they are -/
def KG (μ μ' : Mem) : Prop := μ.2.2.2.2 ≤ μ'.2.2.2.2 ∧ (∀ a, 43 ≤ a → a < 71 → μ'.1 a = μ.1 a ∧ μ'.2.1 a = μ.2.1 a ∧ μ'.2.2.1 a = μ.2.2.1 a ∧ μ'.2.2.2.1 a = μ.2.2.2.1 a) ∧ μ'.2.2.2.1 71 = μ.2.2.2.1 71
/-- the class's cells stay as they are -/
def RW (I : Nat → Nat → Int32) (J : Nat → Nat → Int64) (I' : Nat → Nat → Int32) (J' : Nat → Nat → Int64) : Prop := ∀ a, (a < 43 ∨ 71 ≤ a) → I' a = I a ∧ J' a = J a
section A
variable {l : Launch} {G : Gh} {k : Nat} {I : Nat → Nat → Int32} {J : Nat → Nat → Int64} {R : Nat → Nat → Option Nat} {S : Nat → Nat × Nat} {nx : Nat} {κ : Nat → Nat} {hb pb : Nat}
variable {R' : Nat → Nat → Option Nat} {S' : Nat → Nat × Nat} {nx' : Nat} {I' : Nat → Nat → Int32} {J' : Nat → Nat → Int64} {ι : Nat → Option (Nat → Nat)} {τ tm : Nat → Nat} {tn : Nat → Nat → Int64} {tp : Nat} {fk fp : Int32} {t : Nat → Nat} {ow : Nat → Nat} {L dl pl ld lp : Nat} {st : St}
theorem KF.g {μ μ' : Mem} (h : KF μ μ') : KG μ μ' := ⟨h.1, fun a x y => h.2 a x (by omega), (h.2 71 (by decide) (by decide)).2.2.2⟩
theorem KG.j {v : Int64} {μ : Mem} (h : KG μ (I, J, R, S, nx)) : KG μ (I, up2 J 71 0 v, R, S, nx) := ⟨h.1, fun a x y => ⟨(h.2.1 a x y).1, by show up2 J 71 0 v a = _; rw [up2_g (by omega)]; exact (h.2.1 a x y).2.1, (h.2.1 a x y).2.2⟩, h.2.2⟩
theorem RS.kg (h : RS I J R S nx κ ι τ tm tn t tp fk fp) (g : KG (I, J, R, S, nx) (I', J', R', S', nx')) : RS I' J' R' S' nx' κ ι τ tm tn t tp fk fp := by
  obtain ⟨⟨⟨m1, m2, m3⟩, m4⟩, h2, h3, h4, h5, h6, h7⟩ := h
  obtain ⟨g1, g2, g3⟩ := g
  have g1 : nx ≤ nx' := g1
  have eI : ∀ a, 43 ≤ a → a < 71 → I' a = I a := fun a x y => (g2 a x y).1
  have eJ : ∀ a, 43 ≤ a → a < 71 → J' a = J a := fun a x y => (g2 a x y).2.1
  have eR : ∀ a, 43 ≤ a → a < 71 → R' a = R a := fun a x y => (g2 a x y).2.2.1
  have eS : ∀ a, 43 ≤ a → a < 71 → S' a = S a := fun a x y => (g2 a x y).2.2.2
  have c : ∀ q ∈ mwL, 43 ≤ q.2.1 ∧ q.2.1 < 71 := by decide
  refine ⟨⟨⟨by omega, by rw [eS 43 (by decide) (by decide)]; exact m2, fun q hq => ⟨by rw [eR 43 (by decide) (by decide)]; exact (m3 q hq).1, by rw [eS _ (c q hq).1 (c q hq).2]; exact (m3 q hq).2⟩⟩, g3.trans m4⟩, ?_, ?_, ?_, ?_, ?_, ?_⟩
  · intro i hi; rw [eI 44 (by decide) (by decide)]; exact h2 i hi
  · intro q hq; rw [eI 68 (by decide) (by decide), eI 69 (by decide) (by decide), eJ 70 (by decide) (by decide)]; exact h3 q hq
  · unfold Im; rw [eI 46 (by decide) (by decide), eI 47 (by decide) (by decide)]; exact h4
  · unfold Tp; rw [eI 43 (by decide) (by decide), eI 48 (by decide) (by decide)]; exact h5
  · rw [eI 43 (by decide) (by decide)]; exact h6
  · rw [eI 43 (by decide) (by decide)]; exact h7
theorem LdC.w (h : LdC I R S nx ow L κ dl pl ld lp) (g : ∀ b, (b < 43 ∨ 72 ≤ b) → I' b = I b) : LdC I' R S nx ow L κ dl pl ld lp := by
  obtain ⟨h1, h2, h3, h4, h5⟩ := h
  refine ⟨h1, ?_, h3, h4, h5⟩
  obtain ⟨n1, n2, n3⟩ := h1.ne
  have e : ∀ i, i < 8 → I' (L + i) = I (L + i) := fun i hi => g _ (by omega)
  have ed : I' dl = I dl := g _ (by omega)
  have ep : I' pl = I pl := g _ (by omega)
  obtain ⟨q1, q2, q3, q4, q5, q6⟩ := h2
  refine ⟨?_, fun w hw => ?_, fun a ha => ?_, fun k hk => ?_, ⟨q5.1, fun i hi => ?_⟩, ⟨q6.1, fun i hi => ?_⟩⟩
  · have := e 0 (by decide); rw [Nat.add_zero] at this; rw [this]; exact q1
  · rw [e 1 (by decide), e 2 (by decide)]; exact q2 w hw
  · rw [e 3 (by decide), e 4 (by decide)]; exact q3 a ha
  · rw [e 7 (by decide)]; exact q4 k hk
  · rw [ed]; exact q5.2 i hi
  · rw [ep]; exact q6.2 i hi
theorem ImX.w {i X : Nat} {σ : Nat → Nat} (h : ImX I R S nx ow i X σ) (g : ∀ b, (b < 43 ∨ 72 ≤ b) → I' b = I b) : ImX I' R S nx ow i X σ := by
  obtain ⟨h1, h2, ⟨LX, dl, pl, ld, lp, h3, h4⟩, h5, s, q1, q2, q3, q4⟩ := h
  have h72 := h1.2.1
  have e1 : ∀ j, I' (X + j) = I (X + j) := fun j => g _ (by omega)
  refine ⟨h1, h2, ⟨LX, dl, pl, ld, lp, h3, h4.w g⟩, fun j hj => ?_, s, q1, ?_, ?_, fun j hj i hi => ?_⟩
  · rw [e1 1]; exact h5 j hj
  · rw [e1 2]; exact q2
  · rw [e1 2]; exact q3
  · rw [e1 3]; exact q4 j hj i hi
theorem CI.w (h : CI (I, J, R, S, nx) (κ, ι, (τ, tm, tn), (t, tp), fk, fp)) (g : ∀ b, (b < 43 ∨ 72 ≤ b) → I' b = I b) (gJ : ∀ b, b < 43 → J' b = J b) : CI (I', J', R, S, nx) (κ, ι, (τ, tm, tn), (t, tp), fk, fp) := by
  obtain ⟨ow, L, dl, pl, ld, lp, hR, wL, hL, hN, hV, hP⟩ := h
  have hR : CR I J R S nx ow ι τ tm tn t tp fk fp := hR
  have wL : R 14 0 = some L := wL
  have hL : LdC I R S nx ow L κ dl pl ld lp := hL
  have hN : CN I κ := hN
  have hV : PV I κ := hV
  have hP : PS I 30 31 κ := hP
  have e : ∀ b, b < 43 → I' b = I b := fun b hb => g b (Or.inl hb)
  have hCR : CR I' J' R S nx ow ι τ tm tn t tp fk fp := by
    obtain ⟨h1, h2, h3, h4, h5, h6⟩ := hR
    refine ⟨h1, fun q hq => ?_, ?_, ?_, h5, fun i hi => ?_⟩
    · rw [e (35 + 2 * q) (by omega), gJ (36 + 2 * q) (by omega)]; exact h2 q hq
    · unfold TpC; rw [e 1 (by decide), e 2 (by decide)]; exact h3
    · rw [e 1 (by decide)]; exact h4
    · have := h6 i hi
      cases hq : ι i with
      | none => rw [hq] at this; exact this
      | some σ =>
        rw [hq] at this
        obtain ⟨Y, y1, y2⟩ := this
        exact ⟨Y, y1, y2.w g⟩
  have hN2 : CN I' κ := fun i hi => by rw [e 25 (by decide)]; exact hN i hi
  have hV2 : PV I' κ := by unfold PV; rw [e 29 (by decide)]; exact hV
  have hP2 : PS I' 30 31 κ := by
    obtain ⟨q, q1, q2, q3, q4⟩ := hP
    exact ⟨q, q1, by rw [e 30 (by decide)]; exact q2, by rw [e 30 (by decide)]; exact q3, fun j hj i hi => by rw [e 31 (by decide)]; exact q4 j hj i hi⟩
  exact ⟨ow, L, dl, pl, ld, lp, hCR, wL, hL.w g, hN2, hV2, hP2⟩
theorem CI.rw1 (h : CI (I, J, R, S, nx) (κ, ι, (τ, tm, tn), (t, tp), fk, fp)) (g : RW I J I' J') : CI (I', J', R, S, nx) (κ, ι, (τ, tm, tn), (t, tp), fk, fp) := h.w (fun b hb => (g b (by omega)).1) (fun b hb => (g b (Or.inl hb)).2)
theorem CI.j71 {v : Int64} (h : CI (I, J, R, S, nx) (κ, ι, (τ, tm, tn), (t, tp), fk, fp)) : CI (I, up2 J 71 0 v, R, S, nx) (κ, ι, (τ, tm, tn), (t, tp), fk, fp) := h.w (fun _ _ => rfl) (fun b hb => up2_g (by omega))
/-! the reference's frames -/
theorem Ps.rw {rows : List Nat} (h : Ps rows I I') (hr : ∀ a ∈ rows, 43 ≤ a ∧ a < 71) : RW I J I' J := fun a ha => ⟨h.1 a (fun g => by
  have : ∀ b ∈ scr, 43 ≤ b ∧ b < 71 := by decide
  have := this a g
  omega) (fun g => by have := hr a g; omega) (by omega), rfl⟩
theorem Fz.rw {rs fs : List Nat} (h : Fz rs fs I I') (hr : ∀ a ∈ rs, 43 ≤ a ∧ a < 71) : RW I J I' J := fun a ha => ⟨h.1 a (by omega) (fun g => by have := hr a g; omega), rfl⟩
theorem RW.j {f : Nat → Nat → Int64} (h : RW I J I' J) (hj : ∀ a, (a < 43 ∨ 71 ≤ a) → f a = J a) : RW I J I' f := fun a ha => ⟨(h a ha).1, hj a ha⟩
/-! the room for hours and fines, call by call -/
theorem sok_per {f : Nat → Int} (h : sok hb pb κ) : ∀ n, sok (hb + 24 * n) (pb + 19008 * n) (qper f κ n).1
  | 0 => h
  | n + 1 => by
    have ih := sok_per (f := f) h n
    cases hq : qper f κ n with
    | mk κ' o =>
      rw [hq] at ih
      cases o with
      | some p => rw [qper_stay hq 1]; exact ih.mono (by omega) (by omega)
      | none =>
        by_cases hw : qwhy κ' (f n) = 0
        · rw [qper_go hq hw]
          exact (ih.keep.does (by rw [qwhy_keep]; exact hw)).mono (by omega) (by omega)
        · rw [qper_no hq hw]; exact ih.mono (by omega) (by omega)
theorem sok_sea {s : Int32} (h : sok hb pb κ) : ∀ n, sok (hb + 24 * n) (pb + 19008 * n) (qsea κ s n).1
  | 0 => h
  | n + 1 => by
    have ih := sok_sea (s := s) h n
    show sok _ _ (qstep (qsea κ s n)).1
    by_cases c : 1 < dr (nxt (qsea κ s n).2.1) % 5 ∧ (qsea κ s n).1 1 = 0
    · rw [qstep_no c]; exact ih.mono (by omega) (by omega)
    · rw [qstep_do c]
      refine (ih.keep.does ?_).mono (by omega) (by omega)
      rw [qwhy_keep]
      exact qdrv_why ih.q.1 (fun g => by omega)
theorem s_lay {w : Nat} {x y z : Int32} (h : sok hb pb κ) (hw : w = 7 ∨ w = 22) : sok hb pb (aLay κ w x y z).2 := by
  have h1 : κ 1 ≤ 5 := h.q.1
  unfold aLay
  by_cases g : gL x (κ 1)
  · rw [if_pos g]
    by_cases g2 : gR y 0 60 ∧ gR z 1 99
    · rw [if_pos g2]
      obtain ⟨a, rfl, ha, ea⟩ := g.n (by omega)
      obtain ⟨b, rfl, _, hb2, eb⟩ := g2.1.n (by omega)
      obtain ⟨c, rfl, _, hc2, ec⟩ := g2.2.n (by omega)
      show sok hb pb (kLay κ w (nI a) (nI b) (nI c))
      unfold kLay
      rw [ea, eb, ec]
      exact h.keep.lay hw (by omega) hb2 hc2
    · rw [if_neg g2]; exact h
  · rw [if_neg g]; exact h
theorem s_amend {x y z : Int32} (h : sok hb pb κ) : sok hb pb (aAmend κ x y z).2 := by
  have h2 : κ 2 ≤ 8 := h.q.2.1
  unfold aAmend
  by_cases g : gL x (κ 2)
  · rw [if_pos g]
    by_cases g2 : gR y 0 99 ∧ gR z (cN y) 99
    · rw [if_pos g2]
      obtain ⟨a, rfl, ha, ea⟩ := g.n (by omega)
      obtain ⟨b, rfl, _, hb2, eb⟩ := g2.1.n (by omega)
      obtain ⟨c, rfl, _, hc2, ec⟩ := g2.2.n (by omega)
      show sok hb pb (kAmend κ (nI a) (nI b) (nI c))
      unfold kAmend
      rw [ea, eb, ec]
      exact h.keep.amend (by omega) hb2 hc2
    · rw [if_neg g2]; exact h
  · rw [if_neg g]; exact h
theorem s_rep {x : Int32} (h : sok hb pb κ) : sok hb pb (aRepeal κ x).2 := by
  have h2 : κ 2 ≤ 8 := h.q.2.1
  unfold aRepeal
  by_cases g : gL x (κ 2)
  · rw [if_pos g]
    by_cases g2 : (κ 53).testBit (cN x) = true
    · rw [if_pos g2]; exact h
    · rw [if_neg g2]
      obtain ⟨a, rfl, ha, ea⟩ := g.n (by omega)
      show sok hb pb (kRep κ (nI a))
      unfold kRep
      rw [ea]
      exact h.keep.rep (by omega)
  · rw [if_neg g]; exact h
theorem s_hours {x : Int32} (h : sok hb pb κ) : sok (hb + 99) pb (aHours κ x).2 := by
  unfold aHours
  by_cases g : gR x 1 99
  · rw [if_pos g]
    obtain ⟨a, rfl, _, ha, ea⟩ := g.n (by omega)
    rw [ea]
    exact h.keep.hour ha
  · rw [if_neg g]; exact h.mono (by omega) (by omega)
theorem s_done {x1 x2 x3 : Int32} (h : sok hb pb κ) : sok (hb + 24) (pb + 19008) (aDone κ x1 x2 x3).2 := by
  unfold aDone
  by_cases g : gD κ x1 x2 0 x3 = 0
  · rw [if_pos g]
    have g3 : gR x3 1 24 := by
      unfold gD at g
      split at g
      · split at g
        · rename_i q; exact q.2.2
        · cases g
      · cases g
    obtain ⟨a, rfl, a1, ha, ea⟩ := g3.n (by omega)
    show sok _ _ (kDone κ x1 x2 (nI a))
    unfold kDone
    rw [ea]
    exact h.keep.deed ⟨a1, ha⟩
  · rw [if_neg g]; exact h.mono (by omega) (by omega)
theorem s_undo {x : Int32} (h : sok hb pb κ) : sok hb pb (aUndo κ x).2 := by
  have h5 := h.2.1
  unfold aUndo
  by_cases g : gR x 1 (κ 5)
  · rw [if_pos g]
    obtain ⟨a, rfl, a1, ha, ea⟩ := g.n (by omega)
    rw [ea]
    exact h.undo ⟨a1, ha⟩
  · rw [if_neg g]; exact h
theorem s_perf {x : Int32} (h : sok hb pb κ) (hT : ∀ t, t < 4 → tm t ≤ 30) : sok (hb + 720) (pb + 570240) (aPerf κ τ tm tn x).2 := by
  unfold aPerf
  by_cases g : gT τ x = 0
  · rw [if_pos g]
    obtain ⟨a, rfl, ha, ea, _⟩ := gT0 g
    have := hT a ha
    rw [ea]
    exact (sok_per h (tm a)).mono (by omega) (by omega)
  · rw [if_neg g]; exact h.mono (by omega) (by omega)
theorem s_sea {x y : Int32} (h : sok hb pb κ) : sok (hb + 720) (pb + 570240) (aSeason κ x y).2 := by
  unfold aSeason
  by_cases g : gR y 1 30
  · rw [if_pos g]
    obtain ⟨a, rfl, a1, ha, ea⟩ := g.n (by omega)
    rw [ea]
    exact (sok_sea h a).mono (by omega) (by omega)
  · rw [if_neg g]; exact h.mono (by omega) (by omega)
theorem s_land {x : Int32} (h : sok hb pb κ) (h9 : 999 ≤ hb) (ht : tp ≤ 900 ∧ ∀ j, j < tp → t j < 256) : sok hb pb (aLand κ t tp fk fp x).2.1 := by
  unfold aLand
  by_cases g : gR x 0 tp
  · rw [if_pos g]
    obtain ⟨n, rfl, _, hn, en⟩ := g.n (by omega)
    rw [en]
    cases hY : yland t n 1000 with
    | inl e => exact h
    | inr s => exact ((yland_z ⟨by omega, fun j hj => ht.2 j (by omega)⟩ hY).1).mono h9 (Nat.zero_le _)
  · rw [if_neg g]; exact h
theorem s_rest {x : Int32} (h : sok hb pb κ) (hi : ∀ i σ, ι i = some σ → sok hb pb σ) : sok hb pb (aRest κ ι x).2 := by
  unfold aRest
  by_cases g : gR x 0 2
  · rw [if_pos g]
    cases hq : ι (cN x) with
    | none => exact h
    | some σ => exact hi _ σ hq
  · rw [if_neg g]; exact h
end A
