/-! the reference: the land, bytes fed -/
section P
variable {t : Nat → Nat} {n F : Nat}
theorem ad_m {s : Tok} (h : Wf t n s) (hx : Tx t n) : Wf t n (ynx t n s.1) ∧ s.1 ≤ (ynx t n s.1).1 := by
  have := h.ad hx
  exact ⟨this.1, by omega⟩
theorem ynum_m {lo hi : Nat} {s : Tok} {v : Nat × Tok} (h : Wf t n s) (hx : Tx t n) (e : ynum t n lo hi s = .inr v) : Wf t n v.2 ∧ s.1 ≤ v.2.1 := by
  have := (ynum_lt (v := v.1) (s' := v.2) e).2.2.2
  rw [this]; exact ad_m h hx
theorem ymust_m {c : Nat} {s s' : Tok} (h : Wf t n s) (hx : Tx t n) (e : ymust t n c s = .inr s') : Wf t n s' ∧ s.1 ≤ s'.1 := by
  unfold ymust at e
  split at e
  · have := Sum.inr.inj e; rw [← this]; exact ad_m h hx
  · cases e
theorem ybs_m {wn : Nat} (hx : Tx t n) : ∀ (f set : Nat) (s : Tok) (v : Nat × Tok), Wf t n s → ybs t n wn f set s = .inr v → Wf t n v.2 ∧ s.1 ≤ v.2.1
  | 0, set, s, v, h, e => by have := Sum.inr.inj e; rw [← this]; exact ⟨h, Nat.le_refl _⟩
  | f + 1, set, s, v, h, e => by
    unfold ybs at e
    cases hq : ynum t n 0 wn s with
    | inl e' => rw [hq] at e; cases e
    | inr r =>
      rw [hq] at e
      obtain ⟨m1, m2⟩ := ynum_m h hx hq
      have e' : (if r.2.2.2.1 = 256 then ybs t n wn f (set ||| 2 ^ r.1) r.2 else .inr (set ||| 2 ^ r.1, r.2)) = .inr v := e
      split at e'
      · obtain ⟨q1, q2⟩ := ybs_m hx f _ _ v m1 e'
        exact ⟨q1, by omega⟩
      · have := Sum.inr.inj e'; rw [← this]; exact ⟨m1, m2⟩
theorem xb_inv {α β : Type} {x : Er ⊕ α} {f : α → Er ⊕ β} {b : β} (h : xb x f = .inr b) : ∃ a, x = .inr a ∧ f a = .inr b := by
  cases x with
  | inl e => cases h
  | inr a => exact ⟨a, rfl, h⟩
theorem yone_m {s s1 : Ln} (h : Wf t n s.1) (hx : Tx t n) (e : yone t n F s = .inr s1) : Wf t n s1.1 ∧ s.1.1 ≤ s1.1.1 := by
  have h0 := ad_m h hx
  have law : ∀ m, ylaw t n F m s = .inr s1 → Wf t n s1.1 ∧ s.1.1 ≤ s1.1.1 := by
    intro m e
    unfold ylaw at e
    obtain ⟨s2, e2, e⟩ := xb_inv e
    obtain ⟨m1, m2⟩ := ymust_m h0.1 hx e2
    obtain ⟨z, e3, e⟩ := xb_inv e
    have := Sum.inr.inj e
    have hz : Wf t n z.1 ∧ s2.1 ≤ z.1.1 := by
      obtain ⟨g1, g2, g3⟩ := xlev_g (F := F) m hx 6
      cases m with
      | false => obtain ⟨_, q⟩ := (g1 (s2, []) m1).2 z e3; exact ⟨q.1, q.2.1⟩
      | true => obtain ⟨_, q⟩ := (g3 (s2, []) m1).2 z e3; exact ⟨q.1, q.2.1⟩
    rw [← this]
    exact ⟨hz.1, by show s.1.1 ≤ z.1.1; omega⟩
  unfold yone at e
  split at e
  · unfold yward at e
    split at e
    · cases e
    · obtain ⟨r1, e1, e⟩ := xb_inv e
      obtain ⟨m1, m2⟩ := ynum_m h0.1 hx e1
      obtain ⟨r2, e2, e⟩ := xb_inv e
      have := Sum.inr.inj e
      have hz : Wf t n r2.2 ∧ r1.2.1 ≤ r2.2.1 := by
        split at e2
        · have h3 := ad_m m1 hx
          obtain ⟨q1, q2⟩ := ybs_m hx _ _ _ r2 h3.1 e2
          exact ⟨q1, by omega⟩
        · have := Sum.inr.inj e2; rw [← this]; exact ⟨m1, Nat.le_refl _⟩
      rw [← this]
      exact ⟨hz.1, by show s.1.1 ≤ r2.2.1; omega⟩
  · split at e
    · unfold yact at e
      split at e
      · cases e
      · obtain ⟨r1, e1, e⟩ := xb_inv e
        obtain ⟨m1, n1⟩ := ynum_m h0.1 hx e1
        obtain ⟨s2, e2, e⟩ := xb_inv e
        obtain ⟨m2, n2⟩ := ymust_m m1 hx e2
        obtain ⟨r3, e3, e⟩ := xb_inv e
        obtain ⟨m3, n3⟩ := ynum_m m2 hx e3
        obtain ⟨s4, e4, e⟩ := xb_inv e
        obtain ⟨m4, n4⟩ := ymust_m m3 hx e4
        obtain ⟨r5, e5, e⟩ := xb_inv e
        obtain ⟨m5, n5⟩ := ynum_m m4 hx e5
        obtain ⟨s6, e6, e⟩ := xb_inv e
        obtain ⟨m6, n6⟩ := ymust_m m5 hx e6
        obtain ⟨r7, e7, e⟩ := xb_inv e
        obtain ⟨m7, n7⟩ := ynum_m m6 hx e7
        have := Sum.inr.inj e
        rw [← this]
        exact ⟨m7, by show s.1.1 ≤ r7.2.1; omega⟩
    · split at e
      · have := Sum.inr.inj e; rw [← this]; exact h0
      · split at e
        · have := Sum.inr.inj e; rw [← this]; exact h0
        · split at e
          · obtain ⟨r1, e1, e⟩ := xb_inv e
            obtain ⟨m1, n1⟩ := ynum_m h0.1 hx e1
            have := Sum.inr.inj e
            rw [← this]
            exact ⟨m1, by show s.1.1 ≤ r1.2.1; omega⟩
          · split at e
            · exact law false e
            · split at e
              · exact law true e
              · cases e
theorem yline_m {s s1 : Ln} (h : Wf t n s.1) (hx : Tx t n) (e : yline t n F s = .inr s1) : Wf t n s1.1 ∧ (s1.1.2.2.1 = 257 ∨ s.1.1 < s1.1.1) := by
  unfold yline at e
  obtain ⟨s2, e2, e⟩ := xb_inv e
  obtain ⟨m2, n2⟩ := yone_m h hx e2
  obtain ⟨s3, e3, e⟩ := xb_inv e
  have := Sum.inr.inj e
  rw [← this]
  unfold ymust at e3
  split at e3
  · have e4 := Sum.inr.inj e3
    have ha := m2.ad hx
    rw [e4] at ha
    refine ⟨ha.1, ha.2.2.1.elim Or.inl (fun q => Or.inr ?_)⟩
    show s.1.1 < s3.1; omega
  · cases e3
end P
section A
variable {l : Launch} {G : Gh} {k : Nat} {I : Nat → Nat → Int32} {J : Nat → Nat → Int64} {R : Nat → Nat → Option Nat} {S : Nat → Nat × Nat} {nx : Nat} {κ : Nat → Nat} {hb pb : Nat}
variable {t : Nat → Nat} {n : Nat}
/-- the tape -/
def Tp (I : Nat → Nat → Int32) (t : Nat → Nat) (tp : Nat) : Prop := I 43 6 = nI tp ∧ tp ≤ 900 ∧ (∀ j, j < tp → I 48 j = nI (t j)) ∧ ∀ j, j < tp → t j < 256
/-- thrown, answer, what is known, bytes fed, fault and place -/
def laR (κ : Nat → Nat) (Y : Er ⊕ Ln) : (Nat × Int32) × (Nat → Nat) × Nat × Int32 × Int32 := match Y with
  | .inl e => ((0, (-10 : Int32) - nI e.1), κ, 0, nI e.1, nI e.2)
  | .inr s => ((0, nI (s.2 0)), s.2, 0, 0, -1)
def landQ (t : Nat → Nat) (I : Nat → Nat → Int32) (J : Nat → Nat → Int64) (R : Nat → Nat → Option Nat) (S : Nat → Nat × Nat) (nx : Nat) (a : (Nat × Int32) × (Nat → Nat) × Nat × Int32 × Int32) : Res → Mem → Prop := (fun r μ' => r = .inl (some (.int (a.1.2))) ∧ ∃ I', μ' = (I', J, R, S, nx) ∧ Fz [44, 45] [4, 6, 7, 8, 9, 10, 11, 12, 13, 14, 15, 16, 17, 18] I I' ∧ I' 43 4 = nI a.1.1 ∧ Kn I' a.2.1 ∧ Tp I' t a.2.2.1 ∧ I' 43 14 = a.2.2.2.1 ∧ I' 43 15 = a.2.2.2.2)
def aLand (κ t : Nat → Nat) (tp : Nat) (fk fp x : Int32) : (Nat × Int32) × (Nat → Nat) × Nat × Int32 × Int32 := if gR x 0 tp then laR κ (yland t (cN x) 1000) else ((1, 0), κ, tp, fk, fp)
theorem land_r {x : Int32} {tp : Nat} (w : MW R S nx) (hG : GT G) (hK : Kn I κ) (hT : Tp I t tp) : Cal l G (k + 104) 0 0 mX12_land [.ref 43, .int x] (I, J, R, S, nx) (landQ t I J R S nx (aLand κ t tp (I 43 14) (I 43 15) x)) := by
  have eg : (v_X12_within (Int32.toInt64 x) (0 : Int64) (Int32.toInt64 (I 43 6)) = 0) = ¬ gR x 0 tp := by
    have ht := hT.2.1
    rw [hT.1, show Int32.toInt64 (nI tp) = lN tp from nI_l (by omega)]
    exact gR0 (by decide) (by omega)
  rw [show k + 104 = (k + 62) + 42 by omega]
  obtain ⟨kk, hkk⟩ : ∃ kk, k + 62 = kk := ⟨_, rfl⟩
  rw [hkk]
  by_cases g1 : gR x 0 tp
  · have c1 : ¬ v_X12_within (Int32.toInt64 x) (0 : Int64) (Int32.toInt64 (I 43 6)) = 0 := by rw [eg]; exact not_not_intro g1
    have ht9 := hT.2.1
    obtain ⟨n, rfl, _, hn, en⟩ := g1.n (by omega)
    have hx : Tx t n := ⟨by omega, fun j hj => hT.2.2.2 j (by omega)⟩
    obtain ⟨F, hF⟩ : ∃ F, F = 1000 := ⟨_, rfl⟩
    have hFu : n < F := by omega
    rw [show aLand κ t tp (I 43 14) (I 43 15) (nI n) = laR κ (yland t n F) by unfold aLand; rw [if_pos g1, en, hF]]
    refine Cal.of rfl (by decide +kernel) (by simp) (Nat.le_of_ble_eq_true rfl) rfl (sX12_land_0 w ?_ ?_) <;> intros <;> (first | exact absurd (by with_reducible assumption) c1 | exact absurd c1 (by with_reducible assumption) | skip)
    have hF0 : Fz [44, 45] [4, 6, 7, 8, 9, 10, 11, 12, 13, 14, 15, 16, 17, 18] I (up2 (up2 (up2 (up2 (up2 (up2 I 43 4 (0 : Int32)) 43 7 (nI n)) 43 6 (0 : Int32)) 43 8 (0 : Int32)) 43 12 (0 : Int32)) 43 16 (0 : Int32)) := (((((Fz.rf.uf (by decide)).uf (by decide)).uf (by decide)).uf (by decide)).uf (by decide)).uf (by decide)
    have f4 : up2 (up2 (up2 (up2 (up2 (up2 I 43 4 (0 : Int32)) 43 7 (nI n)) 43 6 (0 : Int32)) 43 8 (0 : Int32)) 43 12 (0 : Int32)) 43 16 (0 : Int32) 43 4 = 0 := by simp [up2]
    have f6 : up2 (up2 (up2 (up2 (up2 (up2 I 43 4 (0 : Int32)) 43 7 (nI n)) 43 6 (0 : Int32)) 43 8 (0 : Int32)) 43 12 (0 : Int32)) 43 16 (0 : Int32) 43 6 = 0 := by simp [up2]
    have f8 : up2 (up2 (up2 (up2 (up2 (up2 I 43 4 (0 : Int32)) 43 7 (nI n)) 43 6 (0 : Int32)) 43 8 (0 : Int32)) 43 12 (0 : Int32)) 43 16 (0 : Int32) 43 8 = 0 := by simp [up2]
    have f12 : up2 (up2 (up2 (up2 (up2 (up2 I 43 4 (0 : Int32)) 43 7 (nI n)) 43 6 (0 : Int32)) 43 8 (0 : Int32)) 43 12 (0 : Int32)) 43 16 (0 : Int32) 43 12 = 0 := by simp [up2]
    have f16 : up2 (up2 (up2 (up2 (up2 (up2 I 43 4 (0 : Int32)) 43 7 (nI n)) 43 6 (0 : Int32)) 43 8 (0 : Int32)) 43 12 (0 : Int32)) 43 16 (0 : Int32) 43 16 = 0 := by simp [up2]
    have fT : RT (up2 (up2 (up2 (up2 (up2 (up2 I 43 4 (0 : Int32)) 43 7 (nI n)) 43 6 (0 : Int32)) 43 8 (0 : Int32)) 43 12 (0 : Int32)) 43 16 (0 : Int32)) t n := ⟨by simp [up2], fun j hj => by simp [up2]; exact hT.2.2.1 j (by omega), hx⟩
    obtain ⟨I0, hI0⟩ : ∃ I0, up2 (up2 (up2 (up2 (up2 (up2 I 43 4 (0 : Int32)) 43 7 (nI n)) 43 6 (0 : Int32)) 43 8 (0 : Int32)) 43 12 (0 : Int32)) 43 16 (0 : Int32) = I0 := ⟨_, rfl⟩
    rw [hI0] at hF0 f4 f6 f8 f12 f16 fT ⊢
    obtain ⟨Y, hY⟩ : ∃ Y, yland t n F = Y := ⟨_, rfl⟩
    rw [hY]
    have k0 : Kn I0 κ := fun i hi => by rw [← hI0]; simp [up2]; exact hK i hi
    -- the last rows
    have fin : ∀ I1 : Nat → Nat → Int32, FL I0 I1 → LX I1 t n Y → hX12_land_97 l G kk (landQ t I J R S nx (laR κ Y)) (I1, J, R, S, nx) := by
      intro I1 h1 hL
      have hF1 : Fz [44, 45] [4, 6, 7, 8, 9, 10, 11, 12, 13, 14, 15, 16, 17, 18] I I1 := hF0.t (Fz.wk h1 (by decide) (by decide))
      have g4 : I1 43 4 = 0 := by rw [h1.2 4 (by decide)]; exact f4
      have g6 : I1 43 6 = 0 := by rw [h1.2 6 (by decide)]; exact f6
      have g44 : I1 44 = I0 44 := h1.1 44 (by decide) (by decide)
      cases Y with
      | inl e =>
        have cn := hL.no
        have p12 : I1 43 12 = nI e.1 := hL.1.2.1
        have p13 : I1 43 13 = nI e.2 := hL.1.2.2.1
        refine sX12_land_97 w ?_ ?_ ?_ ?_ <;> intros <;> (first | exact absurd (by with_reducible assumption) cn | exact absurd cn (by with_reducible assumption) | skip)
        refine ⟨by rw [p12]; rfl, _, rfl, (hF1.uf (by decide)).uf (by decide), ?_, ?_, ⟨?_, by show 0 ≤ 900; decide, fun j hj => absurd hj (Nat.not_lt_zero j), fun j hj => absurd hj (Nat.not_lt_zero j)⟩, ?_, ?_⟩
        · simp [up2]; exact g4
        · intro i hi; simp [up2]; rw [g44]; exact k0 i hi
        · simp [up2]; exact g6
        · simp [up2]; exact p12
        · simp [up2]; exact p13
      | inr s =>
        have cy := hL.yes
        refine sX12_land_97 w ?_ ?_ ?_ ?_ <;> intros <;> (first | exact absurd (by with_reducible assumption) cy | exact absurd cy (by with_reducible assumption) | skip)
        have hFs : Fz [44, 45] [4, 6, 7, 8, 9, 10, 11, 12, 13, 14, 15, 16, 17, 18] I (up2 (up2 I1 43 14 (I1 43 12)) 43 15 (-1 : Int32)) := (hF1.uf (by decide)).uf (by decide)
        refine upto (W := fun i I2 => hX12_land_141 l G kk _ (nI i) (I2, J, R, S, nx)) (P := fun i I2 => Fz [44] [] (up2 (up2 I1 43 14 (I1 43 12)) 43 15 (-1 : Int32)) I2 ∧ ∀ j, j < i → I2 44 j = nI (s.2 j)) 2380 ?_ ?_ (i := 0) (Nat.zero_le _) ⟨Fz.rf, fun j hj => absurd hj (Nat.not_lt_zero j)⟩
        · intro I2 ⟨hF2, h44⟩
          have d1 : (2380 : Int32) ≤ nI 2380 := by decide
          refine sX12_land_141 w ?_ ?_ ?_ ?_ <;> intros <;> (first | exact absurd (by with_reducible assumption) d1 | exact absurd d1 (by with_reducible assumption) | skip)
          refine ⟨by rw [h44 0 (by decide)]; rfl, _, rfl, hFs.t (Fz.wk hF2 (by decide) (by decide)), ?_, h44, ⟨?_, by show 0 ≤ 900; decide, fun j hj => absurd hj (Nat.not_lt_zero j), fun j hj => absurd hj (Nat.not_lt_zero j)⟩, ?_, ?_⟩
          · rw [hF2.2 4 (by decide)]; simp [up2]; exact g4
          · rw [hF2.2 6 (by decide)]; simp [up2]; exact g6
          · rw [hF2.2 14 (by decide)]; simp [up2]; exact cy
          · rw [hF2.2 15 (by decide)]; simp [up2]; rfl
        · intro i I2 hi ⟨hF2, h44⟩ ih
          have d1 : ¬ (2380 : Int32) ≤ nI i := nI_ge (b := 2380) hi (by decide)
          refine sX12_land_141 w ?_ ?_ ?_ ?_ <;> intros <;> (first | exact absurd (by with_reducible assumption) d1 | exact absurd d1 (by with_reducible assumption) | skip)
          · exact vp_in_nI hi (by decide)
          · exact vp_in_nI hi (by decide)
          · rw [nI_1, nI_clamp (by omega)]
            refine ih _ ⟨hF2.up (by decide) (by decide), fun j hj => ?_⟩
            by_cases cj : j = i
            · subst cj
              simp only [up2, if_true]
              rw [hF2.1 45 (by decide) (by decide)]
              have := hL.2.1 j hi
              simpa [up2] using this
            · simp only [up2, if_true, if_neg cj]; exact h44 j (by omega)
    -- the lines
    have lines : ∀ (q : Nat) (y : Er ⊕ Ln) (I1 : Nat → Nat → Int32), FL I0 I1 → LX I1 t n y → (∀ s, y = .inr s → n - s.1.1 < q) → xb y (ylp t n F q) = Y → hX12_land_76 l G kk (landQ t I J R S nx (laR κ Y)) (I1, J, R, S, nx) := by
      intro q
      have ill : ∀ (q : Nat) (e : Er) (I1 : Nat → Nat → Int32), FL I0 I1 → LX I1 t n (.inl e) → xb (.inl e : Er ⊕ Ln) (ylp t n F q) = Y → hX12_land_76 l G kk (landQ t I J R S nx (laR κ Y)) (I1, J, R, S, nx) := by
        intro q e I1 h1 hL hy
        have hy' : Sum.inl e = Y := hy
        have cn := hL.no
        refine sX12_land_76 (P1 := fun _ _ => True) w ?_ ?_ ?_ ?_ <;> intros <;> (first | exact absurd (by with_reducible assumption) cn | exact absurd cn (by with_reducible assumption) | skip)
        refine fin I1 h1 ?_
        rw [← hy']; exact hL
      induction q with
      | zero =>
        intro y I1 h1 hL hq hy
        cases y with
        | inl e => exact ill 0 e I1 h1 hL hy
        | inr s => have := hq s rfl; omega
      | succ q ih =>
        intro y I1 h1 hL hq hy
        cases y with
        | inl e => exact ill (q + 1) e I1 h1 hL hy
        | inr s =>
          have cy := hL.yes
          have hr := rtk_k hL.wf hx
          have e10 : I1 43 10 = nI (rtk s.1.2.2.1) := hL.1.2.1.2.2.1
          have et : (I1 43 10 = 0) = (s.1.2.2.1 = 257) := by rw [e10]; exact propext ((nI_eq (b := 0) (by omega) (by decide)).trans hr.2.2.2.1)
          have hy' : (if s.1.2.2.1 = 257 then .inr s else xb (yline t n F s) (ylp t n F q)) = Y := hy
          by_cases c7 : s.1.2.2.1 = 257
          · rw [if_pos c7] at hy'
            have d1 : I1 43 10 = 0 := by rw [et]; exact c7
            refine sX12_land_76 (P1 := fun _ _ => True) w ?_ ?_ ?_ ?_ <;> intros <;> (first | exact absurd (by with_reducible assumption) cy | exact absurd cy (by with_reducible assumption) | exact absurd (by with_reducible assumption) d1 | exact absurd d1 (by with_reducible assumption) | skip)
            refine fin I1 h1 ?_
            rw [← hy']; exact hL
          · rw [if_neg c7] at hy'
            have d1 : ¬ I1 43 10 = 0 := by rw [et]; exact c7
            refine sX12_land_76 (P1 := fun I I' => FL I I' ∧ LX I' t n (yline t n F s)) w ?_ ?_ ?_ ?_ <;> intros <;> (first | exact absurd (by with_reducible assumption) cy | exact absurd cy (by with_reducible assumption) | exact absurd (by with_reducible assumption) d1 | exact absurd d1 (by with_reducible assumption) | skip)
            · have := readLine_r (l := l) (J := J) (k := k) w hG hFu hL
              rw [show k + 103 = kk + 41 by omega] at this
              exact this
            · rename_i I2 h2
              by_cases c8 : ∃ s1, yline t n F s = .inr s1 ∧ s1.1.2.2.1 = 257
              · -- the end
                obtain ⟨s1, e1, e2⟩ := c8
                have hy2 : Sum.inr s1 = Y := by
                  rw [e1] at hy'
                  have : ylp t n F q s1 = Y := hy'
                  rw [← this]
                  cases q with
                  | zero => rfl
                  | succ q => unfold ylp; rw [if_pos e2]
                have hL2 := h2.2
                rw [e1] at hL2
                have cy2 := hL2.yes
                have hr2 := rtk_k hL2.wf hx
                have d2 : I2 43 10 = 0 := by
                  have : I2 43 10 = nI (rtk s1.1.2.2.1) := hL2.1.2.1.2.2.1
                  rw [this, hr2.2.2.2.1.mpr e2]; rfl
                refine sX12_land_76 (P1 := fun _ _ => True) w ?_ ?_ ?_ ?_ <;> intros <;> (first | exact absurd (by with_reducible assumption) cy2 | exact absurd cy2 (by with_reducible assumption) | exact absurd (by with_reducible assumption) d2 | exact absurd d2 (by with_reducible assumption) | skip)
                refine fin I2 (h1.tr h2.1) ?_
                rw [← hy2]; exact hL2
              · refine ih _ I2 (h1.tr h2.1) h2.2 (fun s1 hs1 => ?_) hy'
                obtain ⟨m1, m2⟩ := yline_m hL.wf hx hs1
                have hg1 := m1.g hx
                have := hq s rfl
                have := m2.resolve_left (fun e => c8 ⟨s1, hs1, e⟩)
                omega
    -- all forgotten first
    refine upto (W := fun i I1 => hX12_land_52 l G kk _ (nI i) (I1, J, R, S, nx)) (P := fun i I1 => Fz [45] [] I0 I1 ∧ ∀ j, j < i → I1 45 j = 0) 2380 ?_ ?_ (i := 0) (Nat.zero_le _) ⟨Fz.rf, fun j hj => absurd hj (Nat.not_lt_zero j)⟩
    · intro I1 ⟨hF1, h45⟩
      have d1 : (2380 : Int32) ≤ nI 2380 := by decide
      have hT1 : RT I1 t n := fT.fz hF1 (by decide) (by decide)
      refine sX12_land_52 (P1 := fun I I' => Fz [] [8, 9, 10, 11] I I' ∧ RK I' (ynx t n 0)) w ?_ ?_ ?_ ?_ <;> intros <;> (first | exact absurd (by with_reducible assumption) d1 | exact absurd d1 (by with_reducible assumption) | skip)
      · exact readsOn_r (k := kk + 40) w hT1 (by rw [hF1.2 8 (by decide)]; exact f8) (Nat.zero_le _) (by rw [hF1.2 12 (by decide)]; exact f12)
      · rename_i I2 h2
        refine lines F (.inr (ynx t n 0, fun _ => 0)) I2 (FL.tr (Fz.wk hF1 (by decide) (by decide)) (Fz.wk h2.1 (by decide) (by decide))) ⟨⟨hT1.fz h2.1 (by decide) (by decide), h2.2, 0, Nat.zero_le _, rfl⟩, ?_, ?_, by show 0 ≤ 5; decide, by show 0 ≤ 8; decide⟩ (fun s hs => by omega) ?_
        · intro i hi
          show I2 45 i = nI 0
          rw [h2.1.1 45 (by decide) (by decide)]; exact h45 i hi
        · rw [h2.1.2 16 (by decide), hF1.2 16 (by decide)]; exact f16
        · rw [← hY]; rfl
    · intro i I1 hi ⟨hF1, h45⟩ ih
      have d1 : ¬ (2380 : Int32) ≤ nI i := nI_ge (b := 2380) hi (by decide)
      refine sX12_land_52 (P1 := fun _ _ => True) w ?_ ?_ ?_ ?_ <;> intros <;> (first | exact absurd (by with_reducible assumption) d1 | exact absurd d1 (by with_reducible assumption) | skip)
      · exact vp_in_nI hi (by decide)
      · rw [nI_1, nI_clamp (by omega)]
        refine ih _ ⟨hF1.up (by decide) (by decide), fun j hj => ?_⟩
        by_cases cj : j = i
        · subst cj; simp [up2]
        · simp only [up2, if_true, if_neg cj]; exact h45 j (by omega)
  · have c1 : v_X12_within (Int32.toInt64 x) (0 : Int64) (Int32.toInt64 (I 43 6)) = 0 := by rw [eg]; exact g1
    rw [show aLand κ t tp (I 43 14) (I 43 15) x = ((1, 0), κ, tp, I 43 14, I 43 15) by unfold aLand; rw [if_neg g1]]
    refine Cal.of rfl (by decide +kernel) (by simp) (Nat.le_of_ble_eq_true rfl) rfl (sX12_land_0 w ?_ ?_) <;> intros <;> (first | exact absurd (by with_reducible assumption) c1 | exact absurd c1 (by with_reducible assumption) | skip)
    unfold w_X12_fails
    rw [up2_2]
    refine ⟨rfl, _, rfl, Fz.rf.uf (by decide), by simp [up2]; rfl, hK.up43, ⟨by simp [up2]; exact hT.1, hT.2.1, fun j hj => by simp [up2]; exact hT.2.2.1 j hj, hT.2.2.2⟩, by simp [up2], by simp [up2]⟩
end A
