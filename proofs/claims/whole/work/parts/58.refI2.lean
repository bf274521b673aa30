/-! the reference: acts, laws and lines read -/
def tvn (r : Er ⊕ (Nat × Tok)) : Nat := match r with
  | .inl _ => 0
  | .inr v => v.1
theorem tnv_n (r : Er ⊕ (Nat × Tok)) : tnv 0 r = nI (tvn r) := by cases r <;> rfl
section A
variable {l : Launch} {G : Gh} {k : Nat} {I : Nat → Nat → Int32} {J : Nat → Nat → Int64} {R : Nat → Nat → Option Nat} {S : Nat → Nat × Nat} {nx : Nat} {κ : Nat → Nat} {hb pb : Nat}
variable {t tel : Nat → Nat} {n F : Nat} {m : Bool}
theorem ynum_lt {lo hi v : Nat} {s s' : Tok} (h : ynum t n lo hi s = .inr (v, s')) : lo ≤ v ∧ v < hi ∧ s.2.2.1 = 256 ∧ s' = ynx t n s.1 := by
  unfold ynum at h
  split at h
  · rename_i g1
    split at h
    · rename_i g2
      have := Sum.inr.inj h
      injection this with q1 q2
      exact ⟨by omega, by omega, g1, q2.symm⟩
    · cases h
  · cases h
theorem readAct_r {s : Ln} (w : MW R S nx) (hG : GT G) (h : LX I t n (.inr s)) (h3 : s.1.2.2.1 = 301) : Cal l G (k + 8) 0 0 mX12_readAct [.ref 43] (I, J, R, S, nx) (fun r μ' => r = .inl none ∧ ∃ I', μ' = (I', J, R, S, nx) ∧ FL I I' ∧ LX I' t n (yact t n s)) := by
  have z0 : (0 : Int32) = 0 := rfl
  have z1 : ¬ (1 : Int32) = 0 := by decide
  obtain ⟨hK, h16, hw5, hw8⟩ := h.2
  have hx := h.tx
  have hb := begins_r (l := l) (G := G) (k := k + 5) (J := J) (many := 2) (most := 8) w h (by decide) (by decide) hw8 (by omega)
  obtain ⟨a, ha⟩ : ∃ a, s.2 2 = a := ⟨_, rfl⟩
  by_cases c5 : a = 8
  · rw [show yact t n s = .inl (4, s.1.2.1) by unfold yact; rw [if_pos (by omega)]]
    rw [ha, if_pos c5, if_pos c5] at hb
    refine Cal.of rfl (by decide +kernel) (by simp) (Nat.le_of_ble_eq_true rfl) rfl (sX12_readAct_0 (u1 := 0) (u2 := 0) (u4 := 0) (u6 := 0) (u8 := 0) (P1 := fun I I' => FL I I' ∧ LX I' t n (.inl (4, s.1.2.1))) (P2 := fun _ _ => True) (P3 := fun _ _ => True) (P4 := fun _ _ => True) (P5 := fun _ _ => True) (P6 := fun _ _ => True) (P7 := fun _ _ => True) (P8 := fun _ _ => True) w hb ?_ ?_ ?_ ?_ ?_ ?_ ?_ ?_ ?_ ?_ ?_ ?_ ?_ ?_) <;> intros <;> (first | exact absurd (by with_reducible assumption) z0 | exact absurd z0 (by with_reducible assumption) | skip)
    rename_i I1 h1 _; exact ⟨rfl, _, rfl, h1⟩
  · rw [ha, if_neg c5, if_neg c5] at hb
    obtain ⟨y0, hy0⟩ : ∃ y0 : Er ⊕ Tok, .inr (ynx t n s.1.1) = y0 := ⟨_, rfl⟩
    obtain ⟨r1, hr1⟩ : ∃ r1, xb y0 (ynum t n 0 10) = r1 := ⟨_, rfl⟩
    obtain ⟨y2, hy2⟩ : ∃ y2, xb (tsn r1) (ymust t n 308) = y2 := ⟨_, rfl⟩
    obtain ⟨r3, hr3⟩ : ∃ r3, xb y2 (ynum t n 0 100) = r3 := ⟨_, rfl⟩
    obtain ⟨y4, hy4⟩ : ∃ y4, xb (tsn r3) (ymust t n 309) = y4 := ⟨_, rfl⟩
    obtain ⟨r5, hr5⟩ : ∃ r5, xb y4 (ynum t n (tvn r3) 100) = r5 := ⟨_, rfl⟩
    obtain ⟨y6, hy6⟩ : ∃ y6, xb (tsn r5) (ymust t n 310) = y6 := ⟨_, rfl⟩
    obtain ⟨r7, hr7⟩ : ∃ r7, xb y6 (ynum t n 0 100) = r7 := ⟨_, rfl⟩
    have ev : yact t n s = xb r7 (fun v => .inr (v.2, yta s.2 a (tvn r1) (tvn r3) (tvn r5) v.1)) := by
      unfold yact
      rw [if_neg (by omega), ha]
      rw [show ynum t n 0 10 (ynx t n s.1.1) = r1 by rw [← hr1, ← hy0]; rfl]
      cases r1 with
      | inl e => subst hy2; subst hr3; subst hy4; subst hr5; subst hy6; subst hr7; rfl
      | inr v1 =>
        show xb (ymust t n 308 v1.2) _ = _
        rw [show ymust t n 308 v1.2 = y2 from hy2]
        cases y2 with
        | inl e => subst hr3; subst hy4; subst hr5; subst hy6; subst hr7; rfl
        | inr s2 =>
          show xb (ynum t n 0 100 s2) _ = _
          rw [show ynum t n 0 100 s2 = r3 from hr3]
          cases r3 with
          | inl e => subst hy4; subst hr5; subst hy6; subst hr7; rfl
          | inr v3 =>
            show xb (ymust t n 309 v3.2) _ = _
            rw [show ymust t n 309 v3.2 = y4 from hy4]
            cases y4 with
            | inl e => subst hr5; subst hy6; subst hr7; rfl
            | inr s4 =>
              show xb (ynum t n v3.1 100 s4) _ = _
              rw [show ynum t n v3.1 100 s4 = r5 from hr5]
              cases r5 with
              | inl e => subst hy6; subst hr7; rfl
              | inr v5 =>
                show xb (ymust t n 310 v5.2) _ = _
                rw [show ymust t n 310 v5.2 = y6 from hy6]
                cases y6 with
                | inl e => subst hr7; rfl
                | inr s6 =>
                  show xb (ynum t n 0 100 s6) _ = _
                  rw [show ynum t n 0 100 s6 = r7 from hr7]
                  rfl
    have l3 : tvn r3 < 1000 := by
      cases r3 with
      | inl e => show 0 < 1000; decide
      | inr v =>
        cases y2 with
        | inl e => cases hr3
        | inr s2 => have := (ynum_lt (v := v.1) (s' := v.2) hr3).2.1; show v.1 < 1000; omega
    have num : ∀ (I1 : Nat → Nat → Int32) (y : Er ⊕ Tok) (lo hi : Nat) (z : Int32), PX I1 t n y → lo < 1000 → hi ≤ 1000 → z.toInt = (hi : Int) - 1 → Cal l G (k + 7) 0 0 mX12_number [.ref 43, .int (nI lo), .int z] (I1, J, R, S, nx) (fun r μ' => r = .inl (some (.int (tnv lo (xb y (ynum t n lo hi))))) ∧ ∃ I', μ' = (I', J, R, S, nx) ∧ FK I1 I' ∧ PX I' t n (tsn (xb y (ynum t n lo hi)))) := fun I1 y lo hi z h1 h2 h3 h4 => number_r (k := k + 5) w h1 h2 h3 h4
    have wrd : ∀ (I1 : Nat → Nat → Int32) (y : Er ⊕ Tok) (si : Nat), PX I1 t n y → (14 ≤ si ∧ si < 35) → Cal l G (k + 7) 0 0 mX12_mustWord [.ref 43, .retAddr si] (I1, J, R, S, nx) (fun r μ' => r = .inl none ∧ ∃ I', μ' = (I', J, R, S, nx) ∧ FK I1 I' ∧ PX I' t n (xb y (ymust t n (300 + wno si)))) := fun I1 y si h1 h2 => mustWord_r w hG h1 h2
    rw [ev]
    refine Cal.of rfl (by decide +kernel) (by simp) (Nat.le_of_ble_eq_true rfl) rfl (sX12_readAct_0 (u1 := 1) (u2 := tnv 0 r1) (u4 := tnv 0 r3) (u6 := tnv (tvn r3) r5) (u8 := tnv 0 r7) (P1 := fun I I' => FL I I' ∧ LX I' t n (.inr (ynx t n s.1.1, s.2))) (P2 := fun I I' => FK I I' ∧ PX I' t n (tsn r1)) (P3 := fun I I' => FK I I' ∧ PX I' t n y2) (P4 := fun I I' => FK I I' ∧ PX I' t n (tsn r3)) (P5 := fun I I' => FK I I' ∧ PX I' t n y4) (P6 := fun I I' => FK I I' ∧ PX I' t n (tsn r5)) (P7 := fun I I' => FK I I' ∧ PX I' t n y6) (P8 := fun I I' => FK I I' ∧ PX I' t n (tsn r7)) w hb ?_ ?_ ?_ ?_ ?_ ?_ ?_ ?_ ?_ ?_ ?_ ?_ ?_ ?_) <;> intros <;> (first | exact absurd (by with_reducible assumption) z1 | exact absurd z1 (by with_reducible assumption) | skip)
    · rename_i I1 h1 _
      have h1' : PX I1 t n y0 := by rw [← hy0]; exact h1.2.1
      have := num I1 y0 0 10 9 h1' (by decide) (by decide) (by decide)
      rw [hr1] at this; exact this
    · rename_i I1 h1 _ I2 h2
      have := wrd I2 _ 17 h2.2 (by decide)
      rw [show 300 + wno 17 = 308 from rfl, hy2] at this; exact this
    · rename_i I1 h1 _ I2 h2 I3 h3
      have := num I3 y2 0 100 99 h3.2 (by decide) (by decide) (by decide)
      rw [hr3] at this; exact this
    · rename_i I1 h1 _ I2 h2 I3 h3 I4 h4
      have := wrd I4 _ 18 h4.2 (by decide)
      rw [show 300 + wno 18 = 309 from rfl, hy4] at this; exact this
    · rename_i I1 h1 _ I2 h2 I3 h3 I4 h4 I5 h5
      have := num I5 y4 (tvn r3) 100 99 h5.2 l3 (by decide) (by decide)
      rw [hr5] at this
      rw [tnv_n r3]; exact this
    · rename_i I1 h1 _ I2 h2 I3 h3 I4 h4 I5 h5 I6 h6
      have := wrd I6 _ 19 h6.2 (by decide)
      rw [show 300 + wno 19 = 310 from rfl, hy6] at this; exact this
    · rename_i I1 h1 _ I2 h2 I3 h3 I4 h4 I5 h5 I6 h6 I7 h7
      have := num I7 y6 0 100 99 h7.2 (by decide) (by decide) (by decide)
      rw [hr7] at this; exact this
    · rename_i I1 h1 _ I2 h2 I3 h3 I4 h4 I5 h5 I6 h6 I7 h7 I8 h8 _
      rw [h1.2.2.1 2 (by decide)]
      show vp_in ((66 : Int32) + nI (s.2 2)) 2380
      rw [ha, show (66 : Int32) + nI a = nI (66 + a) from nI_add 66 a]; exact vp_in_nI (by omega) (by decide)
    · rename_i I1 h1 _ I2 h2 I3 h3 I4 h4 I5 h5 I6 h6 I7 h7 I8 h8 _
      rw [h1.2.2.1 2 (by decide)]
      show vp_in ((37 : Int32) + nI (s.2 2)) 2380
      rw [ha, show (37 : Int32) + nI a = nI (37 + a) from nI_add 37 a]; exact vp_in_nI (by omega) (by decide)
    · rename_i I1 h1 _ I2 h2 I3 h3 I4 h4 I5 h5 I6 h6 I7 h7 I8 h8 _
      rw [h1.2.2.1 2 (by decide)]
      show vp_in ((45 : Int32) + nI (s.2 2)) 2380
      rw [ha, show (45 : Int32) + nI a = nI (45 + a) from nI_add 45 a]; exact vp_in_nI (by omega) (by decide)
    · rename_i I1 h1 _ I2 h2 I3 h3 I4 h4 I5 h5 I6 h6 I7 h7 I8 h8 _
      rw [h1.2.2.1 2 (by decide)]
      show vp_in ((74 : Int32) + nI (s.2 2)) 2380
      rw [ha, show (74 : Int32) + nI a = nI (74 + a) from nI_add 74 a]; exact vp_in_nI (by omega) (by decide)
    · rename_i I1 h1 _ I2 h2 I3 h3 I4 h4 I5 h5 I6 h6 I7 h7 I8 h8 hbad
      have hall : FK I1 I8 := (((((h2.1.tr h3.1).tr h4.1).tr h5.1).tr h6.1).tr h7.1).tr h8.1
      have e2 : I1 45 2 = nI a := by rw [h1.2.2.1 2 (by decide)]; show nI (s.2 2) = _; rw [ha]
      -- none was at fault
      cases r7 with
      | inl e => exact absurd hbad h8.2.no
      | inr v7 =>
        cases r5 with
        | inl e => subst hy6; cases hr7
        | inr v5 =>
          have k8 : KT I8 s.2 := h1.2.2.1.fz hall (by decide)
          rw [e2, show (66 : Int32) + nI a = nI (66 + a) from nI_add 66 a, show (37 : Int32) + nI a = nI (37 + a) from nI_add 37 a, show (45 : Int32) + nI a = nI (45 + a) from nI_add 45 a, show (74 : Int32) + nI a = nI (74 + a) from nI_add 74 a, nI_clamp (by omega), nI_clamp (by omega), nI_clamp (by omega), nI_clamp (by omega), tnv_n r1, tnv_n r3]
          have g8 : ∀ I9 : Nat → Nat → Int32, I9 = up2 (up2 (up2 (up2 I8 45 (66 + a) (nI (tvn r1))) 45 (37 + a) (nI (tvn r3))) 45 (45 + a) (tnv (tvn r3) (.inr v5))) 45 (74 + a) (tnv 0 (.inr v7)) → Fz [45] [] I8 I9 ∧ KT I9 (qset (qset (qset (qset s.2 (66 + a) (tvn r1)) (37 + a) (tvn r3)) (45 + a) v5.1) (74 + a) v7.1) ∧ I9 45 2 = nI a := by
            intro I9 e9
            subst e9
            refine ⟨(((Fz.rf.up (by decide) (by decide)).up (by decide) (by decide)).up (by decide) (by decide)).up (by decide) (by decide), up45 (up45 (up45 (up45 k8))), ?_⟩
            have n1 : 2 ≠ 74 + a := by omega
            have n2 : 2 ≠ 45 + a := by omega
            have n3 : 2 ≠ 37 + a := by omega
            have n4 : 2 ≠ 66 + a := by omega
            simp only [up2, if_true, if_neg n1, if_neg n2, if_neg n3, if_neg n4]
            rw [k8 2 (by decide), ha]
          obtain ⟨q1, q2, q3⟩ := g8 _ rfl
          rw [q3, nI_1]
          have hF9 : Fz [45] [] I8 _ := q1.up (a := 45) (i := 2) (v := nI (a + 1)) (by decide) (by decide)
          refine ⟨rfl, _, rfl, (h1.1.tr (FL.ok hall)).tr (Fz.wk hF9 (by decide) (by decide)), h8.2.fz hF9 (by decide) (by decide), ?_, ?_, ?_, ?_⟩
          · exact up45 q2
          · rw [hF9.2 16 (by decide), hall.2 16 (by decide)]; exact h1.2.2.2.1
          · show yta s.2 a (tvn r1) (tvn r3) v5.1 v7.1 1 ≤ 5
            unfold yta qset
            rw [if_neg (by decide), if_neg (by omega), if_neg (by omega), if_neg (by omega), if_neg (by omega)]; exact hw5
          · show yta s.2 a (tvn r1) (tvn r3) v5.1 v7.1 2 ≤ 8
            unfold yta qset
            rw [if_pos rfl]; omega
    · rename_i I1 h1 _ I2 h2 I3 h3 I4 h4 I5 h5 I6 h6 I7 h7 I8 h8 hbad
      have hall : FK I1 I8 := (((((h2.1.tr h3.1).tr h4.1).tr h5.1).tr h6.1).tr h7.1).tr h8.1
      cases r7 with
      | inr v => exact absurd h8.2.yes hbad
      | inl e => exact ⟨rfl, _, rfl, h1.1.tr (FL.ok hall), h8.2, trivial⟩
/-- a line's end -/
def ystop (t : Nat → Nat) (n : Nat) (s1 : Ln) : Er ⊕ Ln := xb (ymust t n 59 s1.1) (fun s2 => .inr (s2, qset s1.2 0 (s1.2 0 + 1)))
theorem readStop_r {x : Er ⊕ Ln} (w : MW R S nx) (h : LX I t n x) : Cal l G (k + 3) 0 0 mX12_readStop [.ref 43] (I, J, R, S, nx) (fun r μ' => r = .inl none ∧ ∃ I', μ' = (I', J, R, S, nx) ∧ FL I I' ∧ LX I' t n (xb x (ystop t n))) := by
  refine Cal.of rfl (by decide +kernel) (by simp) (Nat.le_of_ble_eq_true rfl) rfl (sX12_readStop_0 (P1 := fun I I' => FK I I' ∧ PX I' t n (xb (lt1 x) (ymust t n 59))) w (mustSign_r (c := 59) w h.1 (by decide) (by decide)) ?_ ?_)
  · intro I1 h1 hb
    refine ⟨rfl, _, rfl, FL.ok h1.1, ?_⟩
    cases x with
    | inl e => exact ⟨h1.2, trivial⟩
    | inr s =>
      have h2 : PX I1 t n (ymust t n 59 s.1) := h1.2
      show LX I1 t n (ystop t n s)
      unfold ystop
      cases hq : ymust t n 59 s.1 with
      | inl e => rw [hq] at h2; exact ⟨h2, trivial⟩
      | inr s2 => rw [hq] at h2; exact absurd h2.yes hb
  · intro I1 h1 hb
    cases x with
    | inl e => exact absurd hb (PX.no h1.2)
    | inr s =>
      have h2 : PX I1 t n (ymust t n 59 s.1) := h1.2
      cases hq : ymust t n 59 s.1 with
      | inl e => rw [hq] at h2; exact absurd hb h2.no
      | inr s2 =>
        rw [hq] at h2
        have k1 : KT I1 s.2 := h.2.1.fz h1.1 (by decide)
        rw [k1 0 (by decide), nI_1]
        have hF : Fz [45] [] I1 (up2 I1 45 0 (nI (s.2 0 + 1))) := Fz.rf.up (by decide) (by decide)
        refine ⟨rfl, _, rfl, (FL.ok h1.1).tr (Fz.wk hF (by decide) (by decide)), ?_⟩
        show LX _ t n (ystop t n s)
        unfold ystop
        rw [hq]
        refine ⟨h2.fz hF (by decide) (by decide), up45 k1, by rw [hF.2 16 (by decide), h1.1.2 16 (by decide)]; exact h.2.2.1, ?_, ?_⟩
        · show qset s.2 0 (s.2 0 + 1) 1 ≤ 5
          unfold qset; rw [if_neg (by decide)]; exact h.2.2.2.1
        · show qset s.2 0 (s.2 0 + 1) 2 ≤ 8
          unfold qset; rw [if_neg (by decide)]; exact h.2.2.2.2
/-- a law, from its word on: the word was taken -/
theorem beginsLaw_r {s : Ln} (w : MW R S nx) (m : Bool) (h : LX I t n (.inr s)) : Cal l G (k + 3) 0 0 mX12_beginsLaw [.ref 43, .int (nI (mN m)), .int (nI (mA m))] (I, J, R, S, nx) (fun r μ' => r = .inl none ∧ ∃ I', μ' = (I', J, R, S, nx) ∧ FL I I' ∧ EX I' t n m s.2 0 (xb (ymust t n 58 s.1) (fun s1 => .inr (s1, []))) ∧ (s.2 1 ≤ 5 ∧ s.2 2 ≤ 8)) := by
  have hmn : mN m = 3 ∨ mN m = 4 := by cases m <;> simp [mN]
  have hF : Fz [45] [17, 18] I (up2 (up2 (up2 I 43 17 (nI (mN m))) 43 18 (nI (mA m))) 45 (nI (mN m)).toNatClampNeg (0 : Int32)) := ((Fz.rf.uf (by decide)).uf (by decide)).up (by decide) (by decide)
  have hP : PX _ t n (.inr s.1) := h.1.fz hF (by decide) (by decide)
  refine Cal.of rfl (by decide +kernel) (by simp) (Nat.le_of_ble_eq_true rfl) rfl (sX12_beginsLaw_0 (P1 := fun I I' => FK I I' ∧ PX I' t n (ymust t n 58 s.1)) w (vp_in_nI (by omega) (by decide)) (mustSign_r (c := 58) (x := .inr s.1) w hP (by decide) (by decide)) (fun I1 h1 => ?_))
  refine ⟨rfl, _, rfl, FL.tr (Fz.wk hF (by decide) (by decide)) (FL.ok h1.1), ⟨?_, ⟨?_, ?_⟩, ?_⟩, h.2.2.2⟩
  · have := h1.2
    cases hq : ymust t n 58 s.1 with
    | inl e => rw [hq] at this; exact this
    | inr s1 => rw [hq] at this; exact this
  · rw [h1.1.2 17 (by decide)]; simp [up2]
  · rw [h1.1.2 18 (by decide)]; simp [up2]
  · cases hq : ymust t n 58 s.1 with
    | inl e => trivial
    | inr s1 =>
      refine ⟨fun i hi => ?_, Nat.zero_le _, ?_⟩
      · rw [h1.1.1 45 (by decide) (by decide), nI_clamp (by omega)]
        show up2 (up2 (up2 I 43 17 (nI (mN m))) 43 18 (nI (mA m))) 45 (mN m) (0 : Int32) 45 i = nI (ylw s.2 (mN m) (mA m) [] i)
        unfold ylw
        by_cases c : i = mN m
        · rw [if_pos c]; simp [up2, c]; rfl
        · rw [if_neg c, if_neg (by simp)]; simp [up2, c]; exact h.2.1 i hi
      · rw [h1.1.2 16 (by decide), hF.2 16 (by decide)]; exact h.2.2.1
/-- from what was read of a law to a line -/
theorem law_ln {x : Er ⊕ Ex} {f : Nat → Nat} (h : EX I t n m f 0 x) (h1 : f 1 ≤ 5) (h2 : f 2 ≤ 8) : LX I t n (xb x (fun e => .inr (e.1, ylw f (mN m) (mA m) e.2))) := by
  have hmn : mN m = 3 ∨ mN m = 4 := by cases m <;> simp [mN]
  have hma : mA m = 572 ∨ mA m = 1472 := by cases m <;> simp [mA]
  cases x with
  | inl e => exact ⟨h.1, trivial⟩
  | inr s =>
    refine ⟨h.1, h.2.2.1, h.2.2.2.2, ?_, ?_⟩
    · show ylw f (mN m) (mA m) s.2 1 ≤ 5
      unfold ylw; rw [if_neg (by omega), if_neg (by omega)]; exact h1
    · show ylw f (mN m) (mA m) s.2 2 ≤ 8
      unfold ylw; rw [if_neg (by omega), if_neg (by omega)]; exact h2
theorem FE.fl {I1 : Nat → Nat → Int32} (h : FE I I1) : FL I I1 := Fz.wk h (by decide) (by decide)
end A
