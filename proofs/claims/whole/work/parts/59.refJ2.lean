/-! the reference: a land read, bytes fed -/
section A
variable {l : Launch} {G : Gh} {k : Nat} {I : Nat → Nat → Int32} {J : Nat → Nat → Int64} {R : Nat → Nat → Option Nat} {S : Nat → Nat × Nat} {nx : Nat} {κ : Nat → Nat} {hb pb : Nat}
variable {t tel : Nat → Nat} {n F : Nat} {m : Bool}
theorem lx_ad {I' : Nat → Nat → Int32} {s : Ln} (h : LX I t n (.inr s)) (hF : FK I I') (hP : PX I' t n (.inr (ynx t n s.1.1))) : LX I' t n (.inr (ynx t n s.1.1, s.2)) := h.tk hF hP (fun s' hs => by obtain rfl := Sum.inr.inj hs; exact ⟨s, rfl, rfl⟩)
theorem lx_st {I' : Nat → Nat → Int32} {s : Ln} (h : LX I t n (.inr s)) (hF : FK I I') (hP : PX I' t n (.inr s.1)) : LX I' t n (.inr s) := h.tk hF hP (fun s' hs => by obtain rfl := Sum.inr.inj hs; exact ⟨s, rfl, rfl⟩)
theorem lx_up {s1 : Tok} {f : Nat → Nat} {i v : Nat} (h : LX I t n (.inr (s1, f))) (hi : i ≠ 1 ∧ i ≠ 2) : FL I (up2 I 45 i (nI v)) ∧ LX (up2 I 45 i (nI v)) t n (.inr (s1, qset f i v)) := by
  have hF : Fz [45] [] I (up2 I 45 i (nI v)) := Fz.rf.up (by decide) (by decide)
  refine ⟨Fz.wk hF (by decide) (by decide), h.1.fz hF (by decide) (by decide), up45 h.2.1, by rw [hF.2 16 (by decide)]; exact h.2.2.1, ?_, ?_⟩
  · show qset f i v 1 ≤ 5
    unfold qset; rw [if_neg (Ne.symm hi.1)]; exact h.2.2.2.1
  · show qset f i v 2 ≤ 8
    unfold qset; rw [if_neg (Ne.symm hi.2)]; exact h.2.2.2.2
theorem yline_e (s : Ln) : yline t n F s = xb (yone t n F s) (ystop t n) := rfl
theorem readLine_r {s : Ln} (w : MW R S nx) (hG : GT G) (hFu : n < F) (h : LX I t n (.inr s)) : Cal l G (k + 103) 0 0 mX12_readLine [.ref 43] (I, J, R, S, nx) (fun r μ' => r = .inl none ∧ ∃ I', μ' = (I', J, R, S, nx) ∧ FL I I' ∧ LX I' t n (yline t n F s)) := by
  have z0 : (0 : Int32) = 0 := rfl
  have z1 : ¬ (1 : Int32) = 0 := by decide
  have hx := h.tx
  rw [show k + 103 = (k + 62) + 41 by omega]
  obtain ⟨kk, hkk⟩ : ∃ kk, k + 62 = kk := ⟨_, rfl⟩
  rw [hkk]
  have isw : ∀ (I1 : Nat → Nat → Int32) (si c : Nat), LX I1 t n (.inr s) → 14 ≤ si ∧ si < 35 → 300 + wno si = c → ∀ v : Int32, (v = if s.1.2.2.1 = c then 1 else 0) → Cal l G (kk + 40) 0 0 mX12_isWord [.ref 43, .retAddr si] (I1, J, R, S, nx) (fun r μ' => r = .inl (some (.int v)) ∧ ∃ I', μ' = (I', J, R, S, nx) ∧ I' = I1) := by
    intro I1 si c h1 hsi hc v hv
    have := isWord_r (l := l) (k := kk + 35) (J := J) (x := .inr s.1) w hG h1.1 hsi
    rw [hc] at this
    rw [hv]
    by_cases e : s.1.2.2.1 = c
    · rw [if_pos e]; rw [show tis c (.inr s.1) = true from decide_eq_true_eq.mpr e] at this; exact this
    · rw [if_neg e]; rw [show tis c (.inr s.1) = false from decide_eq_false_iff_not.mpr e] at this; exact this
  have tkn : ∀ (I1 : Nat → Nat → Int32) (si c : Nat), PX I1 t n (.inr s.1) → 14 ≤ si ∧ si < 35 → 300 + wno si = c → s.1.2.2.1 ≠ c → Cal l G (kk + 40) 0 0 mX12_took [.ref 43, .retAddr si] (I1, J, R, S, nx) (fun r μ' => r = .inl (some (.int (0 : Int32))) ∧ ∃ I', μ' = (I', J, R, S, nx) ∧ FK I1 I' ∧ PX I' t n (.inr s.1)) := fun I1 si c h1 hsi hc hne => took_n (k := kk + 34) w hG h1 hsi (by rw [hc]; exact hne)
  have tky : ∀ (I1 : Nat → Nat → Int32) (si c : Nat), PX I1 t n (.inr s.1) → 14 ≤ si ∧ si < 35 → 300 + wno si = c → s.1.2.2.1 = c → Cal l G (kk + 40) 0 0 mX12_took [.ref 43, .retAddr si] (I1, J, R, S, nx) (fun r μ' => r = .inl (some (.int (1 : Int32))) ∧ ∃ I', μ' = (I', J, R, S, nx) ∧ FK I1 I' ∧ PX I' t n (.inr (ynx t n s.1.1))) := fun I1 si c h1 hsi hc he => took_y (k := kk + 34) w hG h1 hsi (by rw [hc]; exact he)
  have stop : ∀ (I1 : Nat → Nat → Int32) (x : Er ⊕ Ln), LX I1 t n x → Cal l G (kk + 40) 0 0 mX12_readStop [.ref 43] (I1, J, R, S, nx) (fun r μ' => r = .inl none ∧ ∃ I', μ' = (I', J, R, S, nx) ∧ FL I1 I' ∧ LX I' t n (xb x (ystop t n))) := fun I1 x h1 => readStop_r (k := kk + 37) w h1
  rw [yline_e]
  by_cases c1 : s.1.2.2.1 = 300
  · rw [show yone t n F s = yward t n F s by unfold yone; rw [if_pos c1]]
    refine Cal.of rfl (by decide +kernel) (by simp) (Nat.le_of_ble_eq_true rfl) rfl (sX12_readLine_0 (k := kk) (u1 := 1) (u2 := 0) (u3 := 0) (u4 := 0) (u5 := 0) (u6 := 0) (u7 := 0) (u15 := 0) (P1 := fun I I' => I' = I) (P2 := fun I I' => True) (P3 := fun I I' => True) (P4 := fun I I' => True) (P5 := fun I I' => True) (P6 := fun I I' => True) (P7 := fun I I' => True) (P8 := fun I I' => True) (P9 := fun I I' => True) (P10 := fun I I' => True) (P11 := fun I I' => True) (P12 := fun I I' => True) (P13 := fun I I' => True) (P14 := fun I I' => True) (P15 := fun I I' => True) (P16 := fun I I' => True) (P17 := fun I I' => True) (P18 := fun I I' => True) (P19 := fun I I' => True) (P20 := fun I I' => True) (P21 := fun I I' => FL I I' ∧ LX I' t n (yward t n F s)) (P22 := fun I I' => FL I I' ∧ LX I' t n (xb (yward t n F s) (ystop t n))) w ?_ ?_ ?_ ?_ ?_ ?_ ?_ ?_ ?_ ?_ ?_ ?_ ?_ ?_ ?_ ?_ ?_ ?_ ?_ ?_ ?_ ?_ ?_ ?_ ?_ ?_ ?_ ?_ ?_ ?_) <;> intros <;> (first | exact absurd (by with_reducible assumption) z1 | exact absurd z1 (by with_reducible assumption) | exact absurd (by with_reducible assumption) z0 | exact absurd z0 (by with_reducible assumption) | skip)
    · exact isw _ 14 300 h (by decide) rfl _ (by rw [if_pos c1])
    · rename_i I1 h1 _; subst h1; exact readWard_r (k := kk + 33) w hG hFu h c1
    · rename_i I1 h1 _ I2 h2; exact stop _ _ h2.2
    · rename_i I1 h1 _ I2 h2 I3 h3; subst h1; exact ⟨rfl, _, rfl, h2.1.tr h3.1, h3.2⟩
  · by_cases c2 : s.1.2.2.1 = 301
    · rw [show yone t n F s = yact t n s by unfold yone; rw [if_neg c1, if_pos c2]]
      refine Cal.of rfl (by decide +kernel) (by simp) (Nat.le_of_ble_eq_true rfl) rfl (sX12_readLine_0 (k := kk) (u1 := 0) (u2 := 1) (u3 := 0) (u4 := 0) (u5 := 0) (u6 := 0) (u7 := 0) (u15 := 0) (P1 := fun I I' => I' = I) (P2 := fun I I' => I' = I) (P3 := fun I I' => True) (P4 := fun I I' => True) (P5 := fun I I' => True) (P6 := fun I I' => True) (P7 := fun I I' => True) (P8 := fun I I' => True) (P9 := fun I I' => True) (P10 := fun I I' => True) (P11 := fun I I' => True) (P12 := fun I I' => True) (P13 := fun I I' => True) (P14 := fun I I' => True) (P15 := fun I I' => True) (P16 := fun I I' => True) (P17 := fun I I' => True) (P18 := fun I I' => True) (P19 := fun I I' => FL I I' ∧ LX I' t n (yact t n s)) (P20 := fun I I' => FL I I' ∧ LX I' t n (xb (yact t n s) (ystop t n))) (P21 := fun I I' => True) (P22 := fun I I' => True) w ?_ ?_ ?_ ?_ ?_ ?_ ?_ ?_ ?_ ?_ ?_ ?_ ?_ ?_ ?_ ?_ ?_ ?_ ?_ ?_ ?_ ?_ ?_ ?_ ?_ ?_ ?_ ?_ ?_ ?_) <;> intros <;> (first | exact absurd (by with_reducible assumption) z1 | exact absurd z1 (by with_reducible assumption) | exact absurd (by with_reducible assumption) z0 | exact absurd z0 (by with_reducible assumption) | skip)
      · exact isw _ 14 300 h (by decide) rfl _ (by rw [if_neg c1])
      · rename_i I1 h1 _; subst h1; exact isw _ 16 301 h (by decide) rfl _ (by rw [if_pos c2])
      · rename_i I1 h1 _ I2 h2 _; subst h1; subst h2; exact readAct_r (k := kk + 32) w hG h c2
      · rename_i I1 h1 _ I2 h2 _ I3 h3; exact stop _ _ h3.2
      · rename_i I1 h1 _ I2 h2 _ I3 h3 I4 h4; subst h1; subst h2; exact ⟨rfl, _, rfl, h3.1.tr h4.1, h4.2⟩
    · by_cases c3 : s.1.2.2.1 = 304
      · rw [show yone t n F s = .inr (ynx t n s.1.1, qset s.2 6 1) by unfold yone; rw [if_neg c1, if_neg c2, if_pos c3]]
        refine Cal.of rfl (by decide +kernel) (by simp) (Nat.le_of_ble_eq_true rfl) rfl (sX12_readLine_0 (k := kk) (u1 := 0) (u2 := 0) (u3 := 1) (u4 := 0) (u5 := 0) (u6 := 0) (u7 := 0) (u15 := 0) (P1 := fun I I' => I' = I) (P2 := fun I I' => I' = I) (P3 := fun I I' => FK I I' ∧ PX I' t n (.inr (ynx t n s.1.1))) (P4 := fun I I' => True) (P5 := fun I I' => True) (P6 := fun I I' => True) (P7 := fun I I' => True) (P8 := fun I I' => True) (P9 := fun I I' => True) (P10 := fun I I' => True) (P11 := fun I I' => True) (P12 := fun I I' => True) (P13 := fun I I' => True) (P14 := fun I I' => True) (P15 := fun I I' => True) (P16 := fun I I' => True) (P17 := fun I I' => True) (P18 := fun I I' => FL I I' ∧ LX I' t n (xb (.inr (ynx t n s.1.1, qset s.2 6 1)) (ystop t n))) (P19 := fun I I' => True) (P20 := fun I I' => True) (P21 := fun I I' => True) (P22 := fun I I' => True) w ?_ ?_ ?_ ?_ ?_ ?_ ?_ ?_ ?_ ?_ ?_ ?_ ?_ ?_ ?_ ?_ ?_ ?_ ?_ ?_ ?_ ?_ ?_ ?_ ?_ ?_ ?_ ?_ ?_ ?_) <;> intros <;> (first | exact absurd (by with_reducible assumption) z1 | exact absurd z1 (by with_reducible assumption) | exact absurd (by with_reducible assumption) z0 | exact absurd z0 (by with_reducible assumption) | skip)
        · exact isw _ 14 300 h (by decide) rfl _ (by rw [if_neg c1])
        · rename_i I1 h1 _; subst h1; exact isw _ 16 301 h (by decide) rfl _ (by rw [if_neg c2])
        · rename_i I1 h1 _ I2 h2 _; subst h1; subst h2; exact tky _ 20 304 h.1 (by decide) rfl c3
        · rename_i I1 h1 _ I2 h2 _ I3 h3 _; subst h1; subst h2; exact stop _ _ (lx_up (i := 6) (v := 1) (lx_ad h (h3.1) h3.2) (by decide)).2
        · rename_i I1 h1 _ I2 h2 _ I3 h3 _ I9 h9; subst h1; subst h2; exact ⟨rfl, _, rfl, ((FL.ok (h3.1)).tr (lx_up (i := 6) (v := 1) (lx_ad h (h3.1) h3.2) (by decide)).1).tr h9.1, h9.2⟩
      · by_cases c4 : s.1.2.2.1 = 305
        · rw [show yone t n F s = .inr (ynx t n s.1.1, qset s.2 6 0) by unfold yone; rw [if_neg c1, if_neg c2, if_neg c3, if_pos c4]]
          refine Cal.of rfl (by decide +kernel) (by simp) (Nat.le_of_ble_eq_true rfl) rfl (sX12_readLine_0 (k := kk) (u1 := 0) (u2 := 0) (u3 := 0) (u4 := 1) (u5 := 0) (u6 := 0) (u7 := 0) (u15 := 0) (P1 := fun I I' => I' = I) (P2 := fun I I' => I' = I) (P3 := fun I I' => FK I I' ∧ PX I' t n (.inr s.1)) (P4 := fun I I' => FK I I' ∧ PX I' t n (.inr (ynx t n s.1.1))) (P5 := fun I I' => True) (P6 := fun I I' => True) (P7 := fun I I' => True) (P8 := fun I I' => True) (P9 := fun I I' => True) (P10 := fun I I' => True) (P11 := fun I I' => True) (P12 := fun I I' => True) (P13 := fun I I' => True) (P14 := fun I I' => True) (P15 := fun I I' => True) (P16 := fun I I' => True) (P17 := fun I I' => FL I I' ∧ LX I' t n (xb (.inr (ynx t n s.1.1, qset s.2 6 0)) (ystop t n))) (P18 := fun I I' => True) (P19 := fun I I' => True) (P20 := fun I I' => True) (P21 := fun I I' => True) (P22 := fun I I' => True) w ?_ ?_ ?_ ?_ ?_ ?_ ?_ ?_ ?_ ?_ ?_ ?_ ?_ ?_ ?_ ?_ ?_ ?_ ?_ ?_ ?_ ?_ ?_ ?_ ?_ ?_ ?_ ?_ ?_ ?_) <;> intros <;> (first | exact absurd (by with_reducible assumption) z1 | exact absurd z1 (by with_reducible assumption) | exact absurd (by with_reducible assumption) z0 | exact absurd z0 (by with_reducible assumption) | skip)
          · exact isw _ 14 300 h (by decide) rfl _ (by rw [if_neg c1])
          · rename_i I1 h1 _; subst h1; exact isw _ 16 301 h (by decide) rfl _ (by rw [if_neg c2])
          · rename_i I1 h1 _ I2 h2 _; subst h1; subst h2; exact tkn _ 20 304 h.1 (by decide) rfl c3
          · rename_i I1 h1 _ I2 h2 _ I3 h3 _; subst h1; subst h2; exact tky _ 21 305 h3.2 (by decide) rfl c4
          · rename_i I1 h1 _ I2 h2 _ I3 h3 _ I4 h4 _; subst h1; subst h2; exact stop _ _ (lx_up (i := 6) (v := 0) (lx_ad h ((h3.1).tr h4.1) h4.2) (by decide)).2
          · rename_i I1 h1 _ I2 h2 _ I3 h3 _ I4 h4 _ I9 h9; subst h1; subst h2; exact ⟨rfl, _, rfl, ((FL.ok ((h3.1).tr h4.1)).tr (lx_up (i := 6) (v := 0) (lx_ad h ((h3.1).tr h4.1) h4.2) (by decide)).1).tr h9.1, h9.2⟩
        · by_cases c5 : s.1.2.2.1 = 306
          · rw [show yone t n F s = xb (ynum t n 0 1000 (ynx t n s.1.1)) (fun r => .inr (r.2, qset s.2 54 r.1)) by unfold yone; rw [if_neg c1, if_neg c2, if_neg c3, if_neg c4, if_pos c5]]
            obtain ⟨r, hr⟩ : ∃ r, ynum t n 0 1000 (ynx t n s.1.1) = r := ⟨_, rfl⟩
            rw [hr]
            have lx : ∀ I5 I6 : Nat → Nat → Int32, FK I I5 → FK I5 I6 → PX I6 t n (tsn r) → FL I6 (up2 I6 45 54 (tnv 0 r)) ∧ LX (up2 I6 45 54 (tnv 0 r)) t n (xb r (fun r => .inr (r.2, qset s.2 54 r.1))) := by
              intro I5 I6 h5 h6 h7
              have hF : Fz [45] [] I6 (up2 I6 45 54 (tnv 0 r)) := Fz.rf.up (by decide) (by decide)
              cases r with
              | inl e => exact ⟨Fz.wk hF (by decide) (by decide), h7.fz hF (by decide) (by decide), trivial⟩
              | inr v =>
                have h8 : LX I6 t n (.inr (v.2, s.2)) := h.tk (h5.tr h6) h7 (fun s' hs => by obtain rfl := Sum.inr.inj hs; exact ⟨s, rfl, rfl⟩)
                exact lx_up (i := 54) (v := v.1) h8 (by decide)
            refine Cal.of rfl (by decide +kernel) (by simp) (Nat.le_of_ble_eq_true rfl) rfl (sX12_readLine_0 (k := kk) (u1 := 0) (u2 := 0) (u3 := 0) (u4 := 0) (u5 := 1) (u6 := 0) (u7 := 0) (u15 := tnv 0 r) (P1 := fun I I' => I' = I) (P2 := fun I I' => I' = I) (P3 := fun I I' => FK I I' ∧ PX I' t n (.inr s.1)) (P4 := fun I I' => FK I I' ∧ PX I' t n (.inr s.1)) (P5 := fun I I' => FK I I' ∧ PX I' t n (.inr (ynx t n s.1.1))) (P6 := fun I I' => True) (P7 := fun I I' => True) (P8 := fun I I' => True) (P9 := fun I I' => True) (P10 := fun I I' => True) (P11 := fun I I' => True) (P12 := fun I I' => True) (P13 := fun I I' => True) (P14 := fun I I' => True) (P15 := fun I I' => FK I I' ∧ PX I' t n (tsn r)) (P16 := fun I I' => FL I I' ∧ LX I' t n (xb (xb r (fun r => .inr (r.2, qset s.2 54 r.1))) (ystop t n))) (P17 := fun I I' => True) (P18 := fun I I' => True) (P19 := fun I I' => True) (P20 := fun I I' => True) (P21 := fun I I' => True) (P22 := fun I I' => True) w ?_ ?_ ?_ ?_ ?_ ?_ ?_ ?_ ?_ ?_ ?_ ?_ ?_ ?_ ?_ ?_ ?_ ?_ ?_ ?_ ?_ ?_ ?_ ?_ ?_ ?_ ?_ ?_ ?_ ?_) <;> intros <;> (first | exact absurd (by with_reducible assumption) z1 | exact absurd z1 (by with_reducible assumption) | exact absurd (by with_reducible assumption) z0 | exact absurd z0 (by with_reducible assumption) | skip)
            · exact isw _ 14 300 h (by decide) rfl _ (by rw [if_neg c1])
            · rename_i I1 h1 _; subst h1; exact isw _ 16 301 h (by decide) rfl _ (by rw [if_neg c2])
            · rename_i I1 h1 _ I2 h2 _; subst h1; subst h2; exact tkn _ 20 304 h.1 (by decide) rfl c3
            · rename_i I1 h1 _ I2 h2 _ I3 h3 _; subst h1; subst h2; exact tkn _ 21 305 h3.2 (by decide) rfl c4
            · rename_i I1 h1 _ I2 h2 _ I3 h3 _ I4 h4 _; subst h1; subst h2; exact tky _ 22 306 h4.2 (by decide) rfl c5
            · rename_i I1 h1 _ I2 h2 _ I3 h3 _ I4 h4 _ I5 h5 _
              have := number_r (l := l) (G := G) (k := kk + 38) (J := J) (lo := 0) (hi := 1000) (y := 999) (x := .inr (ynx t n s.1.1)) w h5.2 (by decide) (by decide) (by decide)
              rw [show xb (.inr (ynx t n s.1.1) : Er ⊕ Tok) (ynum t n 0 1000) = r from hr] at this; exact this
            · rename_i I1 h1 _ I2 h2 _ I3 h3 _ I4 h4 _ I5 h5 _ I9 h9; subst h1; subst h2; exact stop _ _ (lx _ _ (((h3.1).tr h4.1).tr h5.1) h9.1 h9.2).2
            · rename_i I1 h1 _ I2 h2 _ I3 h3 _ I4 h4 _ I5 h5 _ I9 h9 I10 h10; subst h1; subst h2; exact ⟨rfl, _, rfl, (((FL.ok (((h3.1).tr h4.1).tr h5.1)).tr (FL.ok h9.1)).tr (lx _ _ (((h3.1).tr h4.1).tr h5.1) h9.1 h9.2).1).tr h10.1, h10.2⟩
          · by_cases c6 : s.1.2.2.1 = 302
            · rw [show yone t n F s = ylaw t n F false s by unfold yone; rw [if_neg c1, if_neg c2, if_neg c3, if_neg c4, if_neg c5, if_pos c6]]
              obtain ⟨x0, hx0⟩ : ∃ x0 : Er ⊕ Ex, xb (ymust t n 58 (ynx t n s.1.1)) (fun s1 => .inr (s1, [])) = x0 := ⟨_, rfl⟩
              obtain ⟨g, hg⟩ : ∃ g, (xlev t n F false 6).1 = g := ⟨_, rfl⟩
              have hlev := (lev_c (l := l) hG hx hFu false 6 (Nat.le_refl 6)).1
              rw [hg] at hlev
              have ey : ylaw t n F false s = xb (xb x0 g) (fun e => .inr (e.1, ylw s.2 (mN false) (mA false) e.2)) := by
                unfold ylaw
                rw [← hx0, ← hg]
                cases ymust t n 58 (ynx t n s.1.1) with
                | inl e => rfl
                | inr s1 => rfl
              rw [ey]
              refine Cal.of rfl (by decide +kernel) (by simp) (Nat.le_of_ble_eq_true rfl) rfl (sX12_readLine_0 (k := kk) (u1 := 0) (u2 := 0) (u3 := 0) (u4 := 0) (u5 := 0) (u6 := 1) (u7 := 0) (u15 := 0) (P1 := fun I I' => I' = I) (P2 := fun I I' => I' = I) (P3 := fun I I' => FK I I' ∧ PX I' t n (.inr s.1)) (P4 := fun I I' => FK I I' ∧ PX I' t n (.inr s.1)) (P5 := fun I I' => FK I I' ∧ PX I' t n (.inr s.1)) (P6 := fun I I' => FK I I' ∧ PX I' t n (.inr (ynx t n s.1.1))) (P7 := fun I I' => True) (P8 := fun I I' => True) (P9 := fun I I' => True) (P10 := fun I I' => True) (P11 := fun I I' => True) (P12 := fun I I' => FL I I' ∧ EX I' t n false s.2 0 x0 ∧ (s.2 1 ≤ 5 ∧ s.2 2 ≤ 8)) (P13 := fun I I' => FE I I' ∧ EX I' t n false s.2 0 (xb x0 g)) (P14 := fun I I' => FL I I' ∧ LX I' t n (xb (xb (xb x0 g) (fun e => .inr (e.1, ylw s.2 (mN false) (mA false) e.2))) (ystop t n))) (P15 := fun I I' => True) (P16 := fun I I' => True) (P17 := fun I I' => True) (P18 := fun I I' => True) (P19 := fun I I' => True) (P20 := fun I I' => True) (P21 := fun I I' => True) (P22 := fun I I' => True) w ?_ ?_ ?_ ?_ ?_ ?_ ?_ ?_ ?_ ?_ ?_ ?_ ?_ ?_ ?_ ?_ ?_ ?_ ?_ ?_ ?_ ?_ ?_ ?_ ?_ ?_ ?_ ?_ ?_ ?_) <;> intros <;> (first | exact absurd (by with_reducible assumption) z1 | exact absurd z1 (by with_reducible assumption) | exact absurd (by with_reducible assumption) z0 | exact absurd z0 (by with_reducible assumption) | skip)
              · exact isw _ 14 300 h (by decide) rfl _ (by rw [if_neg c1])
              · rename_i I1 h1 _; subst h1; exact isw _ 16 301 h (by decide) rfl _ (by rw [if_neg c2])
              · rename_i I1 h1 _ I2 h2 _; subst h1; subst h2; exact tkn _ 20 304 h.1 (by decide) rfl c3
              · rename_i I1 h1 _ I2 h2 _ I3 h3 _; subst h1; subst h2; exact tkn _ 21 305 h3.2 (by decide) rfl c4
              · rename_i I1 h1 _ I2 h2 _ I3 h3 _ I4 h4 _; subst h1; subst h2; exact tkn _ 22 306 h4.2 (by decide) rfl c5
              · rename_i I1 h1 _ I2 h2 _ I3 h3 _ I4 h4 _ I5 h5 _; subst h1; subst h2; exact tky _ 23 302 h5.2 (by decide) rfl c6
              · rename_i I1 h1 _ I2 h2 _ I3 h3 _ I4 h4 _ I5 h5 _ I6 h6 _; subst h1; subst h2
                have := beginsLaw_r (l := l) (G := G) (k := kk + 37) (J := J) w false (lx_ad h ((((h3.1).tr h4.1).tr h5.1).tr h6.1) h6.2)
                rw [hx0] at this; exact this
              · rename_i I1 h1 _ I2 h2 _ I3 h3 _ I4 h4 _ I5 h5 _ I6 h6 _ I9 h9
                have := hlev (kk + 40 - 98) I9 J R S nx s.2 x0 w h9.2.1
                rw [show kk + 40 - 98 + (50 + 8 * 6) = kk + 40 by omega] at this; exact this
              · rename_i I1 h1 _ I2 h2 _ I3 h3 _ I4 h4 _ I5 h5 _ I6 h6 _ I9 h9 I10 h10; exact stop _ _ (law_ln h10.2 h9.2.2.1 h9.2.2.2)
              · rename_i I1 h1 _ I2 h2 _ I3 h3 _ I4 h4 _ I5 h5 _ I6 h6 _ I9 h9 I10 h10 I11 h11; subst h1; subst h2; exact ⟨rfl, _, rfl, (((FL.ok ((((h3.1).tr h4.1).tr h5.1).tr h6.1)).tr h9.1).tr h10.1.fl).tr h11.1, h11.2⟩
            · by_cases c7 : s.1.2.2.1 = 303
              · rw [show yone t n F s = ylaw t n F true s by unfold yone; rw [if_neg c1, if_neg c2, if_neg c3, if_neg c4, if_neg c5, if_neg c6, if_pos c7]]
                obtain ⟨x0, hx0⟩ : ∃ x0 : Er ⊕ Ex, xb (ymust t n 58 (ynx t n s.1.1)) (fun s1 => .inr (s1, [])) = x0 := ⟨_, rfl⟩
                obtain ⟨g, hg⟩ : ∃ g, (xlev t n F true 6).2.2 = g := ⟨_, rfl⟩
                have hlev := (lev_c (l := l) hG hx hFu true 6 (Nat.le_refl 6)).2.2
                rw [hg] at hlev
                have ey : ylaw t n F true s = xb (xb x0 g) (fun e => .inr (e.1, ylw s.2 (mN true) (mA true) e.2)) := by
                  unfold ylaw
                  rw [← hx0, ← hg]
                  cases ymust t n 58 (ynx t n s.1.1) with
                  | inl e => rfl
                  | inr s1 => rfl
                rw [ey]
                refine Cal.of rfl (by decide +kernel) (by simp) (Nat.le_of_ble_eq_true rfl) rfl (sX12_readLine_0 (k := kk) (u1 := 0) (u2 := 0) (u3 := 0) (u4 := 0) (u5 := 0) (u6 := 0) (u7 := 1) (u15 := 0) (P1 := fun I I' => I' = I) (P2 := fun I I' => I' = I) (P3 := fun I I' => FK I I' ∧ PX I' t n (.inr s.1)) (P4 := fun I I' => FK I I' ∧ PX I' t n (.inr s.1)) (P5 := fun I I' => FK I I' ∧ PX I' t n (.inr s.1)) (P6 := fun I I' => FK I I' ∧ PX I' t n (.inr s.1)) (P7 := fun I I' => FK I I' ∧ PX I' t n (.inr (ynx t n s.1.1))) (P8 := fun I I' => True) (P9 := fun I I' => FL I I' ∧ EX I' t n true s.2 0 x0 ∧ (s.2 1 ≤ 5 ∧ s.2 2 ≤ 8)) (P10 := fun I I' => FE I I' ∧ EX I' t n true s.2 0 (xb x0 g)) (P11 := fun I I' => FL I I' ∧ LX I' t n (xb (xb (xb x0 g) (fun e => .inr (e.1, ylw s.2 (mN true) (mA true) e.2))) (ystop t n))) (P12 := fun I I' => True) (P13 := fun I I' => True) (P14 := fun I I' => True) (P15 := fun I I' => True) (P16 := fun I I' => True) (P17 := fun I I' => True) (P18 := fun I I' => True) (P19 := fun I I' => True) (P20 := fun I I' => True) (P21 := fun I I' => True) (P22 := fun I I' => True) w ?_ ?_ ?_ ?_ ?_ ?_ ?_ ?_ ?_ ?_ ?_ ?_ ?_ ?_ ?_ ?_ ?_ ?_ ?_ ?_ ?_ ?_ ?_ ?_ ?_ ?_ ?_ ?_ ?_ ?_) <;> intros <;> (first | exact absurd (by with_reducible assumption) z1 | exact absurd z1 (by with_reducible assumption) | exact absurd (by with_reducible assumption) z0 | exact absurd z0 (by with_reducible assumption) | skip)
                · exact isw _ 14 300 h (by decide) rfl _ (by rw [if_neg c1])
                · rename_i I1 h1 _; subst h1; exact isw _ 16 301 h (by decide) rfl _ (by rw [if_neg c2])
                · rename_i I1 h1 _ I2 h2 _; subst h1; subst h2; exact tkn _ 20 304 h.1 (by decide) rfl c3
                · rename_i I1 h1 _ I2 h2 _ I3 h3 _; subst h1; subst h2; exact tkn _ 21 305 h3.2 (by decide) rfl c4
                · rename_i I1 h1 _ I2 h2 _ I3 h3 _ I4 h4 _; subst h1; subst h2; exact tkn _ 22 306 h4.2 (by decide) rfl c5
                · rename_i I1 h1 _ I2 h2 _ I3 h3 _ I4 h4 _ I5 h5 _; subst h1; subst h2; exact tkn _ 23 302 h5.2 (by decide) rfl c6
                · rename_i I1 h1 _ I2 h2 _ I3 h3 _ I4 h4 _ I5 h5 _ I6 h6 _; subst h1; subst h2; exact tky _ 31 303 h6.2 (by decide) rfl c7
                · rename_i I1 h1 _ I2 h2 _ I3 h3 _ I4 h4 _ I5 h5 _ I6 h6 _ I7 h7 _; subst h1; subst h2
                  have := beginsLaw_r (l := l) (G := G) (k := kk + 37) (J := J) w true (lx_ad h (((((h3.1).tr h4.1).tr h5.1).tr h6.1).tr h7.1) h7.2)
                  rw [hx0] at this; exact this
                · rename_i I1 h1 _ I2 h2 _ I3 h3 _ I4 h4 _ I5 h5 _ I6 h6 _ I7 h7 _ I9 h9
                  have := hlev (kk + 40 - 101) I9 J R S nx s.2 x0 w h9.2.1
                  rw [show kk + 40 - 101 + (53 + 8 * 6) = kk + 40 by omega] at this; exact this
                · rename_i I1 h1 _ I2 h2 _ I3 h3 _ I4 h4 _ I5 h5 _ I6 h6 _ I7 h7 _ I9 h9 I10 h10; exact stop _ _ (law_ln h10.2 h9.2.2.1 h9.2.2.2)
                · rename_i I1 h1 _ I2 h2 _ I3 h3 _ I4 h4 _ I5 h5 _ I6 h6 _ I7 h7 _ I9 h9 I10 h10 I11 h11; subst h1; subst h2; exact ⟨rfl, _, rfl, (((FL.ok (((((h3.1).tr h4.1).tr h5.1).tr h6.1).tr h7.1)).tr h9.1).tr h10.1.fl).tr h11.1, h11.2⟩
              · rw [show yone t n F s = .inl (qbl 2 s.1) by unfold yone; rw [if_neg c1, if_neg c2, if_neg c3, if_neg c4, if_neg c5, if_neg c6, if_neg c7]]
                refine Cal.of rfl (by decide +kernel) (by simp) (Nat.le_of_ble_eq_true rfl) rfl (sX12_readLine_0 (k := kk) (u1 := 0) (u2 := 0) (u3 := 0) (u4 := 0) (u5 := 0) (u6 := 0) (u7 := 0) (u15 := 0) (P1 := fun I I' => I' = I) (P2 := fun I I' => I' = I) (P3 := fun I I' => FK I I' ∧ PX I' t n (.inr s.1)) (P4 := fun I I' => FK I I' ∧ PX I' t n (.inr s.1)) (P5 := fun I I' => FK I I' ∧ PX I' t n (.inr s.1)) (P6 := fun I I' => FK I I' ∧ PX I' t n (.inr s.1)) (P7 := fun I I' => FK I I' ∧ PX I' t n (.inr s.1)) (P8 := fun I I' => FL I I' ∧ LX I' t n (.inl (qbl 2 s.1))) (P9 := fun I I' => True) (P10 := fun I I' => True) (P11 := fun I I' => True) (P12 := fun I I' => True) (P13 := fun I I' => True) (P14 := fun I I' => True) (P15 := fun I I' => True) (P16 := fun I I' => True) (P17 := fun I I' => True) (P18 := fun I I' => True) (P19 := fun I I' => True) (P20 := fun I I' => True) (P21 := fun I I' => True) (P22 := fun I I' => True) w ?_ ?_ ?_ ?_ ?_ ?_ ?_ ?_ ?_ ?_ ?_ ?_ ?_ ?_ ?_ ?_ ?_ ?_ ?_ ?_ ?_ ?_ ?_ ?_ ?_ ?_ ?_ ?_ ?_ ?_) <;> intros <;> (first | exact absurd (by with_reducible assumption) z1 | exact absurd z1 (by with_reducible assumption) | exact absurd (by with_reducible assumption) z0 | exact absurd z0 (by with_reducible assumption) | skip)
                · exact isw _ 14 300 h (by decide) rfl _ (by rw [if_neg c1])
                · rename_i I1 h1 _; subst h1; exact isw _ 16 301 h (by decide) rfl _ (by rw [if_neg c2])
                · rename_i I1 h1 _ I2 h2 _; subst h1; subst h2; exact tkn _ 20 304 h.1 (by decide) rfl c3
                · rename_i I1 h1 _ I2 h2 _ I3 h3 _; subst h1; subst h2; exact tkn _ 21 305 h3.2 (by decide) rfl c4
                · rename_i I1 h1 _ I2 h2 _ I3 h3 _ I4 h4 _; subst h1; subst h2; exact tkn _ 22 306 h4.2 (by decide) rfl c5
                · rename_i I1 h1 _ I2 h2 _ I3 h3 _ I4 h4 _ I5 h5 _; subst h1; subst h2; exact tkn _ 23 302 h5.2 (by decide) rfl c6
                · rename_i I1 h1 _ I2 h2 _ I3 h3 _ I4 h4 _ I5 h5 _ I6 h6 _; subst h1; subst h2; exact tkn _ 31 303 h6.2 (by decide) rfl c7
                · rename_i I1 h1 _ I2 h2 _ I3 h3 _ I4 h4 _ I5 h5 _ I6 h6 _ I7 h7 _; exact stop _ _ (⟨(blames_n (k := 2) (s := s.1) h7.2 (by decide)).2, trivial⟩ : LX _ t n (.inl (qbl 2 s.1)))
                · rename_i I1 h1 _ I2 h2 _ I3 h3 _ I4 h4 _ I5 h5 _ I6 h6 _ I7 h7 _ I9 h9; subst h1; subst h2; exact ⟨rfl, _, rfl, ((FL.ok (((((h3.1).tr h4.1).tr h5.1).tr h6.1).tr h7.1)).tr (FL.ok (Fz.wk (blames_n (k := 2) (s := s.1) h7.2 (by decide)).1 (by decide) (by decide)))).tr h9.1, h9.2⟩
end A
