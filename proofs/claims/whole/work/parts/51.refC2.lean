/-! the reference: tokens and words -/
def rtk (tk : Nat) : Nat := if tk = 257 then 0 else if tk = 256 then 2 else if tk = 258 then 3 else if 299 ≤ tk then 1 else tk
/-- the tape -/
def RT (I : Nat → Nat → Int32) (t : Nat → Nat) (n : Nat) : Prop := I 43 7 = nI n ∧ (∀ j, j < n → I 48 j = nI (t j)) ∧ n ≤ 900 ∧ ∀ j, j < n → t j < 256
/-- the token -/
def RK (I : Nat → Nat → Int32) (s : Tok) : Prop := I 43 8 = nI s.1 ∧ I 43 9 = nI s.2.1 ∧ I 43 10 = nI (rtk s.2.2.1) ∧ (s.2.2.1 = 256 → I 43 11 = nI s.2.2.2) ∧ I 43 12 = 0
theorem let_n : ∀ c, c < 256 → v_X12_isLetter (nI c) = if qlet c then 1 else 0 := by decide +kernel
theorem dig_n : ∀ c, c < 256 → v_X12_isDigit (nI c) = if qdig c then 1 else 0 := by decide +kernel
theorem sgn_n : ∀ c, c < 256 → v_X12_isSignByte (nI c) = if qsgn c then 1 else 0 := by decide +kernel
theorem sgn_r : ∀ c, c < 256 → qsgn c = true → rtk c = c ∧ c ≠ 32 ∧ c ≠ 10 := by decide +kernel
section A
variable {l : Launch} {G : Gh} {k : Nat} {I : Nat → Nat → Int32} {J : Nat → Nat → Int64} {R : Nat → Nat → Option Nat} {S : Nat → Nat × Nat} {nx : Nat} {κ : Nat → Nat} {hb pb : Nat}
variable {t : Nat → Nat} {n : Nat}
theorem RT.fz {rs fs : List Nat} {I' : Nat → Nat → Int32} (h : RT I t n) (hF : Fz rs fs I I') (h1 : 48 ∉ rs) (h2 : 7 ∉ fs) : RT I' t n :=
  ⟨by rw [hF.2 7 h2]; exact h.1, by rw [hF.1 48 (by decide) h1]; exact h.2.1, h.2.2⟩
theorem RK.fz {rs fs : List Nat} {I' : Nat → Nat → Int32} {s : Tok} (h : RK I s) (hF : Fz rs fs I I') (h2 : 8 ∉ fs ∧ 9 ∉ fs ∧ 10 ∉ fs ∧ 11 ∉ fs ∧ 12 ∉ fs) : RK I' s :=
  ⟨by rw [hF.2 8 h2.1]; exact h.1, by rw [hF.2 9 h2.2.1]; exact h.2.1, by rw [hF.2 10 h2.2.2.1]; exact h.2.2.1, by rw [hF.2 11 h2.2.2.2.1]; exact h.2.2.2.1, by rw [hF.2 12 h2.2.2.2.2]; exact h.2.2.2.2⟩
theorem see_n {e : Nat} (h : RT I t n) (he : e ≤ n) : v_X12_see I (nI e) = nI (if e < n then t e else 0) := by
  unfold v_X12_see
  have := h.2.2.1
  rw [h.1]
  by_cases c : e < n
  · rw [if_neg (nI_ge c (by omega)), if_pos c, nI_clamp (by omega)]; exact h.2.1 e c
  · rw [if_pos (nI_le (by omega) (by omega)), if_neg c]; rfl
theorem readsOn_r {h : Nat} (w : MW R S nx) (hT : RT I t n) (h8 : I 43 8 = nI h) (hh : h ≤ n) (h12 : I 43 12 = 0) : Cal l G (k + 1) 0 0 mX12_readsOn [.ref 43] (I, J, R, S, nx) (fun r μ' => r = .inl none ∧ ∃ I', μ' = (I', J, R, S, nx) ∧ Fz [] [8, 9, 10, 11] I I' ∧ RK I' (ynx t n h)) := by
  have hn := hT.2.2.1
  have ht := hT.2.2.2
  obtain ⟨s, hs⟩ : ∃ s, ynx t n h = s := ⟨_, rfl⟩
  obtain ⟨b, hb, hc⟩ := ynx_cases t n h
  rw [hs] at hc ⊢
  have hl := qsk_le (fun j => qspc (t j)) (n - h) h
  rw [← hb] at hl
  have key : ∀ (d h1 : Nat) (I1 : Nat → Nat → Int32), h1 + d = n → Fz [] [8, 9, 10, 11] I I1 → I1 43 8 = nI h1 → qsk (fun j => qspc (t j)) (n - h1) h1 = b →
      WP l G (k + 1) 0 0 mX12_readsOn (fun r μ' => r = .inl none ∧ ∃ I', μ' = (I', J, R, S, nx) ∧ Fz [] [8, 9, 10, 11] I I' ∧ RK I' s) 0 [some (.ref 43), none] [] (I1, J, R, S, nx) 0 0 := by
    have fin : ∀ (I1 : Nat → Nat → Int32), Fz [] [8, 9, 10, 11] I I1 → I1 43 8 = nI b → hX12_readsOn_52 l G k (fun r μ' => r = .inl none ∧ ∃ I', μ' = (I', J, R, S, nx) ∧ Fz [] [8, 9, 10, 11] I I' ∧ RK I' s) (I1, J, R, S, nx) := by
      intro I1 hF h81
      have hT1 : RT I1 t n := hT.fz hF (by decide) (by decide)
      have h121 : I1 43 12 = 0 := by rw [hF.2 12 (by decide)]; exact h12
      rcases hc with ⟨h1, e⟩ | ⟨h1, h2, e, he, hx⟩ | ⟨h1, h2, h3, e, he, hx⟩ | ⟨h1, h2, h3, hx⟩
      · have c1 : ¬ I1 43 8 < I1 43 7 := by rw [h81, hT1.1, nI_ltI (by omega) (by omega)]; omega
        refine sX12_readsOn_52 w ?_ ?_ ?_ ?_ ?_ ?_ <;> intros <;> (first | exact absurd (by with_reducible assumption) c1 | exact absurd c1 (by with_reducible assumption) | skip)
        refine ⟨rfl, _, rfl, (hF.uf (by decide)).uf (by decide), ?_⟩
        rw [e]
        exact ⟨by simpa [up2] using h81, by simpa [up2] using h81, by simp [up2]; rfl, fun h => (by cases h), by simpa [up2] using h121⟩
      · have c1 : I1 43 8 < I1 43 7 := by rw [h81, hT1.1, nI_ltI (by omega) (by omega)]; omega
        have hv : I1 48 (I1 43 8).toNatClampNeg = nI (t b) := by rw [h81, nI_clamp (by omega)]; exact hT1.2.1 b h1
        have c2 : ¬ v_X12_isLetter (I1 48 (I1 43 8).toNatClampNeg) = 0 := by rw [hv, let_n _ (ht b h1), if_pos h2]; decide
        refine sX12_readsOn_52 w ?_ ?_ ?_ ?_ ?_ ?_ <;> intros <;> (first | exact absurd (by with_reducible assumption) c1 | exact absurd c1 (by with_reducible assumption) | exact absurd (by with_reducible assumption) c2 | exact absurd c2 (by with_reducible assumption) | skip)
        · rw [h81]; exact vp_in_nI (by omega) (by decide)
        · have lk : ∀ (d e1 : Nat) (I2 : Nat → Nat → Int32), e1 + d = n → b ≤ e1 → Fz [] [8, 9, 10, 11] I I2 → I2 43 8 = nI e1 → I2 43 9 = nI b → qsk (fun j => qlet (t j)) (n - e1) e1 = e →
              hX12_readsOn_94 l G k (fun r μ' => r = .inl none ∧ ∃ I', μ' = (I', J, R, S, nx) ∧ Fz [] [8, 9, 10, 11] I I' ∧ RK I' s) (I2, J, R, S, nx) := by
            intro d
            induction d with
            | zero =>
              intro e1 I2 hd hbe hF2 h82 h92 hq
              have hT2 : RT I2 t n := hT.fz hF2 (by decide) (by decide)
              have c3 : v_X12_isLetter (v_X12_see I2 (I2 43 8)) = 0 := by rw [h82, see_n hT2 (by omega), if_neg (by omega)]; decide
              refine sX12_readsOn_94 w ?_ ?_ ?_ <;> intros <;> (first | exact absurd (by with_reducible assumption) c3 | exact absurd c3 (by with_reducible assumption) | skip)
              · rename_i hx; rw [hT2.1, h82, nI_leI (by omega) (by omega)] at hx; omega
              · refine ⟨rfl, _, rfl, hF2.uf (by decide), ?_⟩
                have ee : e1 = e := by rw [← hq, show n - e1 = 0 by omega]; rfl
                have hwc := qwc_ge (qwrd t b e)
                rw [hx]
                exact ⟨by simpa [up2, ee] using h82, by simpa [up2] using h92, by simp [up2]; unfold rtk; rw [if_neg (by omega), if_neg (by omega), if_neg (by omega), if_pos (by omega)]; rfl, fun h => (by have : qwc (qwrd t b e) = 256 := h; omega), by simp [up2]; rw [hF2.2 12 (by decide)]; exact h12⟩
            | succ d ih =>
              intro e1 I2 hd hbe hF2 h82 h92 hq
              have hT2 : RT I2 t n := hT.fz hF2 (by decide) (by decide)
              have hse : v_X12_isLetter (v_X12_see I2 (I2 43 8)) = if qlet (t e1) then 1 else 0 := by rw [h82, see_n hT2 (by omega), if_pos (by omega)]; exact let_n _ (ht e1 (by omega))
              have hbb : vp_in (I2 43 8) 900 := by rw [h82]; exact vp_in_nI (by omega) (by decide)
              cases hl1 : qlet (t e1) with
              | true =>
                have c3 : ¬ v_X12_isLetter (v_X12_see I2 (I2 43 8)) = 0 := by rw [hse, if_pos hl1]; decide
                refine sX12_readsOn_94 w ?_ ?_ ?_ <;> intros <;> (first | exact absurd (by with_reducible assumption) c3 | exact absurd c3 (by with_reducible assumption) | skip)
                · exact hbb
                · refine ih (e1 + 1) _ (by omega) (by omega) (hF2.uf (by decide)) (by simp [up2]; rw [h82, nI_1]) (by simpa [up2] using h92) ?_
                  rw [qsk_y (p := fun j => qlet (t j)) (f := n - e1) (h := e1) (by omega) hl1] at hq
                  rw [show n - (e1 + 1) = n - e1 - 1 by omega]; exact hq
              | false =>
                have c3 : v_X12_isLetter (v_X12_see I2 (I2 43 8)) = 0 := by rw [hse, if_neg (by rw [hl1]; decide)]
                refine sX12_readsOn_94 w ?_ ?_ ?_ <;> intros <;> (first | exact absurd (by with_reducible assumption) c3 | exact absurd c3 (by with_reducible assumption) | skip)
                · exact hbb
                · refine ⟨rfl, _, rfl, hF2.uf (by decide), ?_⟩
                  have ee : e1 = e := by rw [← hq]; exact (qsk_n (p := fun j => qlet (t j)) hl1).symm
                  have hwc := qwc_ge (qwrd t b e)
                  rw [hx]
                  exact ⟨by simpa [up2, ee] using h82, by simpa [up2] using h92, by simp [up2]; unfold rtk; rw [if_neg (by omega), if_neg (by omega), if_neg (by omega), if_pos (by omega)]; rfl, fun h => (by have : qwc (qwrd t b e) = 256 := h; omega), by simp [up2]; rw [hF2.2 12 (by decide)]; exact h12⟩
          exact lk (n - b) b _ (by omega) (Nat.le_refl _) (hF.uf (by decide)) (by simpa [up2] using h81) (by simpa [up2] using h81) he.symm
      · have c1 : I1 43 8 < I1 43 7 := by rw [h81, hT1.1, nI_ltI (by omega) (by omega)]; omega
        have hv : I1 48 (I1 43 8).toNatClampNeg = nI (t b) := by rw [h81, nI_clamp (by omega)]; exact hT1.2.1 b h1
        have c2 : v_X12_isLetter (I1 48 (I1 43 8).toNatClampNeg) = 0 := by rw [hv, let_n _ (ht b h1), if_neg (by rw [h2]; decide)]
        have c3 : ¬ v_X12_isDigit (I1 48 (I1 43 8).toNatClampNeg) = 0 := by rw [hv, dig_n _ (ht b h1), if_pos h3]; decide
        refine sX12_readsOn_52 w ?_ ?_ ?_ ?_ ?_ ?_ <;> intros <;> (first | exact absurd (by with_reducible assumption) c1 | exact absurd c1 (by with_reducible assumption) | exact absurd (by with_reducible assumption) c2 | exact absurd c2 (by with_reducible assumption) | exact absurd (by with_reducible assumption) c3 | exact absurd c3 (by with_reducible assumption) | skip)
        · rw [h81]; exact vp_in_nI (by omega) (by decide)
        · have lk : ∀ (d e1 : Nat) (I2 : Nat → Nat → Int32), e1 + d = n → b ≤ e1 → Fz [] [8, 9, 10, 11] I I2 → I2 43 8 = nI e1 → I2 43 9 = nI b → I2 43 11 = nI (qnum t b (min 3 (e1 - b))) → qsk (fun j => qdig (t j)) (n - e1) e1 = e → (∀ j, b ≤ j → j < e1 → qdig (t j) = true) →
              hX12_readsOn_141 l G k (fun r μ' => r = .inl none ∧ ∃ I', μ' = (I', J, R, S, nx) ∧ Fz [] [8, 9, 10, 11] I I' ∧ RK I' s) (I2, J, R, S, nx) := by
            have out : ∀ (e1 : Nat) (I2 : Nat → Nat → Int32), b ≤ e1 → e1 ≤ n → Fz [] [8, 9, 10, 11] I I2 → I2 43 8 = nI e1 → I2 43 9 = nI b → I2 43 11 = nI (qnum t b (min 3 (e1 - b))) → e1 = e → v_X12_isDigit (v_X12_see I2 (I2 43 8)) = 0 → vp_in (I2 43 8) 900 ∨ ¬ ¬ I2 43 7 ≤ I2 43 8 → hX12_readsOn_141 l G k (fun r μ' => r = .inl none ∧ ∃ I', μ' = (I', J, R, S, nx) ∧ Fz [] [8, 9, 10, 11] I I' ∧ RK I' s) (I2, J, R, S, nx) := by
              intro e1 I2 hbe hen hF2 h82 h92 h112 ee c4 hbb
              have ed : I2 43 8 - I2 43 9 = nI (e1 - b) := by rw [h82, h92, pk_sub hbe]
              have e3 : (I2 43 8 - I2 43 9 ≤ (3 : Int32)) = (e1 - b ≤ 3) := by rw [ed]; exact propext (nI_leI (b := 3) (by omega) (by decide))
              refine sX12_readsOn_141 w ?_ ?_ ?_ ?_ ?_ ?_ <;> intros <;> (first | exact absurd (by with_reducible assumption) c4 | exact absurd c4 (by with_reducible assumption) | skip)
              · rename_i hx; exact hbb.elim id (fun g => absurd hx g)
              · rename_i hx1
                rw [e3] at hx1
                refine ⟨rfl, _, rfl, hF2.uf (by decide), ?_⟩
                rw [hx, ← ee, if_neg (by omega)]
                exact ⟨by simpa [up2] using h82, by simpa [up2] using h92, by simp [up2]; rfl, fun _ => by simpa [up2] using h112, by simp [up2]; rw [hF2.2 12 (by decide)]; exact h12⟩
              · rename_i hx1
                rw [e3] at hx1
                refine ⟨rfl, _, rfl, hF2.uf (by decide), ?_⟩
                rw [hx, ← ee, if_pos (by omega)]
                exact ⟨by simpa [up2] using h82, by simpa [up2] using h92, by simp [up2]; rfl, fun h => (by cases h), by simp [up2]; rw [hF2.2 12 (by decide)]; exact h12⟩
            intro d
            induction d with
            | zero =>
              intro e1 I2 hd hbe hF2 h82 h92 h112 hq hall
              have hT2 : RT I2 t n := hT.fz hF2 (by decide) (by decide)
              refine out e1 I2 hbe (by omega) hF2 h82 h92 h112 (by rw [← hq, show n - e1 = 0 by omega]; rfl) (by rw [h82, see_n hT2 (by omega), if_neg (by omega)]; decide) (Or.inr (fun g => g ?_))
              rw [hT2.1, h82]; exact nI_le (by omega) (by omega)
            | succ d ih =>
              intro e1 I2 hd hbe hF2 h82 h92 h112 hq hall
              have hT2 : RT I2 t n := hT.fz hF2 (by decide) (by decide)
              have hse : v_X12_isDigit (v_X12_see I2 (I2 43 8)) = if qdig (t e1) then 1 else 0 := by rw [h82, see_n hT2 (by omega), if_pos (by omega)]; exact dig_n _ (ht e1 (by omega))
              have hbb : vp_in (I2 43 8) 900 := by rw [h82]; exact vp_in_nI (by omega) (by decide)
              have ed : I2 43 8 - I2 43 9 = nI (e1 - b) := by rw [h82, h92, pk_sub hbe]
              have e3 : ((3 : Int32) ≤ I2 43 8 - I2 43 9) = (3 ≤ e1 - b) := by rw [ed]; exact propext (nI_leI (a := 3) (by decide) (by omega))
              cases hl1 : qdig (t e1) with
              | true =>
                have c4 : ¬ v_X12_isDigit (v_X12_see I2 (I2 43 8)) = 0 := by rw [hse, if_pos hl1]; decide
                have hl2 := hl1
                unfold qdig at hl2
                rw [decide_eq_true_eq] at hl2
                have nxt1 : ∀ I3 : Nat → Nat → Int32, Fz [] [8, 9, 10, 11] I I3 → I3 43 8 = nI (e1 + 1) → I3 43 9 = nI b → I3 43 11 = nI (qnum t b (min 3 (e1 + 1 - b))) → hX12_readsOn_141 l G k (fun r μ' => r = .inl none ∧ ∃ I', μ' = (I', J, R, S, nx) ∧ Fz [] [8, 9, 10, 11] I I' ∧ RK I' s) (I3, J, R, S, nx) := fun I3 q1 q2 q3 q4 => by
                  refine ih (e1 + 1) I3 (by omega) (by omega) q1 q2 q3 q4 ?_ (fun j j1 j2 => ?_)
                  · rw [qsk_y (p := fun j => qdig (t j)) (f := n - e1) (h := e1) (by omega) hl1] at hq
                    rw [show n - (e1 + 1) = n - e1 - 1 by omega]; exact hq
                  · by_cases cj : j = e1
                    · rw [cj]; exact hl1
                    · exact hall j j1 (by omega)
                refine sX12_readsOn_141 w ?_ ?_ ?_ ?_ ?_ ?_ <;> intros <;> (first | exact absurd (by with_reducible assumption) c4 | exact absurd c4 (by with_reducible assumption) | skip)
                · exact hbb
                · rename_i hx1
                  rw [e3] at hx1
                  refine nxt1 _ ((hF2.uf (by decide)).uf (by decide)) (by simp [up2]; rw [h82, nI_1]) (by simpa [up2] using h92) (by simp [up2]; rw [h112]; congr 2; omega)
                · exact hbb
                · rename_i hx1
                  rw [e3] at hx1
                  have hq3 := qnum_le (t := t) (b := b) (i := e1 - b) (fun j hj => hall (b + j) (by omega) (by omega))
                  have hp3 : 10 ^ (e1 - b) ≤ 10 ^ 2 := Nat.pow_le_pow_right (by decide) (by omega)
                  refine nxt1 _ ((hF2.uf (by decide)).uf (by decide)) (by simp [up2]; rw [h82, nI_1]) (by simpa [up2] using h92) ?_
                  simp only [up2, if_true]
                  simp
                  rw [h112, h82, nI_clamp (by omega), hT2.2.1 e1 (by omega), show (10 : Int32) = nI 10 from rfl, pk_mul, nI_add, show min 3 (e1 - b) = e1 - b by omega, show min 3 (e1 + 1 - b) = (e1 - b) + 1 by omega]
                  show _ = nI (10 * qnum t b (e1 - b) + (t (b + (e1 - b)) - 48))
                  rw [show b + (e1 - b) = e1 by omega, show (48 : Int32) = nI 48 from rfl, pk_sub (by omega)]
                  congr 1; omega
              | false =>
                exact out e1 I2 hbe (by omega) hF2 h82 h92 h112 (by rw [← hq]; exact (qsk_n (p := fun j => qdig (t j)) hl1).symm) (by rw [hse, if_neg (by rw [hl1]; decide)]) (Or.inl hbb)
          exact lk (n - b) b _ (by omega) (Nat.le_refl _) ((hF.uf (by decide)).uf (by decide)) (by simpa [up2] using h81) (by simpa [up2] using h81) (by simp [up2]; rfl) he.symm (fun j j1 j2 => by omega)
      · have c1 : I1 43 8 < I1 43 7 := by rw [h81, hT1.1, nI_ltI (by omega) (by omega)]; omega
        have hv : I1 48 (I1 43 8).toNatClampNeg = nI (t b) := by rw [h81, nI_clamp (by omega)]; exact hT1.2.1 b h1
        have c2 : v_X12_isLetter (I1 48 (I1 43 8).toNatClampNeg) = 0 := by rw [hv, let_n _ (ht b h1), if_neg (by rw [h2]; decide)]
        have c3 : v_X12_isDigit (I1 48 (I1 43 8).toNatClampNeg) = 0 := by rw [hv, dig_n _ (ht b h1), if_neg (by rw [h3]; decide)]
        have hsg : v_X12_isSignByte (I1 48 (I1 43 8).toNatClampNeg) = if qsgn (t b) then 1 else 0 := by rw [hv]; exact sgn_n _ (ht b h1)
        refine sX12_readsOn_52 w ?_ ?_ ?_ ?_ ?_ ?_ <;> intros <;> (first | exact absurd (by with_reducible assumption) c1 | exact absurd c1 (by with_reducible assumption) | exact absurd (by with_reducible assumption) c2 | exact absurd c2 (by with_reducible assumption) | exact absurd (by with_reducible assumption) c3 | exact absurd c3 (by with_reducible assumption) | skip)
        · rw [h81]; exact vp_in_nI (by omega) (by decide)
        · rename_i hx1
          rw [hsg, ifI] at hx1
          refine ⟨rfl, _, rfl, ((hF.uf (by decide)).uf (by decide)).uf (by decide), ?_⟩
          rw [hx, if_neg hx1]
          exact ⟨by simp [up2]; rw [h81, nI_1], by simpa [up2] using h81, by simp [up2]; rfl, fun h => (by cases h), by simpa [up2] using h121⟩
        · rename_i hx1
          rw [hsg, ifI, Decidable.not_not] at hx1
          refine ⟨rfl, _, rfl, ((hF.uf (by decide)).uf (by decide)).uf (by decide), ?_⟩
          obtain ⟨r1, r2⟩ := sgn_r _ (ht b h1) hx1
          rw [hx, if_pos hx1]
          refine ⟨by simp [up2]; rw [h81, nI_1], by simpa [up2] using h81, ?_, fun h => ?_, by simpa [up2] using h121⟩
          · simp only [up2, if_true]; simp; rw [hv, r1]
          · have h' : t b = 256 := h
            have := ht b h1; omega
    intro d
    induction d with
    | zero =>
      intro h1 I1 hd hF h81 hq
      have hT1 : RT I1 t n := hT.fz hF (by decide) (by decide)
      have c1 : I1 43 7 ≤ I1 43 8 := by rw [hT1.1, h81]; exact nI_le (by omega) (by omega)
      refine sX12_readsOn_0 w ?_ ?_ ?_ ?_ ?_ ?_ <;> intros <;> (first | exact absurd (by with_reducible assumption) c1 | exact absurd c1 (by with_reducible assumption) | skip)
      have hb0 : h1 = b := by rw [← hq, show n - h1 = 0 by omega]; rfl
      exact fin I1 hF (by rw [h81, hb0])
    | succ d ih =>
      intro h1 I1 hd hF h81 hq
      have hT1 : RT I1 t n := hT.fz hF (by decide) (by decide)
      have c1 : ¬ I1 43 7 ≤ I1 43 8 := by rw [hT1.1, h81]; exact nI_ge (by omega) (by omega)
      have hv : I1 48 (I1 43 8).toNatClampNeg = nI (t h1) := by rw [h81, nI_clamp (by omega)]; exact hT1.2.1 h1 (by omega)
      have hth := ht h1 (by omega)
      have v1 : (I1 48 (I1 43 8).toNatClampNeg = (32 : Int32)) = (t h1 = 32) := by rw [hv]; exact propext (nI_eq (b := 32) (by omega) (by decide))
      have v2 : (I1 48 (I1 43 8).toNatClampNeg = (10 : Int32)) = (t h1 = 10) := by rw [hv]; exact propext (nI_eq (b := 10) (by omega) (by decide))
      have hbb : vp_in (I1 43 8) 900 := by rw [h81]; exact vp_in_nI (by omega) (by decide)
      have step : qspc (t h1) = true → hX12_readsOn_39 l G k (fun r μ' => r = .inl none ∧ ∃ I', μ' = (I', J, R, S, nx) ∧ Fz [] [8, 9, 10, 11] I I' ∧ RK I' s) (I1, J, R, S, nx) := by
        intro hsp
        refine sX12_readsOn_39 w ?_
        refine ih (h1 + 1) _ (by omega) (hF.uf (by decide)) (by simp [up2]; rw [h81, nI_1]) ?_
        rw [qsk_y (p := fun j => qspc (t j)) (f := n - h1) (h := h1) (by omega) hsp] at hq
        rw [show n - (h1 + 1) = n - h1 - 1 by omega]; exact hq
      refine sX12_readsOn_0 w ?_ ?_ ?_ ?_ ?_ ?_ <;> intros <;> (first | exact absurd (by with_reducible assumption) c1 | exact absurd c1 (by with_reducible assumption) | skip)
      · exact hbb
      · rename_i hx; rw [v1] at hx; exact step (by unfold qspc; rw [decide_eq_true_eq]; exact Or.inl hx)
      · exact hbb
      · rename_i hx hy
        rw [v1] at hx; rw [v2] at hy
        have hsp : qspc (t h1) = false := by unfold qspc; rw [decide_eq_false_iff_not]; omega
        have hb0 : h1 = b := by rw [← hq]; exact (qsk_n (p := fun j => qspc (t j)) hsp).symm
        exact fin I1 hF (by rw [h81, hb0])
      · rename_i hx hy; rw [v2] at hy; exact step (by unfold qspc; rw [decide_eq_true_eq]; exact Or.inr hy)
  refine Cal.of rfl (by decide +kernel) (by simp) (Nat.le_of_ble_eq_true rfl) rfl ?_
  exact key (n - h) h I (by omega) Fz.rf h8 hb.symm
end A
