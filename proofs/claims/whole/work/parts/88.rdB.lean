/-! the class: the next token -/
section A
variable {l : Launch} {G : Gh} {k : Nat} {I : Nat → Nat → Int32} {J : Nat → Nat → Int64} {R : Nat → Nat → Option Nat} {S : Nat → Nat × Nat} {nx : Nat} {κ : Nat → Nat} {hb pb : Nat}
variable {t : Nat → Nat} {n : Nat}
theorem advance_c {h : Nat} (w : CF R S nx) (hG : GT G) (hT : CT I t n) (h3 : I 1 3 = nI h) (hh : h ≤ n) : Cal l G (k + 6) 0 0 mX6_advance [.ref 1] (I, J, R, S, nx) (fun r μ' => r = .inl none ∧ ∃ I', μ' = (I', J, R, S, nx) ∧ F1 [] [3, 4, 5, 6] I I' ∧ Ck I' (ynx t n h)) := by
  have hn := hT.2.2.1
  have ht := hT.2.2.2
  obtain ⟨s, hs⟩ : ∃ s, ynx t n h = s := ⟨_, rfl⟩
  obtain ⟨b, hb, hc⟩ := ynx_cases t n h
  rw [hs] at hc ⊢
  have hl := qsk_le (fun j => qspc (t j)) (n - h) h
  rw [← hb] at hl
  have fin : ∀ (I1 : Nat → Nat → Int32), F1 [] [3, 4, 5, 6] I I1 → I1 1 3 = nI b → hX6_advance_52 l G k (fun r μ' => r = .inl none ∧ ∃ I', μ' = (I', J, R, S, nx) ∧ F1 [] [3, 4, 5, 6] I I' ∧ Ck I' s) (I1, J, R, S, nx) := by
    intro I1 hF h31
    have hT1 : CT I1 t n := hT.f1 hF (by decide) (by decide)
    have hF5 : F1 [] [3, 4, 5, 6] I (up2 I1 1 5 (I1 1 3)) := hF.uf (by decide)
    have hT5 : CT (up2 I1 1 5 (I1 1 3)) t n := hT.f1 hF5 (by decide) (by decide)
    have h35 : (up2 I1 1 5 (I1 1 3)) 1 3 = nI b := by simpa [up2] using h31
    have h55 : (up2 I1 1 5 (I1 1 3)) 1 5 = nI b := by simpa [up2] using h31
    have hbb : b < n → vp_in (I1 1 3) 900 := fun g => by rw [h31]; exact vp_in_nI (by omega) (by decide)
    have hv : b < n → I1 2 (I1 1 3).toNatClampNeg = sby (t b) := fun g => by rw [h31, nI_clamp (by omega)]; exact hT1.2.1 b g
    have c1i : (I1 1 3 < I1 1 2) = (b < n) := by rw [h31, hT1.1]; exact propext (nI_ltI (by omega) (by omega))
    have to128 : b < n → qlet (t b) = false → hX6_advance_128 l G k (fun r μ' => r = .inl none ∧ ∃ I', μ' = (I', J, R, S, nx) ∧ F1 [] [3, 4, 5, 6] I I' ∧ Ck I' s) (up2 I1 1 5 (I1 1 3), J, R, S, nx) → hX6_advance_52 l G k (fun r μ' => r = .inl none ∧ ∃ I', μ' = (I', J, R, S, nx) ∧ F1 [] [3, 4, 5, 6] I I' ∧ Ck I' s) (I1, J, R, S, nx) := by
      intro g1 g2 g3
      have hq := sb_let (t b) (ht b g1)
      rw [← hv g1] at hq
      have hno : ¬ (¬ I1 2 (I1 1 3).toNatClampNeg < (97 : Int32) ∧ ¬ (122 : Int32) < I1 2 (I1 1 3).toNatClampNeg) := fun g => by rw [hq.mpr g] at g2; cases g2
      refine sX6_advance_52 (P1 := fun _ _ => True) (P2 := fun _ _ => True) (u2 := 0) w (fun _ => hbb g1) (fun _ _ => g3) (fun _ _ => hbb g1) (fun _ _ _ => g3) ?_ ?_ ?_ ?_
      · intro _ x1 x2; exact absurd ⟨x1, x2⟩ hno
      · intro _ x1 x2; exact absurd ⟨x1, x2⟩ hno
      · intro _ x1 x2; exact absurd ⟨x1, x2⟩ hno
      · intro g; rw [c1i] at g; exact absurd g1 g
    rcases hc with ⟨h1, e⟩ | ⟨h1, h2, e, he, hx⟩ | ⟨h1, h2, h4, e, he, hx⟩ | ⟨h1, h2, h4, hx⟩
    · have c1 : ¬ I1 1 3 < I1 1 2 := by rw [c1i]; omega
      refine sX6_advance_52 (P1 := fun _ _ => True) (P2 := fun _ _ => True) (u2 := 0) w ?_ ?_ ?_ ?_ ?_ ?_ ?_ ?_ <;> intros <;> (first | exact absurd (by with_reducible assumption) c1 | exact absurd c1 (by with_reducible assumption) | skip)
      refine ⟨rfl, _, rfl, hF5.uf (by decide), ?_⟩
      rw [e]
      exact ⟨by simpa [up2] using h31, by simpa [up2] using h31, by simp [up2]; rfl, fun h => (by cases h)⟩
    · have hl2 := qsk_le (fun j => qlet (t j)) (n - b) b
      rw [← he] at hl2
      have hbe : b < e := by
        rw [he, qsk_y (p := fun j => qlet (t j)) (f := n - b) (h := b) (by omega) h2]
        have := qsk_le (fun j => qlet (t j)) (n - b - 1) (b + 1); omega
      have hq := (sb_let (t b) (ht b h1)).mp h2
      rw [← hv h1] at hq
      obtain ⟨q1, q2⟩ := hq
      have c1 : I1 1 3 < I1 1 2 := by rw [c1i]; exact h1
      refine sX6_advance_52 (P1 := fun Ia Ib => F1 [] [3] Ia Ib ∧ Ib 1 3 = nI e) (P2 := fun Ia Ib => Ib = Ia) (u2 := nI (qwc (qwrd t b e))) w ?_ ?_ ?_ ?_ ?_ ?_ ?_ ?_ <;> intros <;> (first | exact absurd (by with_reducible assumption) c1 | exact absurd c1 (by with_reducible assumption) | exact absurd (by with_reducible assumption) q1 | exact absurd q1 (by with_reducible assumption) | exact absurd (by with_reducible assumption) q2 | exact absurd q2 (by with_reducible assumption) | skip)
      · exact hbb h1
      · exact hbb h1
      · have := skip_c (l := l) (G := G) (k := k + 5) (J := J) w hT5 sb_let h35 (by omega)
        rw [← he] at this
        exact this
      · rename_i I2 g
        have hF2 := hF5.t (g.1.wk (fun _ h => h) (by decide))
        exact wordHere_c w hG (hT.f1 hF2 (by decide) (by decide)) g.2 (by rw [g.1.2 5 (by decide)]; exact h55) ⟨hbe, by omega⟩
      · rename_i I2 g I3 g2
        subst g2
        have hF2 := hF5.t (g.1.wk (fun _ h => h) (by decide))
        refine ⟨rfl, _, rfl, hF2.uf (by decide), ?_⟩
        have hwc := qwc_ge (qwrd t b e)
        rw [hx]
        exact ⟨by simpa [up2] using g.2, by simp [up2]; rw [g.1.2 5 (by decide)]; exact h55, by simp [up2], fun h => (by have : qwc (qwrd t b e) = 256 := h; omega)⟩
    · refine to128 h1 h2 ?_
      have hl2 := qsk_le (fun j => qdig (t j)) (n - b) b
      have hin := qsk_in (fun j => qdig (t j)) (n - b) b
      rw [← he] at hl2 hin
      have hv5 : (up2 I1 1 5 (I1 1 3)) 2 ((up2 I1 1 5 (I1 1 3)) 1 3).toNatClampNeg = sby (t b) := by rw [h35, nI_clamp (by omega)]; exact hT5.2.1 b h1
      have hq := (sb_dig (t b) (ht b h1)).mp h4
      rw [← hv5] at hq
      obtain ⟨q1, q2⟩ := hq
      have hb5 : vp_in ((up2 I1 1 5 (I1 1 3)) 1 3) 900 := by rw [h35]; exact vp_in_nI (by omega) (by decide)
      generalize hI5 : up2 I1 1 5 (I1 1 3) = I5 at *
      have e3 : ∀ I2 : Nat → Nat → Int32, F1 [] [3] I5 I2 → I2 1 3 = nI e → ((3 : Int32) < I2 1 3 - I2 1 5) = (3 < e - b) := fun I2 g1 g2 => by
        rw [g2, g1.2 5 (by decide), h55, pk_sub (by omega)]; exact propext (nI_ltI (a := 3) (by decide) (by omega))
      have nh : ∀ (I2 : Nat → Nat → Int32) (v : Int32), F1 [] [3] I5 I2 → I2 1 3 = nI e → Cal l G (k + 5) 0 0 mX6_numberHere [.ref 1] (up2 I2 1 4 v, J, R, S, nx) (fun r μ' => r = .inl (some (.int (nI (qnum t b (min 3 (e - b)))))) ∧ ∃ I', μ' = (I', J, R, S, nx) ∧ I' = up2 I2 1 4 v) := by
        intro I2 v g1 g2
        have hF2 : F1 [] [3, 4, 5, 6] I (up2 I2 1 4 v) := (hF5.t (g1.wk (fun _ h => h) (by decide))).uf (by decide)
        exact numberHere_c w (hT.f1 hF2 (by decide) (by decide)) (by simpa [up2] using g2) (by simp [up2]; rw [g1.2 5 (by decide)]; exact h55) ⟨by omega, by omega⟩ (fun j j1 j2 => hin j j1 j2)
      refine sX6_advance_128 (P1 := fun Ia Ib => F1 [] [3] Ia Ib ∧ Ib 1 3 = nI e) (P2 := fun Ia Ib => Ib = Ia) (P3 := fun Ia Ib => Ib = Ia) (u2 := nI (qnum t b (min 3 (e - b)))) (u3 := nI (qnum t b (min 3 (e - b)))) w ?_ ?_ ?_ ?_ ?_ ?_ ?_ ?_ ?_ <;> intros <;> (first | exact absurd (by with_reducible assumption) q1 | exact absurd q1 (by with_reducible assumption) | exact absurd (by with_reducible assumption) q2 | exact absurd q2 (by with_reducible assumption) | skip)
      · exact hb5
      · exact hb5
      · have := skip_c (l := l) (G := G) (k := k + 5) (J := J) w hT5 sb_dig h35 (by omega)
        rw [← he] at this
        exact this
      · rename_i I2 g _; exact nh I2 _ g.1 g.2
      · rename_i I2 g g3 I3 g2
        subst g2
        rw [e3 I2 g.1 g.2] at g3
        have hF2 := hF5.t (g.1.wk (fun _ h => h) (by decide))
        refine ⟨rfl, _, rfl, (hF2.uf (by decide)).uf (by decide), ?_⟩
        rw [hx, if_pos g3]
        exact ⟨by simpa [up2] using g.2, by simp [up2]; rw [g.1.2 5 (by decide)]; exact h55, by simp [up2]; rfl, fun h => (by cases h)⟩
      · rename_i I2 g _; exact nh I2 _ g.1 g.2
      · rename_i I2 g g3 I3 g2
        subst g2
        rw [e3 I2 g.1 g.2] at g3
        have hF2 := hF5.t (g.1.wk (fun _ h => h) (by decide))
        refine ⟨rfl, _, rfl, (hF2.uf (by decide)).uf (by decide), ?_⟩
        rw [hx, if_neg g3]
        exact ⟨by simpa [up2] using g.2, by simp [up2]; rw [g.1.2 5 (by decide)]; exact h55, by simp [up2]; rfl, fun _ => by simp [up2]⟩
    · refine to128 h1 h2 ?_
      have hv5 : (up2 I1 1 5 (I1 1 3)) 2 ((up2 I1 1 5 (I1 1 3)) 1 3).toNatClampNeg = sby (t b) := by rw [h35, nI_clamp (by omega)]; exact hT5.2.1 b h1
      have hq := sb_dig (t b) (ht b h1)
      have hb5 : vp_in ((up2 I1 1 5 (I1 1 3)) 1 3) 900 := by rw [h35]; exact vp_in_nI (by omega) (by decide)
      have hsg := sb_sgn (t b) (ht b h1)
      generalize hI5 : up2 I1 1 5 (I1 1 3) = I5 at *
      rw [← hv5] at hq hsg
      have hno : ¬ (¬ I5 2 (I5 1 3).toNatClampNeg < (48 : Int32) ∧ ¬ (57 : Int32) < I5 2 (I5 1 3).toNatClampNeg) := fun g => by rw [hq.mpr g] at h4; cases h4
      have last : hX6_advance_201 l G k (fun r μ' => r = .inl none ∧ ∃ I', μ' = (I', J, R, S, nx) ∧ F1 [] [3, 4, 5, 6] I I' ∧ Ck I' s) (I5, J, R, S, nx) := by
        refine sX6_advance_201 w hb5 ?_ (fun _ => hb5) ?_
        · intro g
          have g1 := hsg.1.mp g
          refine ⟨rfl, _, rfl, (hF5.uf (by decide)).uf (by decide), ?_⟩
          rw [hx, if_neg (by rw [g1]; decide)]
          exact ⟨by simp [up2]; rw [h35, nI_1], by simpa [up2] using h55, by simp [up2]; rfl, fun h => (by cases h)⟩
        · intro g
          have g1 : qsgn (t b) = true := by
            cases hc : qsgn (t b) with
            | true => rfl
            | false => exact absurd (hsg.1.mpr hc) g
          refine ⟨rfl, _, rfl, (hF5.uf (by decide)).uf (by decide), ?_⟩
          rw [hx, if_pos g1]
          exact ⟨by simp [up2]; rw [h35, nI_1], by simpa [up2] using h55, by simp [up2]; exact hsg.2 g1, fun h => (by have h' : t b = 256 := h; have := ht b h1; omega)⟩
      refine sX6_advance_128 (P1 := fun _ _ => True) (P2 := fun _ _ => True) (P3 := fun _ _ => True) (u2 := 0) (u3 := 0) w hb5 (fun _ => last) (fun _ => hb5) (fun _ _ => last) ?_ ?_ ?_ ?_ ?_
      · intro x1 x2; exact absurd ⟨x1, x2⟩ hno
      · intro x1 x2; exact absurd ⟨x1, x2⟩ hno
      · intro x1 x2; exact absurd ⟨x1, x2⟩ hno
      · intro x1 x2; exact absurd ⟨x1, x2⟩ hno
      · intro x1 x2; exact absurd ⟨x1, x2⟩ hno
  have key : ∀ (d h1 : Nat) (I1 : Nat → Nat → Int32), h1 + d = n → F1 [] [3, 4, 5, 6] I I1 → I1 1 3 = nI h1 → qsk (fun j => qspc (t j)) (n - h1) h1 = b → hX6_advance_0 l G k (fun r μ' => r = .inl none ∧ ∃ I', μ' = (I', J, R, S, nx) ∧ F1 [] [3, 4, 5, 6] I I' ∧ Ck I' s) (I1, J, R, S, nx) := by
    intro d
    induction d with
    | zero =>
      intro h1 I1 hd hF h31 hq
      have hT1 : CT I1 t n := hT.f1 hF (by decide) (by decide)
      have c1 : I1 1 2 ≤ I1 1 3 := by rw [hT1.1, h31]; exact nI_le (by omega) (by omega)
      have hb0 : h1 = b := by rw [← hq, show n - h1 = 0 by omega]; rfl
      refine sX6_advance_0 w ?_ ?_ ?_ ?_ ?_ ?_ <;> intros <;> (first | exact absurd (by with_reducible assumption) c1 | exact absurd c1 (by with_reducible assumption) | skip)
      exact fin I1 hF (by rw [h31, hb0])
    | succ d ih =>
      intro h1 I1 hd hF h31 hq
      have hT1 : CT I1 t n := hT.f1 hF (by decide) (by decide)
      have c1 : ¬ I1 1 2 ≤ I1 1 3 := by rw [hT1.1, h31]; exact nI_ge (by omega) (by omega)
      have hv : I1 2 (I1 1 3).toNatClampNeg = sby (t h1) := by rw [h31, nI_clamp (by omega)]; exact hT1.2.1 h1 (by omega)
      have hsp := sb_sp (t h1) (ht h1 (by omega))
      rw [← hv] at hsp
      have hbb : vp_in (I1 1 3) 900 := by rw [h31]; exact vp_in_nI (by omega) (by decide)
      have step : qspc (t h1) = true → hX6_advance_39 l G k (fun r μ' => r = .inl none ∧ ∃ I', μ' = (I', J, R, S, nx) ∧ F1 [] [3, 4, 5, 6] I I' ∧ Ck I' s) (I1, J, R, S, nx) := by
        intro hsp
        refine sX6_advance_39 w ?_
        refine ih (h1 + 1) _ (by omega) (hF.uf (by decide)) (by simp [up2]; rw [h31, nI_1]) ?_
        rw [qsk_y (p := fun j => qspc (t j)) (f := n - h1) (h := h1) (by omega) hsp] at hq
        rw [show n - (h1 + 1) = n - h1 - 1 by omega]; exact hq
      refine sX6_advance_0 w ?_ ?_ ?_ ?_ ?_ ?_ <;> intros <;> (first | exact absurd (by with_reducible assumption) c1 | exact absurd c1 (by with_reducible assumption) | skip)
      · exact hbb
      · rename_i g; exact step (hsp.mpr (Or.inl g))
      · exact hbb
      · rename_i g1 g2
        have hno : qspc (t h1) = false := by
          cases hc : qspc (t h1) with
          | false => rfl
          | true => exact ((hsp.mp hc).elim g1 g2).elim
        have hb0 : h1 = b := by rw [← hq]; exact (qsk_n (p := fun j => qspc (t j)) hno).symm
        exact fin I1 hF (by rw [h31, hb0])
      · rename_i g; exact step (hsp.mpr (Or.inr g))
  exact Cal.of rfl (by decide +kernel) (by simp) (Nat.le_of_ble_eq_true rfl) rfl (key (n - h) h I (by omega) F1.rf h3 hb.symm)
end A
