/-! the reference: terms, sums, truths read, level by level -/
section A
variable {l : Launch} {G : Gh} {k : Nat} {I : Nat → Nat → Int32} {J : Nat → Nat → Int64} {R : Nat → Nat → Option Nat} {S : Nat → Nat × Nat} {nx : Nat} {κ : Nat → Nat} {hb pb : Nat}
variable {t tel : Nat → Nat} {n d F : Nat} {m : Bool} {x : Er ⊕ Ex}
theorem both_c {su un tr : Ex → Er ⊕ Ex} (hG : GT G) (hx : Tx t n) (hF : n < F) (hg : Gd t n (xunit t n F m (6 - d) su un tr)) (hi : RdC l G mX12_readUnit (51 + 8 * (6 - d)) t n m d (xunit t n F m (6 - d) su un tr)) : RdC l G mX12_readBoth (52 + 8 * (6 - d)) t n m d (xboth t n F m (6 - d) su un tr) := by
  obtain ⟨f, hf⟩ : ∃ f, xunit t n F m (6 - d) su un tr = f := ⟨_, rfl⟩
  rw [hf] at hg hi
  have e : ∀ s, xboth t n F m (6 - d) su un tr s = xb (f s) (xlp (fun s => decide (s.1.2.2.1 = 312)) (fun s => xb (f (xad t n s)) (fun s' => .inr (xput 16 s'))) F) := fun s => by unfold xboth; rw [hf]
  obtain ⟨g, hgg⟩ : ∃ g, xboth t n F m (6 - d) su un tr = g := ⟨_, rfl⟩
  rw [hgg] at e ⊢
  intro k I J R S nx tel x w h
  rw [show k + (52 + 8 * (6 - d)) = (k + 12 + 8 * (6 - d)) + 40 by omega]
  have z0 : (0 : Int32) = 0 := rfl
  have z1 : ¬ (1 : Int32) = 0 := by decide
  have hi' : ∀ (I1 : Nat → Nat → Int32) (y : Er ⊕ Ex), EX I1 t n m tel d y → Cal l G (k + 12 + 8 * (6 - d) + 39) 0 0 mX12_readUnit [.ref 43] (I1, J, R, S, nx) (fun r μ' => r = .inl none ∧ ∃ I', μ' = (I', J, R, S, nx) ∧ FE I1 I' ∧ EX I' t n m tel d (xb y f)) := by
    intro I1 y h1
    have := hi k I1 J R S nx tel y w h1
    rw [show k + (51 + 8 * (6 - d)) = k + 12 + 8 * (6 - d) + 39 by omega] at this
    exact this
  obtain ⟨kk, hkk⟩ : ∃ kk, k + 12 + 8 * (6 - d) = kk := ⟨_, rfl⟩
  rw [hkk] at hi' ⊢
  -- the loop
  have loop : ∀ (q : Nat) (y : Er ⊕ Ex) (I1 : Nat → Nat → Int32), FE I I1 → EX I1 t n m tel d y → (∀ s, y = .inr s → n - s.1.1 < q) → hX12_readBoth_4 l G kk (fun r μ' => r = .inl none ∧ ∃ I', μ' = (I', J, R, S, nx) ∧ FE I I' ∧ EX I' t n m tel d (xb y (xlp (fun s => decide (s.1.2.2.1 = 312)) (fun s => xb (f (xad t n s)) (fun s' => .inr (xput 16 s'))) q))) (I1, J, R, S, nx) := by
    have stop : ∀ (q : Nat) (y : Er ⊕ Ex) (I1 : Nat → Nat → Int32), FE I I1 → EX I1 t n m tel d y → tis 312 (xt y) = false → hX12_readBoth_4 l G kk (fun r μ' => r = .inl none ∧ ∃ I', μ' = (I', J, R, S, nx) ∧ FE I I' ∧ EX I' t n m tel d (xb y (xlp (fun s => decide (s.1.2.2.1 = 312)) (fun s => xb (f (xad t n s)) (fun s' => .inr (xput 16 s'))) q))) (I1, J, R, S, nx) := by
      intro q y I1 hFE h1 hn
      have ey : xb y (xlp (fun s => decide (s.1.2.2.1 = 312)) (fun s => xb (f (xad t n s)) (fun s' => .inr (xput 16 s'))) q) = y := by
        cases y with
        | inl e => rfl
        | inr s => exact xlp_n (c := fun s => decide (s.1.2.2.1 = 312)) hn
      rw [ey]
      refine sX12_readBoth_4 (u1 := 0) (P1 := fun I I' => FE I I' ∧ EX I' t n m tel d y) (P2 := fun _ _ => True) (P3 := fun _ _ => True) w (took_f (si := 33) w hG h1 (by decide) hn) ?_ ?_ ?_ ?_ <;> intros <;> (first | exact absurd (by with_reducible assumption) z0 | exact absurd z0 (by with_reducible assumption) | skip)
      rename_i I2 h2 _; exact ⟨rfl, _, rfl, hFE.tr h2.1, h2.2⟩
    intro q
    induction q with
    | zero =>
      intro y I1 hFE h1 hq
      cases y with
      | inl e => exact stop 0 _ I1 hFE h1 rfl
      | inr s => have := hq s rfl; omega
    | succ q ih =>
      intro y I1 hFE h1 hq
      cases hn : tis 312 (xt y) with
      | false => exact stop (q + 1) y I1 hFE h1 hn
      | true =>
        cases y with
        | inl e => cases hn
        | inr s =>
          have hc : s.1.2.2.1 = 312 := by
            have : decide (s.1.2.2.1 = 312) = true := hn
            rw [decide_eq_true_eq] at this; exact this
          have h7 : s.1.2.2.1 ≠ 257 := by omega
          have hq1 := hq s rfl
          have ea := xad_r h1.wf hx
          have hbe := Gd.beh (v := 16) hx hg h1.wf h7
          have es : xb (.inr s : Er ⊕ Ex) (xlp (fun s => decide (s.1.2.2.1 = 312)) (fun s => xb (f (xad t n s)) (fun s' => .inr (xput 16 s'))) (q + 1)) = xb (xb (f (xad t n s)) (fun s' => .inr (xput 16 s'))) (xlp (fun s => decide (s.1.2.2.1 = 312)) (fun s => xb (f (xad t n s)) (fun s' => .inr (xput 16 s'))) q) := xlp_y (c := fun s => decide (s.1.2.2.1 = 312)) (b := fun s => xb (f (xad t n s)) (fun s' => .inr (xput 16 s'))) (f := q) (s := s) hn
          rw [es]
          refine sX12_readBoth_4 (u1 := 1) (P1 := fun I I' => FE I I' ∧ EX I' t n m tel d (.inr (xad t n s))) (P2 := fun I I' => FE I I' ∧ EX I' t n m tel d (f (xad t n s))) (P3 := fun I I' => FE I I' ∧ EX I' t n m tel d (xb (f (xad t n s)) (fun s' => .inr (xput 16 s')))) w (took_e (si := 33) w hG h1 (by decide) hc) ?_ ?_ ?_ ?_ <;> intros <;> (first | exact absurd (by with_reducible assumption) z1 | exact absurd z1 (by with_reducible assumption) | skip)
          · rename_i I2 h2 _; exact hi' I2 _ h2.2
          · rename_i I2 h2 _ I3 h3; exact laysS_r (v := 16) w h3.2 (fun s1 hs1 => room_e hx h1.wf h1.2.2.2.1 h7 (hg (xad t n s) ea.1 |>.2 s1 hs1).2)
          · rename_i I2 h2 _ I3 h3 I4 h4
            refine ih _ I4 (((hFE.tr h2.1).tr h3.1).tr h4.1) h4.2 (fun s2 hs2 => ?_)
            have := (hbe.2 s2 hs2).2
            have hg2 := (hbe.2 s2 hs2).1.1.g hx
            omega
  refine Cal.of rfl (by decide +kernel) (by simp) (Nat.le_of_ble_eq_true rfl) rfl (sX12_readBoth_0 (k := kk) (P1 := fun I I' => FE I I' ∧ EX I' t n m tel d (xb x f)) w (hi' I x h) (fun I1 h1 => ?_))
  have ex2 : xb x g = xb (xb x f) (xlp (fun s => decide (s.1.2.2.1 = 312)) (fun s => xb (f (xad t n s)) (fun s' => .inr (xput 16 s'))) F) := by
    cases x with
    | inl e => rfl
    | inr s => exact e s
  rw [ex2]
  exact loop F _ I1 h1.1 h1.2 (fun s hs => by omega)
theorem truth_c {su un tr : Ex → Er ⊕ Ex} (hG : GT G) (hx : Tx t n) (hF : n < F) (hg : Gd t n (xboth t n F m (6 - d) su un tr)) (hi : RdC l G mX12_readBoth (52 + 8 * (6 - d)) t n m d (xboth t n F m (6 - d) su un tr)) : RdC l G mX12_readTruth (53 + 8 * (6 - d)) t n m d (xtruth t n F m (6 - d) su un tr) := by
  obtain ⟨f, hf⟩ : ∃ f, xboth t n F m (6 - d) su un tr = f := ⟨_, rfl⟩
  rw [hf] at hg hi
  have e : ∀ s, xtruth t n F m (6 - d) su un tr s = xb (f s) (xlp (fun s => decide (s.1.2.2.1 = 311)) (fun s => xb (f (xad t n s)) (fun s' => .inr (xput 17 s'))) F) := fun s => by unfold xtruth; rw [hf]
  obtain ⟨g, hgg⟩ : ∃ g, xtruth t n F m (6 - d) su un tr = g := ⟨_, rfl⟩
  rw [hgg] at e ⊢
  intro k I J R S nx tel x w h
  rw [show k + (53 + 8 * (6 - d)) = (k + 13 + 8 * (6 - d)) + 40 by omega]
  have z0 : (0 : Int32) = 0 := rfl
  have z1 : ¬ (1 : Int32) = 0 := by decide
  have hi' : ∀ (I1 : Nat → Nat → Int32) (y : Er ⊕ Ex), EX I1 t n m tel d y → Cal l G (k + 13 + 8 * (6 - d) + 39) 0 0 mX12_readBoth [.ref 43] (I1, J, R, S, nx) (fun r μ' => r = .inl none ∧ ∃ I', μ' = (I', J, R, S, nx) ∧ FE I1 I' ∧ EX I' t n m tel d (xb y f)) := by
    intro I1 y h1
    have := hi k I1 J R S nx tel y w h1
    rw [show k + (52 + 8 * (6 - d)) = k + 13 + 8 * (6 - d) + 39 by omega] at this
    exact this
  obtain ⟨kk, hkk⟩ : ∃ kk, k + 13 + 8 * (6 - d) = kk := ⟨_, rfl⟩
  rw [hkk] at hi' ⊢
  -- the loop
  have loop : ∀ (q : Nat) (y : Er ⊕ Ex) (I1 : Nat → Nat → Int32), FE I I1 → EX I1 t n m tel d y → (∀ s, y = .inr s → n - s.1.1 < q) → hX12_readTruth_4 l G kk (fun r μ' => r = .inl none ∧ ∃ I', μ' = (I', J, R, S, nx) ∧ FE I I' ∧ EX I' t n m tel d (xb y (xlp (fun s => decide (s.1.2.2.1 = 311)) (fun s => xb (f (xad t n s)) (fun s' => .inr (xput 17 s'))) q))) (I1, J, R, S, nx) := by
    have stop : ∀ (q : Nat) (y : Er ⊕ Ex) (I1 : Nat → Nat → Int32), FE I I1 → EX I1 t n m tel d y → tis 311 (xt y) = false → hX12_readTruth_4 l G kk (fun r μ' => r = .inl none ∧ ∃ I', μ' = (I', J, R, S, nx) ∧ FE I I' ∧ EX I' t n m tel d (xb y (xlp (fun s => decide (s.1.2.2.1 = 311)) (fun s => xb (f (xad t n s)) (fun s' => .inr (xput 17 s'))) q))) (I1, J, R, S, nx) := by
      intro q y I1 hFE h1 hn
      have ey : xb y (xlp (fun s => decide (s.1.2.2.1 = 311)) (fun s => xb (f (xad t n s)) (fun s' => .inr (xput 17 s'))) q) = y := by
        cases y with
        | inl e => rfl
        | inr s => exact xlp_n (c := fun s => decide (s.1.2.2.1 = 311)) hn
      rw [ey]
      refine sX12_readTruth_4 (u1 := 0) (P1 := fun I I' => FE I I' ∧ EX I' t n m tel d y) (P2 := fun _ _ => True) (P3 := fun _ _ => True) w (took_f (si := 34) w hG h1 (by decide) hn) ?_ ?_ ?_ ?_ <;> intros <;> (first | exact absurd (by with_reducible assumption) z0 | exact absurd z0 (by with_reducible assumption) | skip)
      rename_i I2 h2 _; exact ⟨rfl, _, rfl, hFE.tr h2.1, h2.2⟩
    intro q
    induction q with
    | zero =>
      intro y I1 hFE h1 hq
      cases y with
      | inl e => exact stop 0 _ I1 hFE h1 rfl
      | inr s => have := hq s rfl; omega
    | succ q ih =>
      intro y I1 hFE h1 hq
      cases hn : tis 311 (xt y) with
      | false => exact stop (q + 1) y I1 hFE h1 hn
      | true =>
        cases y with
        | inl e => cases hn
        | inr s =>
          have hc : s.1.2.2.1 = 311 := by
            have : decide (s.1.2.2.1 = 311) = true := hn
            rw [decide_eq_true_eq] at this; exact this
          have h7 : s.1.2.2.1 ≠ 257 := by omega
          have hq1 := hq s rfl
          have ea := xad_r h1.wf hx
          have hbe := Gd.beh (v := 17) hx hg h1.wf h7
          have es : xb (.inr s : Er ⊕ Ex) (xlp (fun s => decide (s.1.2.2.1 = 311)) (fun s => xb (f (xad t n s)) (fun s' => .inr (xput 17 s'))) (q + 1)) = xb (xb (f (xad t n s)) (fun s' => .inr (xput 17 s'))) (xlp (fun s => decide (s.1.2.2.1 = 311)) (fun s => xb (f (xad t n s)) (fun s' => .inr (xput 17 s'))) q) := xlp_y (c := fun s => decide (s.1.2.2.1 = 311)) (b := fun s => xb (f (xad t n s)) (fun s' => .inr (xput 17 s'))) (f := q) (s := s) hn
          rw [es]
          refine sX12_readTruth_4 (u1 := 1) (P1 := fun I I' => FE I I' ∧ EX I' t n m tel d (.inr (xad t n s))) (P2 := fun I I' => FE I I' ∧ EX I' t n m tel d (f (xad t n s))) (P3 := fun I I' => FE I I' ∧ EX I' t n m tel d (xb (f (xad t n s)) (fun s' => .inr (xput 17 s')))) w (took_e (si := 34) w hG h1 (by decide) hc) ?_ ?_ ?_ ?_ <;> intros <;> (first | exact absurd (by with_reducible assumption) z1 | exact absurd z1 (by with_reducible assumption) | skip)
          · rename_i I2 h2 _; exact hi' I2 _ h2.2
          · rename_i I2 h2 _ I3 h3; exact laysS_r (v := 17) w h3.2 (fun s1 hs1 => room_e hx h1.wf h1.2.2.2.1 h7 (hg (xad t n s) ea.1 |>.2 s1 hs1).2)
          · rename_i I2 h2 _ I3 h3 I4 h4
            refine ih _ I4 (((hFE.tr h2.1).tr h3.1).tr h4.1) h4.2 (fun s2 hs2 => ?_)
            have := (hbe.2 s2 hs2).2
            have hg2 := (hbe.2 s2 hs2).1.1.g hx
            omega
  refine Cal.of rfl (by decide +kernel) (by simp) (Nat.le_of_ble_eq_true rfl) rfl (sX12_readTruth_0 (k := kk) (P1 := fun I I' => FE I I' ∧ EX I' t n m tel d (xb x f)) w (hi' I x h) (fun I1 h1 => ?_))
  have ex2 : xb x g = xb (xb x f) (xlp (fun s => decide (s.1.2.2.1 = 311)) (fun s => xb (f (xad t n s)) (fun s' => .inr (xput 17 s'))) F) := by
    cases x with
    | inl e => rfl
    | inr s => exact e s
  rw [ex2]
  exact loop F _ I1 h1.1 h1.2 (fun s hs => by omega)
theorem term_c {su : Ex → Er ⊕ Ex} (hx : Tx t n) (hF : n < F) (hg : Gd t n (xatom t n m (6 - d) su)) (hi : RdC l G mX12_readAtom (48 + 8 * (6 - d)) t n m d (xatom t n m (6 - d) su)) : RdC l G mX12_readTerm (49 + 8 * (6 - d)) t n m d (xterm t n F m (6 - d) su) := by
  obtain ⟨f, hf⟩ : ∃ f, xatom t n m (6 - d) su = f := ⟨_, rfl⟩
  rw [hf] at hg hi
  have e : ∀ s, xterm t n F m (6 - d) su s = xb (f s) (xlp (fun s => decide (s.1.2.2.1 = 42)) (fun s => xb (f (xad t n s)) (fun s' => .inr (xput 12 s'))) F) := fun s => by unfold xterm; rw [hf]
  obtain ⟨g, hgg⟩ : ∃ g, xterm t n F m (6 - d) su = g := ⟨_, rfl⟩
  rw [hgg] at e ⊢
  intro k I J R S nx tel x w h
  rw [show k + (49 + 8 * (6 - d)) = (k + 9 + 8 * (6 - d)) + 40 by omega]
  have z0 : (0 : Int32) = 0 := rfl
  have z1 : ¬ (1 : Int32) = 0 := by decide
  have hi' : ∀ (I1 : Nat → Nat → Int32) (y : Er ⊕ Ex), EX I1 t n m tel d y → Cal l G (k + 9 + 8 * (6 - d) + 39) 0 0 mX12_readAtom [.ref 43] (I1, J, R, S, nx) (fun r μ' => r = .inl none ∧ ∃ I', μ' = (I', J, R, S, nx) ∧ FE I1 I' ∧ EX I' t n m tel d (xb y f)) := by
    intro I1 y h1
    have := hi k I1 J R S nx tel y w h1
    rw [show k + (48 + 8 * (6 - d)) = k + 9 + 8 * (6 - d) + 39 by omega] at this
    exact this
  obtain ⟨kk, hkk⟩ : ∃ kk, k + 9 + 8 * (6 - d) = kk := ⟨_, rfl⟩
  rw [hkk] at hi' ⊢
  -- the loop
  have loop : ∀ (q : Nat) (y : Er ⊕ Ex) (I1 : Nat → Nat → Int32), FE I I1 → EX I1 t n m tel d y → (∀ s, y = .inr s → n - s.1.1 < q) → hX12_readTerm_4 l G kk (fun r μ' => r = .inl none ∧ ∃ I', μ' = (I', J, R, S, nx) ∧ FE I I' ∧ EX I' t n m tel d (xb y (xlp (fun s => decide (s.1.2.2.1 = 42)) (fun s => xb (f (xad t n s)) (fun s' => .inr (xput 12 s'))) q))) (I1, J, R, S, nx) := by
    have stop : ∀ (q : Nat) (y : Er ⊕ Ex) (I1 : Nat → Nat → Int32), FE I I1 → EX I1 t n m tel d y → tis 42 (xt y) = false → hX12_readTerm_4 l G kk (fun r μ' => r = .inl none ∧ ∃ I', μ' = (I', J, R, S, nx) ∧ FE I I' ∧ EX I' t n m tel d (xb y (xlp (fun s => decide (s.1.2.2.1 = 42)) (fun s => xb (f (xad t n s)) (fun s' => .inr (xput 12 s'))) q))) (I1, J, R, S, nx) := by
      intro q y I1 hFE h1 hn
      have ey : xb y (xlp (fun s => decide (s.1.2.2.1 = 42)) (fun s => xb (f (xad t n s)) (fun s' => .inr (xput 12 s'))) q) = y := by
        cases y with
        | inl e => rfl
        | inr s => exact xlp_n (c := fun s => decide (s.1.2.2.1 = 42)) hn
      rw [ey]
      have c2 : v_X12_isSign I1 (42 : Int32) = 0 := by
        have := h1.sign (c := 42) (by decide) (by decide)
        rw [hn] at this; exact this
      refine sX12_readTerm_4 (P1 := fun _ _ => True) (P2 := fun _ _ => True) (P3 := fun _ _ => True) w ?_ ?_ ?_ ?_ ?_ <;> intros <;> (first | exact absurd (by with_reducible assumption) c2 | exact absurd c2 (by with_reducible assumption) | skip)
      exact ⟨rfl, _, rfl, hFE, h1⟩
    intro q
    induction q with
    | zero =>
      intro y I1 hFE h1 hq
      cases y with
      | inl e => exact stop 0 _ I1 hFE h1 rfl
      | inr s => have := hq s rfl; omega
    | succ q ih =>
      intro y I1 hFE h1 hq
      cases hn : tis 42 (xt y) with
      | false => exact stop (q + 1) y I1 hFE h1 hn
      | true =>
        cases y with
        | inl e => cases hn
        | inr s =>
          have hc : s.1.2.2.1 = 42 := by
            have : decide (s.1.2.2.1 = 42) = true := hn
            rw [decide_eq_true_eq] at this; exact this
          have h7 : s.1.2.2.1 ≠ 257 := by omega
          have hq1 := hq s rfl
          have ea := xad_r h1.wf hx
          have hbe := Gd.beh (v := 12) hx hg h1.wf h7
          have es : xb (.inr s : Er ⊕ Ex) (xlp (fun s => decide (s.1.2.2.1 = 42)) (fun s => xb (f (xad t n s)) (fun s' => .inr (xput 12 s'))) (q + 1)) = xb (xb (f (xad t n s)) (fun s' => .inr (xput 12 s'))) (xlp (fun s => decide (s.1.2.2.1 = 42)) (fun s => xb (f (xad t n s)) (fun s' => .inr (xput 12 s'))) q) := xlp_y (c := fun s => decide (s.1.2.2.1 = 42)) (b := fun s => xb (f (xad t n s)) (fun s' => .inr (xput 12 s'))) (f := q) (s := s) hn
          rw [es]
          have c2 : ¬ v_X12_isSign I1 (42 : Int32) = 0 := by
            have := h1.sign (c := 42) (by decide) (by decide)
            rw [hn] at this
            rw [show v_X12_isSign I1 (42 : Int32) = v_X12_isSign I1 (nI 42) from rfl, this]; decide
          refine sX12_readTerm_4 (P1 := fun I I' => FE I I' ∧ EX I' t n m tel d (.inr (xad t n s))) (P2 := fun I I' => FE I I' ∧ EX I' t n m tel d (f (xad t n s))) (P3 := fun I I' => FE I I' ∧ EX I' t n m tel d (xb (f (xad t n s)) (fun s' => .inr (xput 12 s')))) w ?_ ?_ ?_ ?_ ?_ <;> intros <;> (first | exact absurd (by with_reducible assumption) c2 | exact absurd c2 (by with_reducible assumption) | skip)
          · exact reads_e (k := kk + 38) w h1
          · rename_i I2 h2; exact hi' I2 _ h2.2
          · rename_i I2 h2 I3 h3; exact laysS_r (v := 12) w h3.2 (fun s1 hs1 => room_e hx h1.wf h1.2.2.2.1 h7 (hg (xad t n s) ea.1 |>.2 s1 hs1).2)
          · rename_i I2 h2 I3 h3 I4 h4
            refine ih _ I4 (((hFE.tr h2.1).tr h3.1).tr h4.1) h4.2 (fun s2 hs2 => ?_)
            have := (hbe.2 s2 hs2).2
            have hg2 := (hbe.2 s2 hs2).1.1.g hx
            omega
  refine Cal.of rfl (by decide +kernel) (by simp) (Nat.le_of_ble_eq_true rfl) rfl (sX12_readTerm_0 (k := kk) (P1 := fun I I' => FE I I' ∧ EX I' t n m tel d (xb x f)) w (hi' I x h) (fun I1 h1 => ?_))
  have ex2 : xb x g = xb (xb x f) (xlp (fun s => decide (s.1.2.2.1 = 42)) (fun s => xb (f (xad t n s)) (fun s' => .inr (xput 12 s'))) F) := by
    cases x with
    | inl e => rfl
    | inr s => exact e s
  rw [ex2]
  exact loop F _ I1 h1.1 h1.2 (fun s hs => by omega)
theorem sum_c {su : Ex → Er ⊕ Ex} (hx : Tx t n) (hF : n < F) (hg : Gd t n (xterm t n F m (6 - d) su)) (hi : RdC l G mX12_readTerm (49 + 8 * (6 - d)) t n m d (xterm t n F m (6 - d) su)) : RdC l G mX12_readSum (50 + 8 * (6 - d)) t n m d (xsum t n F m (6 - d) su) := by
  obtain ⟨f, hf⟩ : ∃ f, xterm t n F m (6 - d) su = f := ⟨_, rfl⟩
  rw [hf] at hg hi
  have e : ∀ s, xsum t n F m (6 - d) su s = xb (f s) (xlp (fun s => decide (s.1.2.2.1 = 43 ∨ s.1.2.2.1 = 45)) (fun s => xb (f (xad t n s)) (fun s' => .inr (xput (if s.1.2.2.1 = 43 then 10 else 11) s'))) F) := fun s => by unfold xsum; rw [hf]
  obtain ⟨g, hgg⟩ : ∃ g, xsum t n F m (6 - d) su = g := ⟨_, rfl⟩
  rw [hgg] at e ⊢
  intro k I J R S nx tel x w h
  rw [show k + (50 + 8 * (6 - d)) = (k + 10 + 8 * (6 - d)) + 40 by omega]
  have z0 : (0 : Int32) = 0 := rfl
  have z1 : ¬ (1 : Int32) = 0 := by decide
  have hi' : ∀ (I1 : Nat → Nat → Int32) (y : Er ⊕ Ex), EX I1 t n m tel d y → Cal l G (k + 10 + 8 * (6 - d) + 39) 0 0 mX12_readTerm [.ref 43] (I1, J, R, S, nx) (fun r μ' => r = .inl none ∧ ∃ I', μ' = (I', J, R, S, nx) ∧ FE I1 I' ∧ EX I' t n m tel d (xb y f)) := by
    intro I1 y h1
    have := hi k I1 J R S nx tel y w h1
    rw [show k + (49 + 8 * (6 - d)) = k + 10 + 8 * (6 - d) + 39 by omega] at this
    exact this
  obtain ⟨kk, hkk⟩ : ∃ kk, k + 10 + 8 * (6 - d) = kk := ⟨_, rfl⟩
  rw [hkk] at hi' ⊢
  -- the loop
  have loop : ∀ (q : Nat) (y : Er ⊕ Ex) (I1 : Nat → Nat → Int32), FE I I1 → EX I1 t n m tel d y → (∀ s, y = .inr s → n - s.1.1 < q) → hX12_readSum_4 l G kk (fun r μ' => r = .inl none ∧ ∃ I', μ' = (I', J, R, S, nx) ∧ FE I I' ∧ EX I' t n m tel d (xb y (xlp (fun s => decide (s.1.2.2.1 = 43 ∨ s.1.2.2.1 = 45)) (fun s => xb (f (xad t n s)) (fun s' => .inr (xput (if s.1.2.2.1 = 43 then 10 else 11) s'))) q))) (I1, J, R, S, nx) := by
    have stop : ∀ (q : Nat) (y : Er ⊕ Ex) (I1 : Nat → Nat → Int32), FE I I1 → EX I1 t n m tel d y → (tis 43 (xt y) || tis 45 (xt y)) = false → hX12_readSum_4 l G kk (fun r μ' => r = .inl none ∧ ∃ I', μ' = (I', J, R, S, nx) ∧ FE I I' ∧ EX I' t n m tel d (xb y (xlp (fun s => decide (s.1.2.2.1 = 43 ∨ s.1.2.2.1 = 45)) (fun s => xb (f (xad t n s)) (fun s' => .inr (xput (if s.1.2.2.1 = 43 then 10 else 11) s'))) q))) (I1, J, R, S, nx) := by
      intro q y I1 hFE h1 hn
      have ey : xb y (xlp (fun s => decide (s.1.2.2.1 = 43 ∨ s.1.2.2.1 = 45)) (fun s => xb (f (xad t n s)) (fun s' => .inr (xput (if s.1.2.2.1 = 43 then 10 else 11) s'))) q) = y := by
        cases y with
        | inl e => rfl
        | inr s => exact xlp_n (c := fun s => decide (s.1.2.2.1 = 43 ∨ s.1.2.2.1 = 45)) (by rw [Bool.decide_or]; exact hn)
      rw [ey]
      rw [Bool.or_eq_false_iff] at hn
      have c2 : v_X12_isSign I1 (43 : Int32) = 0 := by
        have := h1.sign (c := 43) (by decide) (by decide)
        rw [hn.1] at this; exact this
      have c3 : v_X12_isSign I1 (45 : Int32) = 0 := by
        have := h1.sign (c := 45) (by decide) (by decide)
        rw [hn.2] at this; exact this
      refine sX12_readSum_4 w ?_ ?_ ?_ <;> intros <;> (first | exact absurd (by with_reducible assumption) c2 | exact absurd c2 (by with_reducible assumption) | exact absurd (by with_reducible assumption) c3 | exact absurd c3 (by with_reducible assumption) | skip)
      exact ⟨rfl, _, rfl, hFE, h1⟩
    intro q
    induction q with
    | zero =>
      intro y I1 hFE h1 hq
      cases y with
      | inl e => exact stop 0 _ I1 hFE h1 rfl
      | inr s => have := hq s rfl; omega
    | succ q ih =>
      intro y I1 hFE h1 hq
      cases hn : (tis 43 (xt y) || tis 45 (xt y)) with
      | false => exact stop (q + 1) y I1 hFE h1 hn
      | true =>
        cases y with
        | inl e => cases hn
        | inr s =>
          have hc : s.1.2.2.1 = 43 ∨ s.1.2.2.1 = 45 := by
            have : (decide (s.1.2.2.1 = 43) || decide (s.1.2.2.1 = 45)) = true := hn
            rw [← Bool.decide_or, decide_eq_true_eq] at this; exact this
          have h7 : s.1.2.2.1 ≠ 257 := by omega
          have hq1 := hq s rfl
          have ea := xad_r h1.wf hx
          have hbe := Gd.beh (v := if s.1.2.2.1 = 43 then 10 else 11) hx hg h1.wf h7
          have es : xb (.inr s : Er ⊕ Ex) (xlp (fun s => decide (s.1.2.2.1 = 43 ∨ s.1.2.2.1 = 45)) (fun s => xb (f (xad t n s)) (fun s' => .inr (xput (if s.1.2.2.1 = 43 then 10 else 11) s'))) (q + 1)) = xb (xb (f (xad t n s)) (fun s' => .inr (xput (if s.1.2.2.1 = 43 then 10 else 11) s'))) (xlp (fun s => decide (s.1.2.2.1 = 43 ∨ s.1.2.2.1 = 45)) (fun s => xb (f (xad t n s)) (fun s' => .inr (xput (if s.1.2.2.1 = 43 then 10 else 11) s'))) q) := xlp_y (c := fun s => decide (s.1.2.2.1 = 43 ∨ s.1.2.2.1 = 45)) (b := fun s => xb (f (xad t n s)) (fun s' => .inr (xput (if s.1.2.2.1 = 43 then 10 else 11) s'))) (f := q) (s := s) (by rw [decide_eq_true_eq]; exact hc)
          rw [es]
          have e10 : I1 43 10 = nI s.1.2.2.1 := by
            rw [h1.1.2.1.2.2.1]
            have hr : rtk s.1.2.2.1 = s.1.2.2.1 := by rcases hc with hc | hc <;> rw [hc] <;> rfl
            show nI (rtk s.1.2.2.1) = _
            rw [hr]
          have e43 : (I1 43 10 = (43 : Int32)) = (s.1.2.2.1 = 43) := by rw [e10]; exact propext (nI_eq (b := 43) (by omega) (by decide))
          obtain ⟨v, hv⟩ : ∃ v, (if s.1.2.2.1 = 43 then 10 else 11) = v := ⟨_, rfl⟩
          rw [hv] at hbe ⊢
          have on : hX12_readSum_22 l G kk (fun r μ' => r = .inl none ∧ ∃ I', μ' = (I', J, R, S, nx) ∧ FE I I' ∧ EX I' t n m tel d (xb (xb (f (xad t n s)) (fun s' => .inr (xput v s'))) (xlp (fun s => decide (s.1.2.2.1 = 43 ∨ s.1.2.2.1 = 45)) (fun s => xb (f (xad t n s)) (fun s' => .inr (xput (if s.1.2.2.1 = 43 then 10 else 11) s'))) q))) (I1, J, R, S, nx) := by
            have nxt1 : ∀ I4 : Nat → Nat → Int32, FE I I4 → EX I4 t n m tel d (xb (f (xad t n s)) (fun s' => .inr (xput v s'))) → hX12_readSum_4 l G kk (fun r μ' => r = .inl none ∧ ∃ I', μ' = (I', J, R, S, nx) ∧ FE I I' ∧ EX I' t n m tel d (xb (xb (f (xad t n s)) (fun s' => .inr (xput v s'))) (xlp (fun s => decide (s.1.2.2.1 = 43 ∨ s.1.2.2.1 = 45)) (fun s => xb (f (xad t n s)) (fun s' => .inr (xput (if s.1.2.2.1 = 43 then 10 else 11) s'))) q))) (I4, J, R, S, nx) := fun I4 hF4 h4 => by
              refine ih _ I4 hF4 h4 (fun s2 hs2 => ?_)
              have := (hbe.2 s2 hs2).2
              have hg2 := (hbe.2 s2 hs2).1.1.g hx
              omega
            have lay : ∀ I3 : Nat → Nat → Int32, EX I3 t n m tel d (f (xad t n s)) → Cal l G (kk + 39) 0 0 mX12_laysStep [.ref 43, .int (nI v)] (I3, J, R, S, nx) (fun r μ' => r = .inl none ∧ ∃ I', μ' = (I', J, R, S, nx) ∧ FE I3 I' ∧ EX I' t n m tel d (xb (f (xad t n s)) (fun s' => .inr (xput v s')))) := fun I3 h3 => laysS_r (v := v) w h3 (fun s1 hs1 => room_e hx h1.wf h1.2.2.2.1 h7 (hg (xad t n s) ea.1 |>.2 s1 hs1).2)
            refine sX12_readSum_22 (P1 := fun I I' => FE I I' ∧ EX I' t n m tel d (.inr (xad t n s))) (P2 := fun I I' => FE I I' ∧ EX I' t n m tel d (f (xad t n s))) (P3 := fun I I' => FE I I' ∧ EX I' t n m tel d (xb (f (xad t n s)) (fun s' => .inr (xput v s')))) (P4 := fun I I' => FE I I' ∧ EX I' t n m tel d (xb (f (xad t n s)) (fun s' => .inr (xput v s')))) w ?_ ?_ ?_ ?_ ?_ ?_
            · exact reads_e (k := kk + 38) w h1
            · intro I2 h2; exact hi' I2 _ h2.2
            · intro I2 h2 I3 h3 hne; rw [e43] at hne; rw [if_neg hne] at hv; subst hv; exact lay I3 h3.2
            · intro I2 h2 I3 h3 hne I4 h4; exact nxt1 I4 (((hFE.tr h2.1).tr h3.1).tr h4.1) h4.2
            · intro I2 h2 I3 h3 hne; rw [e43] at hne; rw [if_pos hne] at hv; subst hv; exact lay I3 h3.2
            · intro I2 h2 I3 h3 hne I4 h4; exact nxt1 I4 (((hFE.tr h2.1).tr h3.1).tr h4.1) h4.2
          have c2 : ¬ v_X12_isSign I1 (43 : Int32) = 0 ∨ ¬ v_X12_isSign I1 (45 : Int32) = 0 := by
            have h43 := h1.sign (c := 43) (by decide) (by decide)
            have h45 := h1.sign (c := 45) (by decide) (by decide)
            rcases hc with hc | hc
            · left; rw [show v_X12_isSign I1 (43 : Int32) = v_X12_isSign I1 (nI 43) from rfl, h43, xt_tk, if_pos (by rw [decide_eq_true_eq]; exact hc)]; decide
            · right; rw [show v_X12_isSign I1 (45 : Int32) = v_X12_isSign I1 (nI 45) from rfl, h45, xt_tk, if_pos (by rw [decide_eq_true_eq]; exact hc)]; decide
          refine sX12_readSum_4 w (fun _ => on) (fun g1 g2 => absurd c2 (fun h => h.elim (fun h => h g1) (fun h => h g2))) (fun _ _ => on)
  refine Cal.of rfl (by decide +kernel) (by simp) (Nat.le_of_ble_eq_true rfl) rfl (sX12_readSum_0 (k := kk) (P1 := fun I I' => FE I I' ∧ EX I' t n m tel d (xb x f)) w (hi' I x h) (fun I1 h1 => ?_))
  have ex2 : xb x g = xb (xb x f) (xlp (fun s => decide (s.1.2.2.1 = 43 ∨ s.1.2.2.1 = 45)) (fun s => xb (f (xad t n s)) (fun s' => .inr (xput (if s.1.2.2.1 = 43 then 10 else 11) s'))) F) := by
    cases x with
    | inl e => rfl
    | inr s => exact e s
  rw [ex2]
  exact loop F _ I1 h1.1 h1.2 (fun s hs => by omega)
theorem unit_c {su un tr : Ex → Er ⊕ Ex} (hG : GT G) (hx : Tx t n) (hd : d ≤ 6) (hg : Gd t n (xsum t n F m (6 - d) su)) (hsu : RdC l G mX12_readSum (50 + 8 * (6 - d)) t n m d (xsum t n F m (6 - d) su)) (hun : d < 6 → Gd t n un ∧ RdC l G mX12_readUnit (51 + 8 * (5 - d)) t n m (d + 1) un) (htr : d < 6 → RdC l G mX12_readTruth (53 + 8 * (5 - d)) t n m (d + 1) tr) : RdC l G mX12_readUnit (51 + 8 * (6 - d)) t n m d (xunit t n F m (6 - d) su un tr) := by
  obtain ⟨f, hf⟩ : ∃ f, xsum t n F m (6 - d) su = f := ⟨_, rfl⟩
  rw [hf] at hg hsu
  intro k I J R S nx tel x w h
  cases x with
  | inl e =>
    have := unit_b (l := l) (G := G) (k + 11 + 8 * (6 - d)) d I J R S nx tel e w h
    rw [show k + 11 + 8 * (6 - d) + 40 = k + (51 + 8 * (6 - d)) by omega] at this
    exact this
  | inr s =>
    rw [show k + (51 + 8 * (6 - d)) = (k + 11 + 8 * (6 - d)) + 40 by omega]
    have c1 := h.yes
    have z0 : (0 : Int32) = 0 := rfl
    have z1 : ¬ (1 : Int32) = 0 := by decide
    show Cal l G _ 0 0 mX12_readUnit [.ref 43] (I, J, R, S, nx) (fun r μ' => r = .inl none ∧ ∃ I', μ' = (I', J, R, S, nx) ∧ FE I I' ∧ EX I' t n m tel d (xunit t n F m (6 - d) su un tr s))
    have hi' : ∀ (I1 : Nat → Nat → Int32) (y : Er ⊕ Ex), EX I1 t n m tel d y → Cal l G (k + 11 + 8 * (6 - d) + 39) 0 0 mX12_readSum [.ref 43] (I1, J, R, S, nx) (fun r μ' => r = .inl none ∧ ∃ I', μ' = (I', J, R, S, nx) ∧ FE I1 I' ∧ EX I' t n m tel d (xb y f)) := by
      intro I1 y h1
      have := hsu k I1 J R S nx tel y w h1
      rw [show k + (50 + 8 * (6 - d)) = k + 11 + 8 * (6 - d) + 39 by omega] at this
      exact this
    obtain ⟨kk, hkk⟩ : ∃ kk, k + 11 + 8 * (6 - d) = kk := ⟨_, rfl⟩
    rw [hkk] at hi' ⊢
    have hw := isWord_e (l := l) (k := kk + 34) (J := J) (si := 32) w hG h (by decide)
    have sg : v_X12_isSign I (91 : Int32) = if decide (s.1.2.2.1 = 91) = true then 1 else 0 := h.sign (c := 91) (by decide) (by decide)
    have ha := xad_r h.wf hx
    have e0 : xunit t n F m (6 - d) su un tr s = if s.1.2.2.1 = 313 then (if 6 - d = 0 then .inl (4, s.1.2.1) else xb (un (xad t n s)) (fun s' => .inr (xput 18 s')))
        else if s.1.2.2.1 = 91 then (if 6 - d = 0 then .inl (4, s.1.2.1) else xb (tr (xad t n s)) (xmust t n 93))
        else xb (f s) (fun s1 => if s1.1.2.2.1 = 61 ∨ s1.1.2.2.1 = 60 ∨ s1.1.2.2.1 = 62 then xb (f (xad t n s1)) (fun s' => .inr (xput (if s1.1.2.2.1 = 61 then 13 else if s1.1.2.2.1 = 60 then 14 else 15) s')) else .inl (qbl 2 s1.1)) := by
      unfold xunit; rw [hf]
    rw [e0]
    obtain ⟨y, hy⟩ : ∃ y : Er ⊕ Ex, (if d = 6 then .inl (4, s.1.2.1) else .inr (xad t n s)) = y := ⟨_, rfl⟩
    by_cases c3 : s.1.2.2.1 = 313
    · rw [if_pos c3]
      have hw1 : (if tis (300 + wno 32) (xt (.inr s)) = true then (1 : Int32) else 0) = 1 := if_pos (by show decide (s.1.2.2.1 = 313) = true; rw [decide_eq_true_eq]; exact c3)
      rw [hw1] at hw
      have e : (if 6 - d = 0 then .inl (4, s.1.2.1) else xb (un (xad t n s)) (fun s' => .inr (xput 18 s')) : Er ⊕ Ex) = xb (xb y un) (fun s' => .inr (xput 18 s')) := by
        rw [← hy]
        by_cases c : d = 6
        · rw [if_pos (by omega), if_pos c]; rfl
        · rw [if_neg (by omega), if_neg c]; rfl
      rw [e]
      have inner : ∀ I4 : Nat → Nat → Int32, EX I4 t n m tel (d + 1) y → Cal l G (kk + 39) 0 0 mX12_readUnit [.ref 43] (I4, J, R, S, nx) (fun r μ' => r = .inl none ∧ ∃ I', μ' = (I', J, R, S, nx) ∧ FE I4 I' ∧ EX I' t n m tel (d + 1) (xb y un)) := by
        intro I4 h4
        by_cases c : d = 6
        · rw [if_pos c] at hy
          subst hy
          have := unit_b (l := l) (G := G) (m := m) (kk - 1) (d + 1) I4 J R S nx tel _ w h4
          rw [show kk - 1 + 40 = kk + 39 by omega] at this
          exact this
        · have := (hun (by omega)).2 (kk - 11 - 8 * (6 - d) + 7) I4 J R S nx tel y w h4
          rw [show kk - 11 - 8 * (6 - d) + 7 + (51 + 8 * (5 - d)) = kk + 39 by omega] at this
          exact this
      refine Cal.of rfl (by decide +kernel) (by simp) (Nat.le_of_ble_eq_true rfl) rfl (sX12_readUnit_0 (k := kk) (u1 := 1) (P1 := fun I I' => I' = I) (P2 := fun _ _ => True) (P3 := fun _ _ => True) (P4 := fun _ _ => True) (P5 := fun _ _ => True) (P6 := fun I I' => FE I I' ∧ EX I' t n m tel (d + 1) y) (P7 := fun I I' => FE I I' ∧ EX I' t n m tel (d + 1) (xb y un)) (P8 := fun I I' => FE I I' ∧ EX I' t n m tel (d + 1) (xb (xb y un) (fun s' => .inr (xput 18 s')))) w (fun _ => hw) ?_ ?_ ?_ ?_ ?_ ?_ ?_ ?_ ?_ ?_ ?_) <;> intros <;> (first | exact absurd (by with_reducible assumption) c1 | exact absurd c1 (by with_reducible assumption) | exact absurd (by with_reducible assumption) z1 | exact absurd z1 (by with_reducible assumption) | skip)
      · rename_i I1 h1 _; subst h1; rw [← hy]; exact goesIn_r (k := kk + 37) w h hd (by omega)
      · rename_i I1 h1 _ I4 h4; exact inner I4 h4.2
      · rename_i I1 h1 _ I4 h4 I5 h5
        refine laysS_r (v := 18) w h5.2 (fun s1 hs1 => ?_)
        by_cases c : d = 6
        · rw [if_pos c] at hy; subst hy; cases hs1
        · rw [if_neg c] at hy; subst hy
          exact room_e hx h.wf h.2.2.2.1 (by omega) ((hun (by omega)).1 (xad t n s) ha.1 |>.2 s1 hs1).2
      · rename_i I1 h1 _ I4 h4 I5 h5 I6 h6
        subst h1
        obtain ⟨o1, o2⟩ := out_e h6.2
        exact ⟨rfl, _, rfl, ((h4.1.tr h5.1).tr h6.1).tr o1, o2⟩
    · rw [if_neg c3]
      have hw1 : (if tis (300 + wno 32) (xt (.inr s)) = true then (1 : Int32) else 0) = 0 := if_neg (by show ¬ decide (s.1.2.2.1 = 313) = true; rw [decide_eq_true_eq]; exact c3)
      rw [hw1] at hw
      by_cases c9 : s.1.2.2.1 = 91
      · rw [if_pos c9]
        have d2 : ¬ v_X12_isSign I (91 : Int32) = 0 := by rw [sg, if_pos (by rw [decide_eq_true_eq]; exact c9)]; decide
        have e : (if 6 - d = 0 then .inl (4, s.1.2.1) else xb (tr (xad t n s)) (xmust t n 93) : Er ⊕ Ex) = xb (xb y tr) (xmust t n 93) := by
          rw [← hy]
          by_cases c : d = 6
          · rw [if_pos (by omega), if_pos c]; rfl
          · rw [if_neg (by omega), if_neg c]; rfl
        rw [e]
        have inner : ∀ I4 : Nat → Nat → Int32, EX I4 t n m tel (d + 1) y → Cal l G (kk + 39) 0 0 mX12_readTruth [.ref 43] (I4, J, R, S, nx) (fun r μ' => r = .inl none ∧ ∃ I', μ' = (I', J, R, S, nx) ∧ FE I4 I' ∧ EX I' t n m tel (d + 1) (xb y tr)) := by
          intro I4 h4
          by_cases c : d = 6
          · rw [if_pos c] at hy
            subst hy
            have := truth_b (l := l) (m := m) hG (kk - 3) (d + 1) I4 J R S nx tel _ w h4
            rw [show kk - 3 + 42 = kk + 39 by omega] at this
            exact this
          · have := htr (by omega) (kk - 11 - 8 * (6 - d) + 5) I4 J R S nx tel y w h4
            rw [show kk - 11 - 8 * (6 - d) + 5 + (53 + 8 * (5 - d)) = kk + 39 by omega] at this
            exact this
        refine Cal.of rfl (by decide +kernel) (by simp) (Nat.le_of_ble_eq_true rfl) rfl (sX12_readUnit_0 (k := kk) (u1 := 0) (P1 := fun I I' => I' = I) (P2 := fun _ _ => True) (P3 := fun I I' => FE I I' ∧ EX I' t n m tel (d + 1) y) (P4 := fun I I' => FE I I' ∧ EX I' t n m tel (d + 1) (xb y tr)) (P5 := fun I I' => FE I I' ∧ EX I' t n m tel (d + 1) (xb (xb y tr) (xmust t n 93))) (P6 := fun _ _ => True) (P7 := fun _ _ => True) (P8 := fun _ _ => True) w (fun _ => hw) ?_ ?_ ?_ ?_ ?_ ?_ ?_ ?_ ?_ ?_ ?_) <;> intros <;> (first | exact absurd (by with_reducible assumption) c1 | exact absurd c1 (by with_reducible assumption) | exact absurd (by with_reducible assumption) z0 | exact absurd z0 (by with_reducible assumption) | skip)
        · rename_i I1 h1 _ hx1; subst h1; exact absurd hx1 d2
        · rename_i I1 h1 _ hx1 I2 h2; subst h1; exact absurd hx1 d2
        · rename_i I1 h1 _ hx1; subst h1; rw [← hy]; exact goesIn_r (k := kk + 37) w h hd (by omega)
        · rename_i I1 h1 _ hx1 I4 h4; exact inner I4 h4.2
        · rename_i I1 h1 _ hx1 I4 h4 I5 h5; exact must_e (c := 93) (k := kk + 37) w h5.2 (by decide) (by decide)
        · rename_i I1 h1 _ hx1 I4 h4 I5 h5 I6 h6
          subst h1
          obtain ⟨o1, o2⟩ := out_e h6.2
          exact ⟨rfl, _, rfl, ((h4.1.tr h5.1).tr h6.1).tr o1, o2⟩
      · rw [if_neg c9]
        have d2 : v_X12_isSign I (91 : Int32) = 0 := by rw [sg, if_neg (by rw [decide_eq_true_eq]; exact c9)]
        refine Cal.of rfl (by decide +kernel) (by simp) (Nat.le_of_ble_eq_true rfl) rfl (sX12_readUnit_0 (k := kk) (u1 := 0) (P1 := fun I I' => I' = I) (P2 := fun I I' => FE I I' ∧ EX I' t n m tel d (f s)) (P3 := fun I I' => True) (P4 := fun I I' => True) (P5 := fun I I' => True) (P6 := fun _ _ => True) (P7 := fun _ _ => True) (P8 := fun _ _ => True) w (fun _ => hw) ?_ ?_ ?_ ?_ ?_ ?_ ?_ ?_ ?_ ?_ ?_) <;> intros <;> (first | exact absurd (by with_reducible assumption) c1 | exact absurd c1 (by with_reducible assumption) | exact absurd (by with_reducible assumption) z0 | exact absurd z0 (by with_reducible assumption) | skip)
        · rename_i I1 h1 _ hx1; subst h1; exact hi' I1 (.inr s) h
        · rename_i I1 h1 _ hx1 I2 h2
          subst h1
          -- behind the first sum
          obtain ⟨g, hgg⟩ : ∃ g : Ex → Er ⊕ Ex, (fun s1 => if s1.1.2.2.1 = 61 ∨ s1.1.2.2.1 = 60 ∨ s1.1.2.2.1 = 62 then xb (f (xad t n s1)) (fun s' => .inr (xput (if s1.1.2.2.1 = 61 then 13 else if s1.1.2.2.1 = 60 then 14 else 15) s')) else .inl (qbl 2 s1.1)) = g := ⟨_, rfl⟩
          rw [hgg]
          have fin : ∀ (z : Er ⊕ Ex) (v : Nat) (sg : Int32) (I3 : Nat → Nat → Int32), FE I1 I3 → EX I3 t n m tel d z → (sg = (61 : Int32) → v = 13) → (¬ sg = (61 : Int32) → sg = (60 : Int32) → v = 14) → (¬ sg = (61 : Int32) → ¬ sg = (60 : Int32) → v = 15) → (∀ s1, xb z f = .inr s1 → s1.2.length < s1.1.2.1) → hX12_readUnit_123 l G kk (fun r μ' => r = .inl none ∧ ∃ I', μ' = (I', J, R, S, nx) ∧ FE I1 I' ∧ EX I' t n m tel d (xb (xb z f) (fun s' => .inr (xput v s')))) sg (I3, J, R, S, nx) := by
            intro z v sg I3 hF3 h3 v1 v2 v3 hr
            have lay : ∀ I4 : Nat → Nat → Int32, EX I4 t n m tel d (xb z f) → Cal l G (kk + 39) 0 0 mX12_laysStep [.ref 43, .int (nI v)] (I4, J, R, S, nx) (fun r μ' => r = .inl none ∧ ∃ I', μ' = (I', J, R, S, nx) ∧ FE I4 I' ∧ EX I' t n m tel d (xb (xb z f) (fun s' => .inr (xput v s')))) := fun I4 h4 => laysS_r (v := v) w h4 hr
            refine sX12_readUnit_123 (P1 := fun I I' => FE I I' ∧ EX I' t n m tel d (xb z f)) (P2 := fun I I' => FE I I' ∧ EX I' t n m tel d (xb (xb z f) (fun s' => .inr (xput v s')))) (P3 := fun I I' => FE I I' ∧ EX I' t n m tel d (xb (xb z f) (fun s' => .inr (xput v s')))) (P4 := fun I I' => FE I I' ∧ EX I' t n m tel d (xb (xb z f) (fun s' => .inr (xput v s')))) w (hi' I3 z h3) ?_ ?_ ?_ ?_ ?_ ?_
            · intro I4 h4 n1 n2; have := v3 n1 n2; subst this; exact lay I4 h4.2
            · intro I4 h4 n1 n2 I5 h5; exact ⟨rfl, _, rfl, (hF3.tr h4.1).tr h5.1, h5.2⟩
            · intro I4 h4 n1 n2; have := v2 n1 n2; subst this; exact lay I4 h4.2
            · intro I4 h4 n1 n2 I5 h5; exact ⟨rfl, _, rfl, (hF3.tr h4.1).tr h5.1, h5.2⟩
            · intro I4 h4 n1; have := v1 n1; subst this; exact lay I4 h4.2
            · intro I4 h4 n1 I5 h5; exact ⟨rfl, _, rfl, (hF3.tr h4.1).tr h5.1, h5.2⟩
          -- with a fault
          have ill : ∀ (e : Er) (sg : Int32) (I3 : Nat → Nat → Int32), FE I1 I3 → EX I3 t n m tel d (.inl e) → hX12_readUnit_112 l G kk (fun r μ' => r = .inl none ∧ ∃ I', μ' = (I', J, R, S, nx) ∧ FE I1 I' ∧ EX I' t n m tel d (.inl e)) sg (I3, J, R, S, nx) := by
            intro e sg I3 hF3 h3
            have cn := h3.no
            obtain ⟨v, v1, v2, v3⟩ : ∃ v : Nat, (sg = (61 : Int32) → v = 13) ∧ (¬ sg = (61 : Int32) → sg = (60 : Int32) → v = 14) ∧ (¬ sg = (61 : Int32) → ¬ sg = (60 : Int32) → v = 15) := by
              by_cases n1 : sg = (61 : Int32)
              · exact ⟨13, fun _ => rfl, fun h => absurd n1 h, fun h => absurd n1 h⟩
              · by_cases n2 : sg = (60 : Int32)
                · exact ⟨14, fun h => absurd h n1, fun _ _ => rfl, fun _ h => absurd n2 h⟩
                · exact ⟨15, fun h => absurd h n1, fun _ h => absurd h n2, fun _ _ => rfl⟩
            refine sX12_readUnit_112 (P1 := fun _ _ => True) w ?_ ?_ ?_ <;> intros <;> (first | exact absurd (by with_reducible assumption) cn | exact absurd cn (by with_reducible assumption) | skip)
            exact fin (.inl e) v sg I3 hF3 h3 v1 v2 v3 (fun s1 hs1 => by cases hs1)
          cases hfs : f s with
          | inl e =>
            rw [hfs] at h2
            show hX12_readUnit_84 l G kk (fun r μ' => r = .inl none ∧ ∃ I', μ' = (I', J, R, S, nx) ∧ FE I1 I' ∧ EX I' t n m tel d (.inl e)) (I2, J, R, S, nx)
            have eb : w_X12_blames I2 (2 : Int32) = I2 := blames_b h2.2.1
            refine sX12_readUnit_84 w ?_ ?_ ?_ ?_ <;> intros
            · exact ill e _ I2 h2.1 h2.2
            · exact ill e _ I2 h2.1 h2.2
            · exact ill e _ I2 h2.1 h2.2
            · rw [eb]; exact ill e _ I2 h2.1 h2.2
          | inr s1 =>
            rw [hfs] at h2
            have hw1 := h2.2.wf
            have cy := h2.2.yes
            have h10 : I2 43 10 = nI (rtk s1.1.2.2.1) := h2.2.1.2.1.2.2.1
            have hl := (rtk_k hw1 hx).2.2.2.2
            have tk : ∀ c, c < 256 → qsgn c = true → (I2 43 10 = nI c) = (s1.1.2.2.1 = c) := fun c hc hq => by
              rw [h10]
              exact propext ((nI_eq (by omega) (by omega)).trans (rtk_sgn hw1 hx hc hq))
            have t61 : (I2 43 10 = (61 : Int32)) = (s1.1.2.2.1 = 61) := tk 61 (by decide) (by decide)
            have t60 : (I2 43 10 = (60 : Int32)) = (s1.1.2.2.1 = 60) := tk 60 (by decide) (by decide)
            have t62 : (I2 43 10 = (62 : Int32)) = (s1.1.2.2.1 = 62) := tk 62 (by decide) (by decide)
            show hX12_readUnit_84 l G kk (fun r μ' => r = .inl none ∧ ∃ I', μ' = (I', J, R, S, nx) ∧ FE I1 I' ∧ EX I' t n m tel d (g s1)) (I2, J, R, S, nx)
            by_cases cc : s1.1.2.2.1 = 61 ∨ s1.1.2.2.1 = 60 ∨ s1.1.2.2.1 = 62
            · have eg : g s1 = xb (xb (.inr (xad t n s1)) f) (fun s' => .inr (xput (if s1.1.2.2.1 = 61 then 13 else if s1.1.2.2.1 = 60 then 14 else 15) s')) := by rw [← hgg]; dsimp only; rw [if_pos cc]; rfl
              rw [eg]
              have go : hX12_readUnit_112 l G kk (fun r μ' => r = .inl none ∧ ∃ I', μ' = (I', J, R, S, nx) ∧ FE I1 I' ∧ EX I' t n m tel d (xb (xb (.inr (xad t n s1)) f) (fun s' => .inr (xput (if s1.1.2.2.1 = 61 then 13 else if s1.1.2.2.1 = 60 then 14 else 15) s')))) (I2 43 10) (I2, J, R, S, nx) := by
                refine sX12_readUnit_112 (P1 := fun I I' => FE I I' ∧ EX I' t n m tel d (.inr (xad t n s1))) w ?_ ?_ ?_ <;> intros <;> (first | exact absurd (by with_reducible assumption) cy | exact absurd cy (by with_reducible assumption) | skip)
                · exact reads_e (k := kk + 38) w h2.2
                · rename_i I3 h3
                  refine fin _ _ _ I3 (h2.1.tr h3.1) h3.2 ?_ ?_ ?_ (fun s2 hs2 => room_e hx hw1 h2.2.2.2.2.1 (by omega) (hg (xad t n s1) (xad_r hw1 hx).1 |>.2 s2 hs2).2)
                  · rw [t61]; intro n1; rw [if_pos n1]
                  · rw [t61, t60]; intro n1 n2; rw [if_neg n1, if_pos n2]
                  · rw [t61, t60]; intro n1 n2; rw [if_neg n1, if_neg n2]
              refine sX12_readUnit_84 w (fun _ => go) (fun _ _ => go) (fun _ _ _ => go) (fun n1 n2 n3 => ?_)
              rw [t61] at n1; rw [t60] at n2; rw [t62] at n3
              omega
            · have eg : g s1 = .inl (qbl 2 s1.1) := by rw [← hgg]; dsimp only; rw [if_neg cc]
              rw [eg]
              refine sX12_readUnit_84 w ?_ ?_ ?_ ?_
              · intro n1; rw [t61] at n1; omega
              · intro _ n1; rw [t60] at n1; omega
              · intro _ _ n1; rw [t62] at n1; omega
              · intros
                obtain ⟨b1, b2⟩ := blames_n (k := 2) (s := s1.1) h2.2.1 (by decide)
                have hF3 : Fz [] [8, 9, 10, 11, 12, 13] I2 (w_X12_blames I2 (2 : Int32)) := Fz.wk b1 (by decide) (by decide)
                exact ill _ _ _ (h2.1.tr (FE.ok hF3)) (h2.2.tk hF3 b2 (fun s' hs => by cases hs))
        · rename_i I1 h1 _ hx1; subst h1; exact absurd d2 hx1
        · rename_i I1 h1 _ hx1 I2 h2; subst h1; exact absurd d2 hx1
        · rename_i I1 h1 _ hx1 I2 h2 I3 h3; subst h1; exact absurd d2 hx1
        · rename_i I1 h1 _ hx1 I2 h2 I3 h3 I4 h4; subst h1; exact absurd d2 hx1
end A
