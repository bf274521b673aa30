/-! the reference: sums and truths read -/
def RdC (l : Launch) (G : Gh) (M : Mt) (dep : Nat) (t : Nat → Nat) (n : Nat) (m : Bool) (d : Nat) (f : Ex → Er ⊕ Ex) : Prop := ∀ (k : Nat) (I : Nat → Nat → Int32) (J : Nat → Nat → Int64) (R : Nat → Nat → Option Nat) (S : Nat → Nat × Nat) (nx : Nat) (tel : Nat → Nat) (x : Er ⊕ Ex), MW R S nx → EX I t n m tel d x → Cal l G (k + dep) 0 0 M [.ref 43] (I, J, R, S, nx) (fun r μ' => r = .inl none ∧ ∃ I', μ' = (I', J, R, S, nx) ∧ FE I I' ∧ EX I' t n m tel d (xb x f))
def RdB (l : Launch) (G : Gh) (M : Mt) (dep : Nat) (t : Nat → Nat) (n : Nat) (m : Bool) : Prop := ∀ (k d : Nat) (I : Nat → Nat → Int32) (J : Nat → Nat → Int64) (R : Nat → Nat → Option Nat) (S : Nat → Nat × Nat) (nx : Nat) (tel : Nat → Nat) (e : Er), MW R S nx → EX I t n m tel d (.inl e) → Cal l G (k + dep) 0 0 M [.ref 43] (I, J, R, S, nx) (fun r μ' => r = .inl none ∧ ∃ I', μ' = (I', J, R, S, nx) ∧ FE I I' ∧ EX I' t n m tel d (.inl e))
section A
variable {l : Launch} {G : Gh} {k : Nat} {I : Nat → Nat → Int32} {J : Nat → Nat → Int64} {R : Nat → Nat → Option Nat} {S : Nat → Nat × Nat} {nx : Nat} {κ : Nat → Nat} {hb pb : Nat}
variable {t tel : Nat → Nat} {n d F : Nat} {m : Bool} {x : Er ⊕ Ex}
theorem EX.no {e : Er} (h : EX I t n m tel d (.inl e)) : ¬ I 43 12 = 0 := fun g => by obtain ⟨s, hs⟩ := h.1.bad.mp g; cases hs
theorem EX.yes {s : Ex} (h : EX I t n m tel d (.inr s)) : I 43 12 = 0 := h.1.bad.mpr ⟨_, rfl⟩
theorem EX.sign {c : Nat} (h : EX I t n m tel d x) (hc : c < 256) (hs : qsgn c = true) : v_X12_isSign I (nI c) = if tis c (xt x) then 1 else 0 := isSign_n h.1 hc hs
theorem xt_tk {c : Nat} {s : Ex} : tis c (xt (.inr s)) = decide (s.1.2.2.1 = c) := rfl
/-- room for one more step behind a token that was passed -/
theorem room_e {s s1 : Ex} (hx : Tx t n) (hw : Wf t n s.1) (hl : s.2.length ≤ s.1.2.1) (h7 : s.1.2.2.1 ≠ 257) (h2 : Rr t n (xad t n s) s1) : s1.2.length < s1.1.2.1 := by
  have hg := hw.g hx
  have ha := hw.ad hx
  obtain ⟨_, _, _, a4⟩ := h2
  have a4' : s1.2.length + (ynx t n s.1.1).2.1 ≤ s.2.length + s1.1.2.1 := a4
  have := hg.2.2.1.resolve_left h7
  omega
theorem took_e {si : Nat} {s : Ex} (w : MW R S nx) (hG : GT G) (h : EX I t n m tel d (.inr s)) (hsi : 14 ≤ si ∧ si < 35) (hn : s.1.2.2.1 = 300 + wno si) : Cal l G (k + 6) 0 0 mX12_took [.ref 43, .retAddr si] (I, J, R, S, nx) (fun r μ' => r = .inl (some (.int ((1 : Int32)))) ∧ ∃ I', μ' = (I', J, R, S, nx) ∧ FE I I' ∧ EX I' t n m tel d (.inr (xad t n s))) := by
  refine (took_y (s := s.1) w hG h.1 hsi hn).mono (fun r μ' ⟨e, I', e2, h1, h2⟩ => ⟨e, I', e2, FE.ok h1, h.tk h1 h2 (fun s' hs => ?_)⟩)
  obtain rfl := Sum.inr.inj hs
  have := h.wf.ad h.tx
  have hg := h.wf.g h.tx
  exact ⟨s, rfl, rfl, by show s.1.2.1 ≤ (ynx t n s.1.1).2.1; omega⟩
theorem took_f {si : Nat} (w : MW R S nx) (hG : GT G) (h : EX I t n m tel d x) (hsi : 14 ≤ si ∧ si < 35) (hn : tis (300 + wno si) (xt x) = false) : Cal l G (k + 6) 0 0 mX12_took [.ref 43, .retAddr si] (I, J, R, S, nx) (fun r μ' => r = .inl (some (.int ((0 : Int32)))) ∧ ∃ I', μ' = (I', J, R, S, nx) ∧ FE I I' ∧ EX I' t n m tel d x) := by
  have := took_r (l := l) (k := k) (J := J) w hG h.1 hsi
  unfold ttk at this
  rw [hn] at this
  refine this.mono (fun r μ' ⟨e, I', e2, h1, h2⟩ => ⟨e, I', e2, FE.ok h1, h.tk h1 h2 (fun s' hs => ⟨s', hs, rfl, Nat.le_refl _⟩)⟩)
theorem isWord_e {si : Nat} (w : MW R S nx) (hG : GT G) (h : EX I t n m tel d x) (hsi : 14 ≤ si ∧ si < 35) : Cal l G (k + 5) 0 0 mX12_isWord [.ref 43, .retAddr si] (I, J, R, S, nx) (fun r μ' => r = .inl (some (.int (if tis (300 + wno si) (xt x) then 1 else 0))) ∧ ∃ I', μ' = (I', J, R, S, nx) ∧ I' = I) := isWord_r w hG h.1 hsi
theorem law_e {s : Ex} (w : MW R S nx) (hG : GT G) (h : EX I t n m tel d (.inr s)) : Cal l G (k + 8) 0 0 mX12_lawWord [.ref 43] (I, J, R, S, nx) (fun r μ' => r = .inl (some (.int (match xw m s.1.2.2.1 with | some j => nI j | none => -1))) ∧ ∃ I', μ' = (I', J, R, S, nx) ∧ FE I I' ∧ EX I' t n m tel d (.inr (match xw m s.1.2.2.1 with | some _ => xad t n s | none => s))) := by
  have h17 := h.2.1.1
  have key : ∀ I1 : Nat → Nat → Int32, Fz [] [8, 9, 10, 11, 12, 13] I I1 → PX I1 t n (.inr (match xw m s.1.2.2.1 with | some _ => ynx t n s.1.1 | none => s.1)) → FE I I1 ∧ EX I1 t n m tel d (.inr (match xw m s.1.2.2.1 with | some _ => xad t n s | none => s)) := by
    intro I1 h1 h2
    refine ⟨FE.ok h1, ?_⟩
    have := h.wf.ad h.tx
    have hg := h.wf.g h.tx
    cases hq : xw m s.1.2.2.1 with
    | none => rw [hq] at h2; exact h.tk h1 h2 (fun s' hs => ⟨s', hs, rfl, Nat.le_refl _⟩)
    | some j =>
      rw [hq] at h2
      refine h.tk h1 h2 (fun s' hs => ?_)
      obtain rfl := Sum.inr.inj hs
      exact ⟨s, rfl, rfl, by show s.1.2.1 ≤ (ynx t n s.1.1).2.1; omega⟩
  cases m with
  | false =>
    have d1 : I 43 17 = (3 : Int32) := h17
    refine Cal.of rfl (by decide +kernel) (by simp) (Nat.le_of_ble_eq_true rfl) rfl (sX12_lawWord_0 (u1 := 0) (u2 := match xw false s.1.2.2.1 with | some j => nI j | none => -1) (P1 := fun _ _ => True) (P2 := fun I I' => Fz [] [8, 9, 10, 11, 12, 13] I I' ∧ PX I' t n (.inr (match xw false s.1.2.2.1 with | some _ => ynx t n s.1.1 | none => s.1))) w ?_ ?_ ?_ ?_) <;> intros <;> (first | exact absurd (by with_reducible assumption) d1 | exact absurd d1 (by with_reducible assumption) | skip)
    · exact degreeWord_r w hG h.1
    · rename_i I1 h1; exact ⟨rfl, _, rfl, key I1 h1.1 h1.2⟩
  | true =>
    have d1 : ¬ I 43 17 = (3 : Int32) := by rw [h17]; decide
    refine Cal.of rfl (by decide +kernel) (by simp) (Nat.le_of_ble_eq_true rfl) rfl (sX12_lawWord_0 (u2 := 0) (u1 := match xw true s.1.2.2.1 with | some j => nI j | none => -1) (P2 := fun _ _ => True) (P1 := fun I I' => Fz [] [8, 9, 10, 11, 12, 13] I I' ∧ PX I' t n (.inr (match xw true s.1.2.2.1 with | some _ => ynx t n s.1.1 | none => s.1))) w ?_ ?_ ?_ ?_) <;> intros <;> (first | exact absurd (by with_reducible assumption) d1 | exact absurd d1 (by with_reducible assumption) | skip)
    · exact prevailWord_r w hG h.1
    · rename_i I1 h1; exact ⟨rfl, _, rfl, key I1 h1.1 h1.2⟩
theorem xw_lt {m : Bool} {tk j : Nat} (h : xw m tk = some j) : j ≤ 6 ∧ tk ≠ 257 ∧ tk ≠ 258 ∧ tk ≠ 40 ∧ tk ≠ 256 := by
  have q : ∀ c, (300 ≤ c ∧ c ≤ 320) → (c ≠ 257 ∧ c ≠ 258 ∧ c ≠ 40 ∧ c ≠ 256) := fun c hc => by omega
  unfold xw at h
  cases m with
  | true =>
    simp only [if_true] at h
    repeat' split at h
    all_goals first | (cases h; refine ⟨by decide, q _ (by omega)⟩) | cases h
  | false =>
    simp only [Bool.false_eq_true, if_false] at h
    repeat' split at h
    all_goals first | (cases h; refine ⟨by decide, q _ (by omega)⟩) | cases h
/-! with a fault nothing more is read -/
theorem atom_b : RdB l G mX12_readAtom 40 t n m := by
  intro k d I J R S nx tel e w h
  have c1 := h.no
  refine Cal.of rfl (by decide +kernel) (by simp) (Nat.le_of_ble_eq_true rfl) rfl (sX12_readAtom_0 (u1 := 0) (u2 := 0) (P1 := fun _ _ => True) (P2 := fun _ _ => True) (P3 := fun _ _ => True) (P4 := fun _ _ => True) (P5 := fun _ _ => True) (P6 := fun _ _ => True) (P7 := fun _ _ => True) w ?_ ?_ ?_ ?_ ?_ ?_ ?_ ?_ ?_ ?_ ?_) <;> intros <;> (first | exact absurd (by with_reducible assumption) c1 | exact absurd c1 (by with_reducible assumption) | skip)
  exact ⟨rfl, _, rfl, FE.rf, h⟩
theorem unit_b : RdB l G mX12_readUnit 40 t n m := by
  intro k d I J R S nx tel e w h
  have c1 := h.no
  refine Cal.of rfl (by decide +kernel) (by simp) (Nat.le_of_ble_eq_true rfl) rfl (sX12_readUnit_0 (u1 := 0) (P1 := fun _ _ => True) (P2 := fun _ _ => True) (P3 := fun _ _ => True) (P4 := fun _ _ => True) (P5 := fun _ _ => True) (P6 := fun _ _ => True) (P7 := fun _ _ => True) (P8 := fun _ _ => True) w ?_ ?_ ?_ ?_ ?_ ?_ ?_ ?_ ?_ ?_ ?_ ?_) <;> intros <;> (first | exact absurd (by with_reducible assumption) c1 | exact absurd c1 (by with_reducible assumption) | skip)
  exact ⟨rfl, _, rfl, FE.rf, h⟩
theorem term_b : RdB l G mX12_readTerm 41 t n m := by
  intro k d I J R S nx tel e w h
  refine Cal.of rfl (by decide +kernel) (by simp) (Nat.le_of_ble_eq_true rfl) rfl (sX12_readTerm_0 (k := k + 1) (P1 := fun I I' => FE I I' ∧ EX I' t n m tel d (.inl e)) w (atom_b k d I J R S nx tel e w h) (fun I1 h1 => ?_))
  have c2 : v_X12_isSign I1 (42 : Int32) = 0 := h1.2.sign (c := 42) (by decide) (by decide)
  refine sX12_readTerm_4 (P1 := fun _ _ => True) (P2 := fun _ _ => True) (P3 := fun _ _ => True) w ?_ ?_ ?_ ?_ ?_ <;> intros <;> (first | exact absurd (by with_reducible assumption) c2 | exact absurd c2 (by with_reducible assumption) | skip)
  exact ⟨rfl, _, rfl, h1⟩
theorem sum_b : RdB l G mX12_readSum 42 t n m := by
  intro k d I J R S nx tel e w h
  refine Cal.of rfl (by decide +kernel) (by simp) (Nat.le_of_ble_eq_true rfl) rfl (sX12_readSum_0 (k := k + 2) (P1 := fun I I' => FE I I' ∧ EX I' t n m tel d (.inl e)) w (term_b k d I J R S nx tel e w h) (fun I1 h1 => ?_))
  have c2 : v_X12_isSign I1 (43 : Int32) = 0 := h1.2.sign (c := 43) (by decide) (by decide)
  have c3 : v_X12_isSign I1 (45 : Int32) = 0 := h1.2.sign (c := 45) (by decide) (by decide)
  refine sX12_readSum_4 w ?_ ?_ ?_ <;> intros <;> (first | exact absurd (by with_reducible assumption) c2 | exact absurd c2 (by with_reducible assumption) | exact absurd (by with_reducible assumption) c3 | exact absurd c3 (by with_reducible assumption) | skip)
  exact ⟨rfl, _, rfl, h1⟩
theorem both_b (hG : GT G) : RdB l G mX12_readBoth 41 t n m := by
  intro k d I J R S nx tel e w h
  have z0 : (0 : Int32) = 0 := rfl
  refine Cal.of rfl (by decide +kernel) (by simp) (Nat.le_of_ble_eq_true rfl) rfl (sX12_readBoth_0 (k := k + 1) (P1 := fun I I' => FE I I' ∧ EX I' t n m tel d (.inl e)) w (unit_b k d I J R S nx tel e w h) (fun I1 h1 => ?_))
  refine sX12_readBoth_4 (u1 := 0) (P1 := fun I I' => FE I I' ∧ EX I' t n m tel d (.inl e)) (P2 := fun _ _ => True) (P3 := fun _ _ => True) w (took_f w hG h1.2 (by decide) rfl) ?_ ?_ ?_ ?_ <;> intros <;> (first | exact absurd (by with_reducible assumption) z0 | exact absurd z0 (by with_reducible assumption) | skip)
  rename_i I2 h2 _; exact ⟨rfl, _, rfl, h1.1.tr h2.1, h2.2⟩
theorem truth_b (hG : GT G) : RdB l G mX12_readTruth 42 t n m := by
  intro k d I J R S nx tel e w h
  have z0 : (0 : Int32) = 0 := rfl
  refine Cal.of rfl (by decide +kernel) (by simp) (Nat.le_of_ble_eq_true rfl) rfl (sX12_readTruth_0 (k := k + 2) (P1 := fun I I' => FE I I' ∧ EX I' t n m tel d (.inl e)) w (both_b hG k d I J R S nx tel e w h) (fun I1 h1 => ?_))
  refine sX12_readTruth_4 (u1 := 0) (P1 := fun I I' => FE I I' ∧ EX I' t n m tel d (.inl e)) (P2 := fun _ _ => True) (P3 := fun _ _ => True) w (took_f w hG h1.2 (by decide) rfl) ?_ ?_ ?_ ?_ <;> intros <;> (first | exact absurd (by with_reducible assumption) z0 | exact absurd z0 (by with_reducible assumption) | skip)
  rename_i I2 h2 _; exact ⟨rfl, _, rfl, h1.1.tr h2.1, h2.2⟩
/-! a level -/
theorem atom_c {su : Ex → Er ⊕ Ex} (hG : GT G) (hx : Tx t n) (hd : d ≤ 6) (hs : d < 6 → RdC l G mX12_readSum (50 + 8 * (5 - d)) t n m (d + 1) su) : RdC l G mX12_readAtom (48 + 8 * (6 - d)) t n m d (xatom t n m (6 - d) su) := by
  intro k I J R S nx tel x w h
  cases x with
  | inl e =>
    have := atom_b (l := l) (G := G) (k + 8 + 8 * (6 - d)) d I J R S nx tel e w h
    rw [show k + 8 + 8 * (6 - d) + 40 = k + (48 + 8 * (6 - d)) by omega] at this
    exact this
  | inr s =>
    rw [show k + (48 + 8 * (6 - d)) = (k + 8 + 8 * (6 - d)) + 40 by omega]
    have c1 := h.yes
    show Cal l G _ 0 0 mX12_readAtom [.ref 43] (I, J, R, S, nx) (fun r μ' => r = .inl none ∧ ∃ I', μ' = (I', J, R, S, nx) ∧ FE I I' ∧ EX I' t n m tel d (xatom t n m (6 - d) su s))
    obtain ⟨kk, hkk⟩ : ∃ kk, k + 8 + 8 * (6 - d) = kk := ⟨_, rfl⟩
    rw [hkk]
    have hl := law_e (l := l) (k := kk + 31) (J := J) w hG h
    cases hq : xw m s.1.2.2.1 with
    | some j =>
      have hj := xw_lt hq
      rw [hq] at hl
      have d1 : ¬ nI j = (-1 : Int32) := nI_ne_m1 (by omega)
      have e : xatom t n m (6 - d) su s = .inr (xput (100 + j) (xad t n s)) := by unfold xatom; rw [hq]
      rw [e]
      refine Cal.of rfl (by decide +kernel) (by simp) (Nat.le_of_ble_eq_true rfl) rfl (sX12_readAtom_0 (k := kk) (u1 := nI j) (u2 := 0) (P1 := fun I I' => FE I I' ∧ EX I' t n m tel d (.inr (xad t n s))) (P2 := fun _ _ => True) (P3 := fun _ _ => True) (P4 := fun _ _ => True) (P5 := fun _ _ => True) (P6 := fun _ _ => True) (P7 := fun I I' => FE I I' ∧ EX I' t n m tel d (.inr (xput (100 + j) (xad t n s)))) w (fun _ => hl) ?_ ?_ ?_ ?_ ?_ ?_ ?_ ?_ ?_ ?_) <;> intros <;> (first | exact absurd (by with_reducible assumption) c1 | exact absurd c1 (by with_reducible assumption) | exact absurd (by with_reducible assumption) d1 | exact absurd d1 (by with_reducible assumption) | skip)
      · rename_i I1 h1 _
        have e2 : (100 : Int32) + nI j = nI (100 + j) := nI_add 100 j
        rw [e2]
        exact laysS_r (x := .inr (xad t n s)) w h1.2 (fun s' hs' => by
          obtain rfl := Sum.inr.inj hs'
          exact room_e hx h.wf h.2.2.2.1 hj.2.1 (Rr.rf (xad_r h.wf hx).1))
      · rename_i I1 h1 _ I2 h2; exact ⟨rfl, _, rfl, h1.1.tr h2.1, h2.2⟩
    | none =>
      rw [hq] at hl
      have d1 : (-1 : Int32) = (-1 : Int32) := rfl
      have sg : ∀ I1 : Nat → Nat → Int32, EX I1 t n m tel d (.inr s) → v_X12_isSign I1 (40 : Int32) = if decide (s.1.2.2.1 = 40) = true then 1 else 0 := fun I1 h1 => h1.sign (c := 40) (by decide) (by decide)
      by_cases c40 : s.1.2.2.1 = 40
      · have d2 : ∀ I1 : Nat → Nat → Int32, (FE I I1 ∧ EX I1 t n m tel d (.inr s)) → ¬ v_X12_isSign I1 (40 : Int32) = 0 := fun I1 h1 => by rw [sg I1 h1.2, if_pos (by rw [decide_eq_true_eq]; exact c40)]; decide
        obtain ⟨y, hy⟩ : ∃ y : Er ⊕ Ex, (if d = 6 then .inl (4, s.1.2.1) else .inr (xad t n s)) = y := ⟨_, rfl⟩
        have e : xatom t n m (6 - d) su s = xb (xb y su) (xmust t n 41) := by
          unfold xatom; rw [hq]
          show (if s.1.2.2.1 = 40 then (if 6 - d = 0 then Sum.inl (4, s.1.2.1) else xb (su (xad t n s)) (xmust t n 41)) else _) = _
          rw [if_pos c40, ← hy]
          by_cases c : d = 6
          · rw [if_pos (by omega), if_pos c]; rfl
          · rw [if_neg (by omega), if_neg c]; rfl
        rw [e]
        have inner : ∀ I4 : Nat → Nat → Int32, EX I4 t n m tel (d + 1) y → Cal l G (kk + 39) 0 0 mX12_readSum [.ref 43] (I4, J, R, S, nx) (fun r μ' => r = .inl none ∧ ∃ I', μ' = (I', J, R, S, nx) ∧ FE I4 I' ∧ EX I' t n m tel (d + 1) (xb y su)) := by
          intro I4 h4
          by_cases c : d = 6
          · rw [if_pos c] at hy
            subst hy
            have := sum_b (l := l) (G := G) (m := m) (kk - 3) (d + 1) I4 J R S nx tel _ w h4
            rw [show kk - 3 + 42 = kk + 39 by omega] at this
            exact this
          · have := hs (by omega) (kk - 8 - 8 * (6 - d) + 5) I4 J R S nx tel y w h4
            rw [show kk - 8 - 8 * (6 - d) + 5 + (50 + 8 * (5 - d)) = kk + 39 by omega] at this
            exact this
        refine Cal.of rfl (by decide +kernel) (by simp) (Nat.le_of_ble_eq_true rfl) rfl (sX12_readAtom_0 (k := kk) (u1 := -1) (u2 := 0) (P1 := fun I I' => FE I I' ∧ EX I' t n m tel d (.inr s)) (P2 := fun _ _ => True) (P3 := fun _ _ => True) (P4 := fun I I' => FE I I' ∧ EX I' t n m tel (d + 1) y) (P5 := fun I I' => FE I I' ∧ EX I' t n m tel (d + 1) (xb y su)) (P6 := fun I I' => FE I I' ∧ EX I' t n m tel (d + 1) (xb (xb y su) (xmust t n 41))) (P7 := fun I I' => True) w (fun _ => hl) ?_ ?_ ?_ ?_ ?_ ?_ ?_ ?_ ?_ ?_) <;> intros <;> (first | exact absurd (by with_reducible assumption) c1 | exact absurd c1 (by with_reducible assumption) | exact absurd (by with_reducible assumption) d1 | exact absurd d1 (by with_reducible assumption) | skip)
        · rename_i I1 h1 _ hx1; exact absurd hx1 (d2 I1 h1)
        · rename_i I1 h1 _ hx1 I2 h2; exact absurd hx1 (d2 I1 h1)
        · rename_i I1 h1 _ hx1 I2 h2 I3 h3; exact absurd hx1 (d2 I1 h1)
        · rename_i I1 h1 _ hx1; rw [← hy]; exact goesIn_r (k := kk + 37) w h1.2 hd (by omega)
        · rename_i I1 h1 _ hx1 I4 h4; exact inner I4 h4.2
        · rename_i I1 h1 _ hx1 I4 h4 I5 h5; exact must_e (c := 41) (k := kk + 37) w h5.2 (by decide) (by decide)
        · rename_i I1 h1 _ hx1 I4 h4 I5 h5 I6 h6
          obtain ⟨o1, o2⟩ := out_e h6.2
          exact ⟨rfl, _, rfl, (((h1.1.tr h4.1).tr h5.1).tr h6.1).tr o1, o2⟩
      · have d2 : ∀ I1 : Nat → Nat → Int32, (FE I I1 ∧ EX I1 t n m tel d (.inr s)) → v_X12_isSign I1 (40 : Int32) = 0 := fun I1 h1 => by rw [sg I1 h1.2, if_neg (by rw [decide_eq_true_eq]; exact c40)]
        have e : xatom t n m (6 - d) su s = if s.1.2.2.1 = 256 then .inr (xput (1000 + s.1.2.2.2) (xad t n s)) else .inl (qbl 2 s.1) := by
          unfold xatom; rw [hq]
          show (if s.1.2.2.1 = 40 then _ else _) = _
          rw [if_neg c40]
        rw [e]
        have hg := h.wf.g hx
        obtain ⟨y, hy⟩ : ∃ y : Er ⊕ Ex, (if s.1.2.2.1 = 256 then .inr (xad t n s) else .inl (qbl 2 s.1)) = y := ⟨_, rfl⟩
        have hn : ∀ I1 : Nat → Nat → Int32, (FE I I1 ∧ EX I1 t n m tel d (.inr s)) → Cal l G (kk + 39) 0 0 mX12_number [.ref 43, .int (0 : Int32), .int (999 : Int32)] (I1, J, R, S, nx) (fun r μ' => r = .inl (some (.int (if s.1.2.2.1 = 256 then nI s.1.2.2.2 else 0))) ∧ ∃ I', μ' = (I', J, R, S, nx) ∧ FE I1 I' ∧ EX I' t n m tel d y) := by
          intro I1 h1
          have := number_r (l := l) (G := G) (k := kk + 37) (J := J) (lo := 0) (hi := 1000) (y := 999) (x := .inr s.1) w h1.2.1 (by decide) (by decide) (by decide)
          refine this.mono (fun r μ' ⟨q1, I', q2, q3, q4⟩ => ?_)
          have ey : xb (.inr s.1 : Er ⊕ Tok) (ynum t n 0 1000) = if s.1.2.2.1 = 256 then .inr (s.1.2.2.2, ynx t n s.1.1) else .inl (qbl 2 s.1) := by
            show ynum t n 0 1000 s.1 = _
            unfold ynum
            by_cases c : s.1.2.2.1 = 256
            · have hv := hg.2.2.2.2 c
              rw [if_pos c, if_pos c, if_pos (by omega)]
            · rw [if_neg c, if_neg c]
          rw [ey] at q1 q4
          by_cases c : s.1.2.2.1 = 256
          · rw [if_pos c] at q1 q4 hy ⊢
            refine ⟨q1, I', q2, FE.ok q3, ?_⟩
            rw [← hy]
            refine h1.2.tk q3 q4 (fun s' hs => ?_)
            obtain rfl := Sum.inr.inj hs
            have ha := h.wf.ad hx
            exact ⟨s, rfl, rfl, by show s.1.2.1 ≤ (ynx t n s.1.1).2.1; omega⟩
          · rw [if_neg c] at q1 q4 hy ⊢
            refine ⟨q1, I', q2, FE.ok q3, ?_⟩
            rw [← hy]
            exact h1.2.tk q3 q4 (fun s' hs => by cases hs)
        have e3 : (if s.1.2.2.1 = 256 then .inr (xput (1000 + s.1.2.2.2) (xad t n s)) else .inl (qbl 2 s.1) : Er ⊕ Ex) = xb y (fun s' => .inr (xput (1000 + s.1.2.2.2) s')) := by
          rw [← hy]
          by_cases c : s.1.2.2.1 = 256
          · rw [if_pos c, if_pos c]; rfl
          · rw [if_neg c, if_neg c]; rfl
        rw [e3]
        refine Cal.of rfl (by decide +kernel) (by simp) (Nat.le_of_ble_eq_true rfl) rfl (sX12_readAtom_0 (k := kk) (u1 := -1) (u2 := if s.1.2.2.1 = 256 then nI s.1.2.2.2 else 0) (P1 := fun I I' => FE I I' ∧ EX I' t n m tel d (.inr s)) (P2 := fun I I' => FE I I' ∧ EX I' t n m tel d y) (P3 := fun I I' => FE I I' ∧ EX I' t n m tel d (xb y (fun s' => .inr (xput (1000 + s.1.2.2.2) s')))) (P4 := fun I I' => True) (P5 := fun I I' => True) (P6 := fun I I' => True) (P7 := fun I I' => True) w (fun _ => hl) ?_ ?_ ?_ ?_ ?_ ?_ ?_ ?_ ?_ ?_) <;> intros <;> (first | exact absurd (by with_reducible assumption) c1 | exact absurd c1 (by with_reducible assumption) | exact absurd (by with_reducible assumption) d1 | exact absurd d1 (by with_reducible assumption) | skip)
        · rename_i I1 h1 _ hx1; exact hn I1 h1
        · rename_i I1 h1 _ hx1 I2 h2
          by_cases c : s.1.2.2.1 = 256
          · rw [if_pos c] at hy ⊢
            have e2 : (1000 : Int32) + nI s.1.2.2.2 = nI (1000 + s.1.2.2.2) := nI_add 1000 _
            rw [e2]
            refine laysS_r w h2.2 (fun s' hs' => ?_)
            rw [← hy] at hs'
            obtain rfl := Sum.inr.inj hs'
            exact room_e hx h.wf h.2.2.2.1 (by omega) (Rr.rf (xad_r h.wf hx).1)
          · rw [if_neg c] at hy ⊢
            subst hy
            have := laysS_r (l := l) (G := G) (k := kk + 39) (J := J) (v := 1000) w h2.2 (fun s' hs' => by cases hs')
            exact this
        · rename_i I1 h1 _ hx1 I2 h2 I3 h3; exact ⟨rfl, _, rfl, (h1.1.tr h2.1).tr h3.1, h3.2⟩
        · rename_i I1 h1 _ hx1; exact absurd (d2 I1 h1) hx1
        · rename_i I1 h1 _ hx1 I2 h2; exact absurd (d2 I1 h1) hx1
        · rename_i I1 h1 _ hx1 I2 h2 I3 h3; exact absurd (d2 I1 h1) hx1
        · rename_i I1 h1 _ hx1 I2 h2 I3 h3 I4 h4; exact absurd (d2 I1 h1) hx1
end A
