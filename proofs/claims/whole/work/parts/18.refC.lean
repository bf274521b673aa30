/-! lawOf: the reference works out a well made law -/
theorem qtyp_c (m s : Nat) (r : List Nat) (ts : List Bool) : qtyp m (s :: r) ts = if 100 ≤ s then (if (s < 100 + m ∨ (1000 ≤ s ∧ s < 2000)) ∧ ts.length < 64 then qtyp m r (false :: ts) else none)
    else match s, ts with
      | 18, true :: t => qtyp m r (true :: t)
      | 10, false :: false :: t => qtyp m r (false :: t)
      | 11, false :: false :: t => qtyp m r (false :: t)
      | 12, false :: false :: t => qtyp m r (false :: t)
      | 13, false :: false :: t => qtyp m r (true :: t)
      | 14, false :: false :: t => qtyp m r (true :: t)
      | 15, false :: false :: t => qtyp m r (true :: t)
      | 16, true :: true :: t => qtyp m r (true :: t)
      | 17, true :: true :: t => qtyp m r (true :: t)
      | _, _ => none := rfl
theorem qclamp_b (z : Int) : -1000000 ≤ qclamp z ∧ qclamp z ≤ 1000000 := by unfold qclamp; omega
theorem tyV_if {p : Prop} [Decidable p] : tyV true (if p then (1 : Int) else 0) := by
  by_cases h : p <;> simp [tyV, h]
theorem qtyp_inv {m s : Nat} {r : List Nat} {ts fin : List Bool} (h : qtyp m (s :: r) ts = some fin) :
    (100 ≤ s ∧ (s < 100 + m ∨ (1000 ≤ s ∧ s < 2000)) ∧ ts.length < 64 ∧ qtyp m r (false :: ts) = some fin) ∨
    (s = 18 ∧ ∃ t, ts = true :: t ∧ qtyp m r (true :: t) = some fin) ∨
    (10 ≤ s ∧ s ≤ 17 ∧ ∃ (a b : Bool) (t : List Bool), ts = a :: a :: t ∧ qtyp m r (b :: t) = some fin ∧ ∀ x y, tyV a x → tyV a y → tyV b (qop s x y)) := by
  rw [qtyp_c] at h
  split at h
  · rename_i h1
    split at h
    · rename_i h2
      exact Or.inl ⟨h1, h2.1, h2.2, h⟩
    · cases h
  · split at h
    · exact Or.inr (Or.inl ⟨rfl, _, rfl, h⟩)
    · exact Or.inr (Or.inr ⟨by decide, by decide, false, false, _, rfl, h, fun x y _ _ => qclamp_b _⟩)
    · exact Or.inr (Or.inr ⟨by decide, by decide, false, false, _, rfl, h, fun x y _ _ => qclamp_b _⟩)
    · exact Or.inr (Or.inr ⟨by decide, by decide, false, false, _, rfl, h, fun x y _ _ => qclamp_b _⟩)
    · exact Or.inr (Or.inr ⟨by decide, by decide, false, true, _, rfl, h, fun x y _ _ => tyV_if⟩)
    · exact Or.inr (Or.inr ⟨by decide, by decide, false, true, _, rfl, h, fun x y _ _ => tyV_if⟩)
    · exact Or.inr (Or.inr ⟨by decide, by decide, false, true, _, rfl, h, fun x y _ _ => tyV_if⟩)
    · exact Or.inr (Or.inr ⟨by decide, by decide, true, true, _, rfl, h, fun x y _ _ => tyV_if⟩)
    · exact Or.inr (Or.inr ⟨by decide, by decide, true, true, _, rfl, h, fun x y _ _ => tyV_if⟩)
    · cases h
theorem qrun_push {ask : Nat → Int} {s : Nat} {r : List Nat} {st : List Int} (h : 100 ≤ s) : qrun ask (s :: r) st = qrun ask r ((if 1000 ≤ s then ((s - 1000 : Nat) : Int) else ask (s - 100)) :: st) := by
  show (if 100 ≤ s then _ else _) = _
  rw [if_pos h]
theorem qrun_not {ask : Nat → Int} {r : List Nat} {x : Int} {t : List Int} : qrun ask (18 :: r) (x :: t) = qrun ask r ((1 - x) :: t) := rfl
theorem qrun_op {ask : Nat → Int} {s : Nat} {r : List Nat} {a b : Int} {t : List Int} (h : s ≤ 17) : qrun ask (s :: r) (b :: a :: t) = qrun ask r (qop s a b :: t) := by
  show (if 100 ≤ s then _ else (if s = 18 then _ else _)) = _
  rw [if_neg (by omega), if_neg (by omega)]
theorem qsteps_drop {κ : Nat → Nat} {mn bs i : Nat} (h : i < κ mn) : (qsteps κ mn bs).drop i = κ (bs + i) :: (qsteps κ mn bs).drop (i + 1) := by
  have hl : i < (qsteps κ mn bs).length := by simp [qsteps, h]
  rw [List.drop_eq_getElem_cons hl]
  simp [qsteps]
theorem qsteps_end {κ : Nat → Nat} {mn bs i : Nat} (h : κ mn ≤ i) : (qsteps κ mn bs).drop i = [] := by
  apply List.drop_of_length_le
  simp [qsteps, h]
section A
variable {l : Launch} {G : Gh} {k : Nat} {I : Nat → Nat → Int32} {J : Nat → Nat → Int64} {R : Nat → Nat → Option Nat} {S : Nat → Nat × Nat} {nx : Nat} {κ : Nat → Nat} {hb pb : Nat}
theorem nI_sub1 {n : Nat} (h : 1 ≤ n) : nI n - (1 : Int32) = nI (n - 1) := pk_sub h
theorem nI_m1 {n : Nat} (h : 1 ≤ n) : nI n + (-1 : Int32) = nI (n - 1) := by
  have := pk_m1 (n - 1)
  rwa [show n - 1 + 1 = n by omega] at this
theorem Kn.fr {rows : List Nat} {I I' : Nat → Nat → Int32} {κ : Nat → Nat} (h : Kn I κ) (hf : Fr rows I I') (hr : 44 ∉ rows) : Kn I' κ := fun i hi => by rw [hf 44 hr]; exact h i hi
set_option maxHeartbeats 2000000 in
theorem r_lawOf {mn bs m : Nat} {t : Bool} {ask : Nat → Int} (w : MW R S nx) (hK : Kn I κ) (hmn : mn < 2380) (hle : κ mn ≤ 900) (hbs : bs + 900 ≤ 2380) (ht : qtyp m (qsteps κ mn bs) [] = some [t]) (hm : m ≤ 7) (hask : ∀ j, j < m → I 50 j = zI (ask j) ∧ -1000000 ≤ ask j ∧ ask j ≤ 1000000) :
    Cal l G (k + 2) 0 0 mX12_lawOf [.ref 43, .int (nI mn), .int (nI bs)] (I, J, R, S, nx) (fun r μ' => r = .inl (some (.int (zI (qval ask (qsteps κ mn bs))))) ∧ ∃ I', μ' = (I', J, R, S, nx) ∧ Fr [49] I I') := by
  refine Cal.of rfl (by decide +kernel) (by simp) (Nat.le_of_ble_eq_true rfl) rfl (sX12_lawOf_0 ?_)
  have key : ∀ (d i : Nat) (st : List Int) (ts : List Bool) (I1 : Nat → Nat → Int32), st.length ≤ 64 → i + d = κ mn → Fr [49] I I1 → pileR I1 st → tyR st ts → qtyp m ((qsteps κ mn bs).drop i) ts = some [t] → qrun ask ((qsteps κ mn bs).drop i) st = qrun ask (qsteps κ mn bs) [] →
      WP l G (k + 2) 0 0 mX12_lawOf (fun r μ' => r = .inl (some (.int (zI (qval ask (qsteps κ mn bs))))) ∧ ∃ I', μ' = (I', J, R, S, nx) ∧ Fr [49] I I') 5 [some (.ref 43), some (.int (nI mn)), some (.int (nI bs)), some (.int (nI st.length)), some (.int (nI i)), none] [] (I1, J, R, S, nx) 0 0 := by
    intro d
    induction d with
    | zero =>
      intro i st ts I1 hl hi hF hp hty hq hr
      have hK1 : Kn I1 κ := hK.fr hF (by decide)
      have hmnv : I1 44 (nI mn).toNatClampNeg = nI (κ mn) := by rw [nI_clamp (by omega)]; exact hK1 mn hmn
      have hge : I1 44 (nI mn).toNatClampNeg ≤ nI i := by rw [hmnv]; exact nI_le (by omega) (by omega)
      refine sX12_lawOf_5 w (vp_in_nI hmn (by decide)) (fun _ => ?_) (fun h => absurd hge h) (fun h => absurd hge h) (fun h => absurd hge h) (fun h => absurd hge h) (fun h => absurd hge h) (fun h => absurd hge h) (fun h => absurd hge h) (fun h => absurd hge h) (fun h => absurd hge h) (fun h => absurd hge h) (fun h => absurd hge h) (fun h => absurd hge h) (fun h => absurd hge h)
      rw [qsteps_end (by omega)] at hq hr
      have hts : ts = [t] := by simpa [qtyp] using hq
      subst hts
      obtain ⟨x, rfl⟩ : ∃ x, st = [x] := by
        have := tyR_len hty
        match st, this with
        | [x], _ => exact ⟨x, rfl⟩
      have hx : I1 49 0 = zI x := pile_top hp
      have hv : qval ask (qsteps κ mn bs) = x := by
        unfold qval
        rw [← hr]
        rfl
      exact ⟨by rw [hv, hx], I1, rfl, hF⟩
    | succ d ih =>
      intro i st ts I1 hl hi hF hp hty hq hr
      have hK1 : Kn I1 κ := hK.fr hF (by decide)
      have hmnv : I1 44 (nI mn).toNatClampNeg = nI (κ mn) := by rw [nI_clamp (by omega)]; exact hK1 mn hmn
      have hgt : ¬ I1 44 (nI mn).toNatClampNeg ≤ nI i := by rw [hmnv]; exact nI_ge (by omega) (by omega)
      have hsv : I1 44 (nI bs + nI i).toNatClampNeg = nI (κ (bs + i)) := kn_at hK1 bs i (by omega)
      rw [qsteps_drop (by omega)] at hq hr
      have hinv := qtyp_inv hq
      have hlen := tyR_len hty
      have hs31 : κ (bs + i) < 2 ^ 31 := by rcases hinv with ⟨_, h, _⟩ | ⟨h, _⟩ | ⟨_, h, _⟩ <;> omega
      have hi1 : nI i + (1 : Int32) = nI (i + 1) := nI_1 i
      have lt100 : I1 44 (nI bs + nI i).toNatClampNeg < (100 : Int32) → κ (bs + i) < 100 := fun h => by rw [hsv] at h; exact (nI_ltI hs31 (by decide)).mp h
      have nlt100 : ¬ I1 44 (nI bs + nI i).toNatClampNeg < (100 : Int32) → 100 ≤ κ (bs + i) := fun h => by
        rw [hsv] at h; exact Nat.not_lt.mp (fun h9 => h ((nI_ltI hs31 (by decide)).mpr h9))
      have lt1000 : I1 44 (nI bs + nI i).toNatClampNeg < (1000 : Int32) → κ (bs + i) < 1000 := fun h => by rw [hsv] at h; exact (nI_ltI hs31 (by decide)).mp h
      have nlt1000 : ¬ I1 44 (nI bs + nI i).toNatClampNeg < (1000 : Int32) → 1000 ≤ κ (bs + i) := fun h => by
        rw [hsv] at h; exact Nat.not_lt.mp (fun h9 => h ((nI_ltI hs31 (by decide)).mpr h9))
      have eq18 : I1 44 (nI bs + nI i).toNatClampNeg = (18 : Int32) → κ (bs + i) = 18 := fun h => by rw [hsv] at h; exact (nI_eq hs31 (by decide)).mp h
      have ne18 : ¬ I1 44 (nI bs + nI i).toNatClampNeg = (18 : Int32) → κ (bs + i) ≠ 18 := fun h h9 => h (by rw [hsv, h9]; rfl)
      -- an operation of two
      have opC : κ (bs + i) < 100 → κ (bs + i) ≠ 18 → ∃ (a b : Int) (t1 : List Int) (ta tb : Bool) (tt : List Bool), 10 ≤ κ (bs + i) ∧ κ (bs + i) ≤ 17 ∧ st = b :: a :: t1 ∧ ts = ta :: ta :: tt ∧ tyV ta b ∧ tyV ta a ∧ tyR t1 tt ∧ qtyp m ((qsteps κ mn bs).drop (i + 1)) (tb :: tt) = some [t] ∧ tyV tb (qop (κ (bs + i)) a b) := by
        intro c1 c2
        rcases hinv with ⟨h, _⟩ | ⟨h, _⟩ | ⟨g1, g2, ta, tb, tt, rfl, g4, g5⟩
        · omega
        · exact absurd h c2
        · match st, hty with
          | b :: a :: t1, hty => exact ⟨a, b, t1, ta, tb, tt, g1, g2, rfl, rfl, hty.1, hty.2.1, hty.2.2, g4, g5 a b hty.2.1 hty.1⟩
      have notC : κ (bs + i) = 18 → ∃ (a : Int) (t1 : List Int) (tt : List Bool), st = a :: t1 ∧ ts = true :: tt ∧ tyV true a ∧ tyR t1 tt ∧ qtyp m ((qsteps κ mn bs).drop (i + 1)) (true :: tt) = some [t] := by
        intro c1
        rcases hinv with ⟨h, _⟩ | ⟨_, tt, rfl, g4⟩ | ⟨_, h, _⟩
        · omega
        · match st, hty with
          | a :: t1, hty => exact ⟨a, t1, tt, rfl, rfl, hty.1, hty.2, g4⟩
        · omega
      have pushC : 100 ≤ κ (bs + i) → (κ (bs + i) < 100 + m ∨ (1000 ≤ κ (bs + i) ∧ κ (bs + i) < 2000)) ∧ st.length < 64 ∧ qtyp m ((qsteps κ mn bs).drop (i + 1)) (false :: ts) = some [t] := by
        intro c1
        rcases hinv with ⟨_, g2, g3, g4⟩ | ⟨h, _⟩ | ⟨_, h, _⟩
        · exact ⟨g2, by omega, g4⟩
        · omega
        · omega
      refine sX12_lawOf_5 w (vp_in_nI hmn (by decide)) (fun h => absurd h hgt) (fun _ => vinA bs i 2380 (by omega) (by decide)) (fun _ c1 c2 => ?_) (fun _ c1 c2 => ?_) (fun _ c1 c2 => ?_) (fun _ c1 c2 => ?_) (fun _ c1 c2 => ?_) (fun _ c1 c2 => ?_) (fun _ c1 c2 => ?_) (fun _ c1 c2 => ?_) (fun _ c1 c2 => ?_) (fun _ c1 c2 => ?_) (fun _ c1 c2 => ?_) (fun _ c1 c2 => ?_)
      · obtain ⟨a, b, t1, ta, tb, tt, g1, g2, rfl, g3⟩ := opC (lt100 c1) (ne18 c2)
        have hl9 : t1.length + 2 ≤ 64 := by simpa using hl
        rw [nI_m1 (by simp), nI_sub1 (by simp)]
        exact vp_in_nI (by simp; omega) (by decide)
      · obtain ⟨a, b, t1, ta, tb, tt, g1, g2, rfl, g3⟩ := opC (lt100 c1) (ne18 c2)
        have hl9 : t1.length + 2 ≤ 64 := by simpa using hl
        rw [nI_m1 (by simp)]
        exact vp_in_nI (by simp; omega) (by decide)
      · obtain ⟨a, b, t1, ta, tb, tt, g1, g2, rfl, g3⟩ := opC (lt100 c1) (ne18 c2)
        have hl9 : t1.length + 2 ≤ 64 := by simpa using hl
        rw [nI_m1 (by simp), nI_sub1 (by simp)]
        exact vp_in_nI (by simp; omega) (by decide)
      · obtain ⟨a, b, t1, ta, tb, tt, g1, g2, rfl, g3, g4, g5, g6, g7, g8⟩ := opC (lt100 c1) (ne18 c2)
        have hl9 : t1.length + 2 ≤ 64 := by simpa using hl
        have e1 : nI (b :: a :: t1).length + (-1 : Int32) = nI (a :: t1).length := by rw [nI_m1 (by simp)]; simp
        have e2 : nI (a :: t1).length - (1 : Int32) = nI t1.length := by rw [nI_sub1 (by simp)]; simp
        rw [e1, e2, hi1, hsv, nI_clamp (n := t1.length) (by omega), nI_clamp (n := (a :: t1).length) (by simp; omega), pile_top (pile_tail hp), pile_top hp, done_z ⟨g1, g2⟩ (tyV_b g5) (tyV_b g4)]
        exact ih (i + 1) (qop (κ (bs + i)) a b :: t1) (tb :: tt) _ (by simp; omega) (by omega) (hF.up (by decide)) (pile_set (pile_tail hp) rfl) ⟨g8, g6⟩ g7 (by rw [← hr, qrun_op g2])
      · obtain ⟨a, t1, tt, rfl, g3⟩ := notC (eq18 c2)
        have hl9 : t1.length + 1 ≤ 64 := by simpa using hl
        rw [nI_sub1 (by simp)]
        exact vp_in_nI (by simp; omega) (by decide)
      · obtain ⟨a, t1, tt, rfl, g3⟩ := notC (eq18 c2)
        have hl9 : t1.length + 1 ≤ 64 := by simpa using hl
        rw [nI_sub1 (by simp)]
        exact vp_in_nI (by simp; omega) (by decide)
      · obtain ⟨a, t1, tt, rfl, g3, g4, g5, g6⟩ := notC (eq18 c2)
        have hl9 : t1.length + 1 ≤ 64 := by simpa using hl
        have e2 : nI (a :: t1).length - (1 : Int32) = nI t1.length := by rw [nI_sub1 (by simp)]; simp
        rw [e2, hi1, nI_clamp (n := t1.length) (by omega), pile_top hp]
        have e3 : (1 : Int32) - zI a = zI (1 - a) := by
          have ha : a = 0 ∨ a = 1 := by simpa [tyV] using g4
          rcases ha with rfl | rfl <;> decide
        rw [e3]
        have hr' := hr
        rw [eq18 c2, qrun_not] at hr'
        have hty' : tyV true (1 - a) := by
          have ha : a = 0 ∨ a = 1 := by simpa [tyV] using g4
          rcases ha with rfl | rfl <;> simp [tyV]
        exact ih (i + 1) ((1 - a) :: t1) (true :: tt) _ (by simp at hl ⊢; omega) (by omega) (hF.up (by decide)) (pile_set hp rfl) ⟨hty', g5⟩ g6 hr'
      · obtain ⟨g1, g2, g3⟩ := pushC (nlt100 c1)
        have h9 := lt1000 c2
        rw [hsv, show (100 : Int32) = nI 100 from rfl, pk_sub (nlt100 c1)]
        exact vp_in_nI (by omega) (by decide)
      · obtain ⟨g1, g2, g3⟩ := pushC (nlt100 c1)
        exact vp_in_nI g2 (by decide)
      · obtain ⟨g1, g2, g3⟩ := pushC (nlt100 c1)
        have h9 := lt1000 c2
        have h8 := nlt100 c1
        have ea := hask (κ (bs + i) - 100) (by omega)
        have e0 : I1 50 = I 50 := hF 50 (by decide)
        rw [hsv, show (100 : Int32) = nI 100 from rfl, pk_sub h8, nI_clamp (n := st.length) (by omega), nI_clamp (n := κ (bs + i) - 100) (by omega), e0, ea.1, hi1, show nI st.length + (1 : Int32) = nI (st.length + 1) from nI_1 _]
        have hr' := hr
        rw [qrun_push h8, if_neg (by omega)] at hr'
        exact ih (i + 1) (ask (κ (bs + i) - 100) :: st) (false :: ts) _ (by simp; omega) (by omega) (hF.up (by decide)) (pile_push hp rfl) ⟨ea.2, hty⟩ g3 hr'
      · obtain ⟨g1, g2, g3⟩ := pushC (nlt100 c1)
        exact vp_in_nI g2 (by decide)
      · obtain ⟨g1, g2, g3⟩ := pushC (nlt100 c1)
        have h9 := nlt1000 c2
        have h8 := nlt100 c1
        rw [hsv, show (1000 : Int32) = nI 1000 from rfl, pk_sub h9, nI_clamp (n := st.length) (by omega), hi1, show nI st.length + (1 : Int32) = nI (st.length + 1) from nI_1 _]
        have hr' := hr
        rw [qrun_push h8, if_pos h9] at hr'
        exact ih (i + 1) (((κ (bs + i) - 1000 : Nat) : Int) :: st) (false :: ts) _ (by simp; omega) (by omega) (hF.up (by decide)) (pile_push hp (nI_z _)) ⟨by show -1000000 ≤ _ ∧ _ ≤ _; omega, hty⟩ g3 hr'
  exact key (κ mn) 0 [] [] I (by simp) (by omega) Fr.rf (pile_nil I) trivial (by simpa using ht) (by simp)
end A
