/-! the reader: a land that was read is well made -/
def Z1 (f : Nat → Nat) : Prop := f 1 ≤ 5 ∧ (∀ u, u < 5 → f (61 + u) < 2 ^ f 1 ∧ f (56 + u) ≤ 99) ∧ (∀ u v, u < 5 → v < 5 → (f (61 + u)).testBit v = (f (61 + v)).testBit u) ∧ (∀ u, u < 5 → (f (61 + u)).testBit u = false) ∧ ∀ u, u < 5 → f 1 ≤ u → f (61 + u) = 0
def Z2 (f : Nat → Nat) : Prop := f 2 ≤ 8 ∧ ∀ a, a < 8 → f (66 + a) ≤ 9 ∧ f (74 + a) ≤ 99 ∧ f (37 + a) ≤ 99 ∧ f (45 + a) ≤ 99
def Z3 (f : Nat → Nat) : Prop := (f 3 ≤ 900 ∧ f 4 ≤ 900) ∧ (f 3 ≠ 0 → qtyp 6 (qsteps f 3 572) [] = some [false]) ∧ (f 4 ≠ 0 → qtyp 7 (qsteps f 4 1472) [] = some [true])
def Z4 (f : Nat → Nat) : Prop := f 5 = 0 ∧ f 6 ≤ 1 ∧ (∀ i, 7 ≤ i → i < 37 → f i = 0) ∧ f 53 = 0 ∧ f 54 ≤ 999 ∧ f 55 = 0
def Zk (f : Nat → Nat) : Prop := Z1 f ∧ Z2 f ∧ Z3 f ∧ Z4 f
theorem Z1.cg {f g : Nat → Nat} (h : Z1 f) (e : ∀ i, (i = 1 ∨ (56 ≤ i ∧ i < 66)) → g i = f i) : Z1 g := by
  obtain ⟨a1, a2, a3, a4, a5⟩ := h
  refine ⟨?_, fun u hu => ?_, fun u v hu hv => ?_, fun u hu => ?_, fun u hu h1 => ?_⟩
  · rw [e 1 (by omega)]; exact a1
  · rw [e (61 + u) (by omega), e (56 + u) (by omega), e 1 (by omega)]; exact a2 u hu
  · rw [e (61 + u) (by omega), e (61 + v) (by omega)]; exact a3 u v hu hv
  · rw [e (61 + u) (by omega)]; exact a4 u hu
  · rw [e (61 + u) (by omega)]; rw [e 1 (by omega)] at h1; exact a5 u hu h1
theorem Z2.cg {f g : Nat → Nat} (h : Z2 f) (e : ∀ i, (i = 2 ∨ (37 ≤ i ∧ i < 53) ∨ (66 ≤ i ∧ i < 82)) → g i = f i) : Z2 g := by
  refine ⟨by rw [e 2 (by omega)]; exact h.1, fun a ha => ?_⟩
  rw [e (66 + a) (by omega), e (74 + a) (by omega), e (37 + a) (by omega), e (45 + a) (by omega)]; exact h.2 a ha
theorem qsteps_cg {f g : Nat → Nat} {mn bs : Nat} (h0 : f mn ≤ 900) (h1 : g mn = f mn) (h2 : ∀ i, bs ≤ i → i < bs + 900 → g i = f i) : qsteps g mn bs = qsteps f mn bs := by
  unfold qsteps
  rw [h1]
  apply List.map_congr_left
  intro j hj
  rw [List.mem_range] at hj
  exact h2 _ (by omega) (by omega)
theorem Z3.cg {f g : Nat → Nat} (h : Z3 f) (e : ∀ i, (i = 3 ∨ i = 4 ∨ 572 ≤ i) → g i = f i) : Z3 g := by
  obtain ⟨⟨a1, a2⟩, a3, a4⟩ := h
  refine ⟨⟨by rw [e 3 (by omega)]; exact a1, by rw [e 4 (by omega)]; exact a2⟩, ?_, ?_⟩
  · rw [qsteps_cg a1 (e 3 (by omega)) (fun i h1 h2 => e i (by omega)), e 3 (by omega)]; exact a3
  · rw [qsteps_cg a2 (e 4 (by omega)) (fun i h1 h2 => e i (by omega)), e 4 (by omega)]; exact a4
theorem Z4.cg {f g : Nat → Nat} (h : Z4 f) (e : ∀ i, (i = 5 ∨ i = 6 ∨ (7 ≤ i ∧ i < 37) ∨ (53 ≤ i ∧ i < 56)) → g i = f i) : Z4 g := by
  obtain ⟨a1, a2, a3, a4, a5, a6⟩ := h
  refine ⟨by rw [e 5 (by omega)]; exact a1, by rw [e 6 (by omega)]; exact a2, fun i h1 h2 => by rw [e i (by omega)]; exact a3 i h1 h2, by rw [e 53 (by omega)]; exact a4, by rw [e 54 (by omega)]; exact a5, by rw [e 55 (by omega)]; exact a6⟩
theorem Zk.line {f : Nat → Nat} {v : Nat} (h : Zk f) : Zk (qset f 0 v) := ⟨h.1.cg (fun i hi => qset_ne (by omega)), h.2.1.cg (fun i hi => qset_ne (by omega)), h.2.2.1.cg (fun i hi => qset_ne (by omega)), h.2.2.2.cg (fun i hi => qset_ne (by omega))⟩
theorem Zk.meas {f : Nat → Nat} {v : Nat} (h : Zk f) (hv : v ≤ 1) : Zk (qset f 6 v) := by
  refine ⟨h.1.cg (fun i hi => qset_ne (by omega)), h.2.1.cg (fun i hi => qset_ne (by omega)), h.2.2.1.cg (fun i hi => qset_ne (by omega)), ?_⟩
  obtain ⟨a1, a2, a3, a4, a5, a6⟩ := h.2.2.2
  exact ⟨by rw [qset_ne (by decide)]; exact a1, by rw [qset_eq]; exact hv, fun i h1 h2 => by rw [qset_ne (by omega)]; exact a3 i h1 h2, by rw [qset_ne (by decide)]; exact a4, by rw [qset_ne (by decide)]; exact a5, by rw [qset_ne (by decide)]; exact a6⟩
theorem Zk.hour {f : Nat → Nat} {v : Nat} (h : Zk f) (hv : v ≤ 999) : Zk (qset f 54 v) := by
  refine ⟨h.1.cg (fun i hi => qset_ne (by omega)), h.2.1.cg (fun i hi => qset_ne (by omega)), h.2.2.1.cg (fun i hi => qset_ne (by omega)), ?_⟩
  obtain ⟨a1, a2, a3, a4, a5, a6⟩ := h.2.2.2
  exact ⟨by rw [qset_ne (by decide)]; exact a1, by rw [qset_ne (by decide)]; exact a2, fun i h1 h2 => by rw [qset_ne (by omega)]; exact a3 i h1 h2, by rw [qset_ne (by decide)]; exact a4, by rw [qset_eq]; exact hv, by rw [qset_ne (by decide)]; exact a6⟩
theorem yta_ne {f : Nat → Nat} {a kd x y z i : Nat} (h : i ≠ 66 + a ∧ i ≠ 37 + a ∧ i ≠ 45 + a ∧ i ≠ 74 + a ∧ i ≠ 2) : yta f a kd x y z i = f i := by
  unfold yta
  rw [qset_ne h.2.2.2.2, qset_ne h.2.2.2.1, qset_ne h.2.2.1, qset_ne h.2.1, qset_ne h.1]
theorem Zk.act {f : Nat → Nat} {a kd x y z : Nat} (h : Zk f) (ha : a < 8) (h1 : kd ≤ 9) (h2 : x ≤ 99) (h3 : y ≤ 99) (h4 : z ≤ 99) : Zk (yta f a kd x y z) := by
  refine ⟨h.1.cg (fun i hi => yta_ne (by omega)), ⟨?_, fun b hb => ?_⟩, h.2.2.1.cg (fun i hi => yta_ne (by omega)), h.2.2.2.cg (fun i hi => yta_ne (by omega))⟩
  · unfold yta; rw [qset_eq]; omega
  · by_cases c : b = a
    · subst c
      unfold yta
      refine ⟨?_, ?_, ?_, ?_⟩
      · rw [qset_ne (by omega), qset_ne (by omega), qset_ne (by omega), qset_ne (by omega), qset_eq]; exact h1
      · rw [qset_ne (by omega), qset_eq]; exact h4
      · rw [qset_ne (by omega), qset_ne (by omega), qset_ne (by omega), qset_eq]; exact h2
      · rw [qset_ne (by omega), qset_ne (by omega), qset_eq]; exact h3
    · have := h.2.1.2 b hb
      rw [yta_ne (by omega), yta_ne (by omega), yta_ne (by omega), yta_ne (by omega)]; exact this
theorem ytw_1 {f : Nat → Nat} {w base set : Nat} : ytw f w base set 1 = w + 1 := by unfold ytw; rw [if_pos rfl]
theorem ytw_61 {f : Nat → Nat} {w base set u : Nat} (hw : w < 5) (hu : u < 5) : ytw f w base set (61 + u) = if u = w then set else if u < w ∧ set.testBit u = true then f (61 + u) ||| 2 ^ w else f (61 + u) := by
  unfold ytw
  rw [if_neg (by omega), if_neg (by omega)]
  by_cases c : u = w
  · rw [if_pos (by omega), if_pos c]
  · rw [if_neg (by omega), if_neg c, show 61 + u - 61 = u by omega]
    by_cases c2 : u < w ∧ set.testBit u = true
    · rw [if_pos c2, if_pos ⟨by omega, by omega, c2.2⟩]
    · rw [if_neg c2, if_neg (fun g => c2 ⟨by omega, g.2.2⟩)]
theorem Zk.ward {f : Nat → Nat} {base set : Nat} (h : Zk f) (hw : f 1 < 5) (hb : base ≤ 99) (hs : set < 2 ^ f 1) : Zk (ytw f (f 1) base set) := by
  obtain ⟨a1, a2, a3, a4, a5⟩ := h.1
  obtain ⟨w, hww⟩ : ∃ w, f 1 = w := ⟨_, rfl⟩
  rw [hww] at hw hs a1 a2 a5 ⊢
  have hne : ∀ i, (i ≠ 1 ∧ (i < 56 ∨ 66 ≤ i)) → ytw f w base set i = f i := fun i hi => by unfold ytw; rw [if_neg (by omega), if_neg (by omega), if_neg (by omega), if_neg (by omega)]
  have hbig : ∀ u, u < 5 → w ≤ u → f (61 + u) = 0 := a5
  have hbit : ∀ u v, u < 5 → w ≤ v → (f (61 + u)).testBit v = false := fun u v hu hv => Nat.testBit_lt_two_pow (Nat.lt_of_lt_of_le (a2 u hu).1 (Nat.pow_le_pow_right (by decide) hv))
  have hsb : ∀ v, w ≤ v → set.testBit v = false := fun v hv => Nat.testBit_lt_two_pow (Nat.lt_of_lt_of_le hs (Nat.pow_le_pow_right (by decide) hv))
  -- the bits
  have bit : ∀ u v, u < 5 → v < 5 → (ytw f w base set (61 + u)).testBit v = if u = w then set.testBit v else if v = w then set.testBit u else (f (61 + u)).testBit v := by
    intro u v hu hv
    rw [ytw_61 hw hu]
    by_cases c : u = w
    · rw [if_pos c, if_pos c]
    · rw [if_neg c, if_neg c]
      by_cases c2 : u < w ∧ set.testBit u = true
      · rw [if_pos c2, Nat.testBit_or, Nat.testBit_two_pow]
        by_cases c3 : v = w
        · rw [if_pos c3, c2.2]; simp [c3]
        · rw [if_neg c3, show decide (w = v) = false from decide_eq_false_iff_not.mpr (Ne.symm c3)]; simp
      · rw [if_neg c2]
        by_cases c3 : v = w
        · rw [if_pos c3, c3, hbit u w hu (Nat.le_refl _)]
          by_cases c4 : u < w
          · cases hq : set.testBit u with
            | false => rfl
            | true => exact absurd ⟨c4, hq⟩ c2
          · rw [hsb u (by omega)]
        · rw [if_neg c3]
  refine ⟨⟨by rw [ytw_1]; omega, fun u hu => ?_, fun u v hu hv => ?_, fun u hu => ?_, fun u hu h1 => ?_⟩, h.2.1.cg (fun i hi => hne i (by omega)), h.2.2.1.cg (fun i hi => hne i (by omega)), h.2.2.2.cg (fun i hi => hne i (by omega))⟩
  · rw [ytw_1, ytw_61 hw hu]
    refine ⟨?_, ?_⟩
    · have p1 : 2 ^ w < 2 ^ (w + 1) := Nat.pow_lt_pow_right (by decide) (by omega)
      have hf : f (61 + u) < 2 ^ (w + 1) := Nat.lt_trans (a2 u hu).1 p1
      by_cases c : u = w
      · rw [if_pos c]; exact Nat.lt_trans hs p1
      · rw [if_neg c]
        by_cases c2 : u < w ∧ set.testBit u = true
        · rw [if_pos c2]; exact Nat.or_lt_two_pow hf p1
        · rw [if_neg c2]; exact hf
    · have h56 := (a2 u hu).2
      unfold ytw
      rw [if_neg (by omega)]
      by_cases c : 56 + u = 56 + w
      · rw [if_pos c]; exact hb
      · rw [if_neg c, if_neg (by omega), if_neg (by omega)]; exact h56
  · rw [bit u v hu hv, bit v u hv hu]
    by_cases c1 : u = w
    · rw [if_pos c1]
      by_cases c2 : v = w
      · rw [if_pos c2, c1, c2]
      · rw [if_neg c2, if_pos c1]
    · rw [if_neg c1]
      by_cases c2 : v = w
      · rw [if_pos c2, if_pos c2]
      · rw [if_neg c2, if_neg c2, if_neg c1]; exact a3 u v hu hv
  · rw [bit u u hu hu]
    by_cases c1 : u = w
    · rw [if_pos c1, c1]; exact hsb w (Nat.le_refl _)
    · rw [if_neg c1, if_neg c1]; exact a4 u hu
  · rw [ytw_1] at h1
    rw [ytw_61 hw hu, if_neg (by omega), if_neg (by omega)]; exact hbig u hu (by omega)
theorem ylw_ne {f : Nat → Nat} {mn bs i : Nat} {st : List Nat} (h : i ≠ mn ∧ (i < bs ∨ bs + st.length ≤ i)) : ylw f mn bs st i = f i := by
  unfold ylw; rw [if_neg h.1, if_neg (by omega)]
theorem qsteps_ylw {f : Nat → Nat} {mn bs : Nat} {st : List Nat} (h : mn < bs) : qsteps (ylw f mn bs st) mn bs = st := by
  unfold qsteps
  rw [show ylw f mn bs st mn = st.length by unfold ylw; rw [if_pos rfl]]
  apply List.ext_getElem?
  intro i
  rw [List.getElem?_map]
  by_cases c : i < st.length
  · rw [List.getElem?_range c, List.getElem?_eq_getElem c]
    show some (ylw f mn bs st (bs + i)) = _
    unfold ylw
    rw [if_neg (by omega), if_pos (by omega), show bs + i - bs = i by omega, List.getD_eq_getElem?_getD, List.getElem?_eq_getElem c]; rfl
  · rw [List.getElem?_eq_none (by rw [List.length_range]; omega), List.getElem?_eq_none (by omega)]; rfl
theorem Zk.law {f : Nat → Nat} {st : List Nat} (m : Bool) (h : Zk f) (hl : st.length ≤ 900) (ht : qtyp (mW m) st [] = some [m]) : Zk (if m then ylw f 4 1472 st else ylw f 3 572 st) := by
  cases m with
  | false =>
    show Zk (ylw f 3 572 st)
    refine ⟨h.1.cg (fun i hi => ylw_ne (by omega)), h.2.1.cg (fun i hi => ylw_ne (by omega)), ⟨⟨?_, ?_⟩, ?_, ?_⟩, h.2.2.2.cg (fun i hi => ylw_ne (by omega))⟩
    · show (if 3 = 3 then st.length else _) ≤ 900; rw [if_pos rfl]; exact hl
    · rw [ylw_ne (by omega)]; exact h.2.2.1.1.2
    · intro _; rw [qsteps_ylw (by decide)]; exact ht
    · rw [qsteps_cg h.2.2.1.1.2 (ylw_ne (by omega)) (fun i h1 h2 => ylw_ne (by omega)), ylw_ne (by omega)]; exact h.2.2.1.2.2
  | true =>
    show Zk (ylw f 4 1472 st)
    refine ⟨h.1.cg (fun i hi => ylw_ne (by omega)), h.2.1.cg (fun i hi => ylw_ne (by omega)), ⟨⟨?_, ?_⟩, ?_, ?_⟩, h.2.2.2.cg (fun i hi => ylw_ne (by omega))⟩
    · rw [ylw_ne (by omega)]; exact h.2.2.1.1.1
    · show (if 4 = 4 then st.length else _) ≤ 900; rw [if_pos rfl]; exact hl
    · rw [qsteps_cg h.2.2.1.1.1 (ylw_ne (by omega)) (fun i h1 h2 => ylw_ne (by omega)), ylw_ne (by omega)]; exact h.2.2.1.2.1
    · intro _; rw [qsteps_ylw (by decide)]; exact ht
section A
variable {t : Nat → Nat} {n F : Nat}
theorem ybs_lt {wn : Nat} (hw : wn ≤ 5) : ∀ (f set : Nat) (s : Tok) (v : Nat × Tok), set < 2 ^ wn → ybs t n wn f set s = .inr v → v.1 < 2 ^ wn
  | 0, set, s, v, h, e => by have := Sum.inr.inj e; rw [← this]; exact h
  | f + 1, set, s, v, h, e => by
    unfold ybs at e
    cases hq : ynum t n 0 wn s with
    | inl e' => rw [hq] at e; cases e
    | inr r =>
      rw [hq] at e
      have hr := (ynum_lt (v := r.1) (s' := r.2) hq).2.1
      have h2 : set ||| 2 ^ r.1 < 2 ^ wn := Nat.or_lt_two_pow h (Nat.pow_lt_pow_right (by decide) hr)
      have e' : (if r.2.2.2.1 = 256 then ybs t n wn f (set ||| 2 ^ r.1) r.2 else .inr (set ||| 2 ^ r.1, r.2)) = .inr v := e
      split at e'
      · exact ybs_lt hw f _ _ v h2 e'
      · have := Sum.inr.inj e'; rw [← this]; exact h2
theorem yone_z {s s1 : Ln} (h : Wf t n s.1) (hx : Tx t n) (hz : Zk s.2) (e : yone t n F s = .inr s1) : Zk s1.2 ∧ s1.2 0 = s.2 0 := by
  have h0 := ad_m h hx
  have law : ∀ m, ylaw t n F m s = .inr s1 → Zk s1.2 ∧ s1.2 0 = s.2 0 := by
    intro m e
    unfold ylaw at e
    obtain ⟨s2, e2, e⟩ := xb_inv e
    obtain ⟨m1, m2⟩ := ymust_m h0.1 hx e2
    obtain ⟨z, e3, e⟩ := xb_inv e
    have := Sum.inr.inj e
    obtain ⟨q1, q2⟩ := law_t hx m1 e3
    rw [← this]
    refine ⟨hz.law m q2 q1, ?_⟩
    cases m with
    | false => show ylw s.2 3 572 z.2 0 = s.2 0; exact ylw_ne (by omega)
    | true => show ylw s.2 4 1472 z.2 0 = s.2 0; exact ylw_ne (by omega)
  unfold yone at e
  split at e
  · unfold yward at e
    split at e
    · cases e
    · rename_i h5
      obtain ⟨r1, e1, e⟩ := xb_inv e
      obtain ⟨r2, e2, e⟩ := xb_inv e
      have := Sum.inr.inj e
      have h1 := hz.1.1
      have hset : r2.1 < 2 ^ s.2 1 := by
        split at e2
        · exact ybs_lt h1 _ _ _ r2 (Nat.two_pow_pos _) e2
        · have := Sum.inr.inj e2; rw [← this]; exact Nat.two_pow_pos _
      have hb := (ynum_lt (v := r1.1) (s' := r1.2) e1).2.1
      rw [← this]
      refine ⟨hz.ward (by omega) (by omega) hset, ?_⟩
      show ytw s.2 (s.2 1) r1.1 r2.1 0 = s.2 0
      unfold ytw
      rw [if_neg (by decide), if_neg (by omega), if_neg (by omega), if_neg (by omega)]
  · split at e
    · unfold yact at e
      split at e
      · cases e
      · rename_i h8
        obtain ⟨r1, e1, e⟩ := xb_inv e
        obtain ⟨s2, e2, e⟩ := xb_inv e
        obtain ⟨r3, e3, e⟩ := xb_inv e
        obtain ⟨s4, e4, e⟩ := xb_inv e
        obtain ⟨r5, e5, e⟩ := xb_inv e
        obtain ⟨s6, e6, e⟩ := xb_inv e
        obtain ⟨r7, e7, e⟩ := xb_inv e
        have := Sum.inr.inj e
        have q1 := (ynum_lt (v := r1.1) (s' := r1.2) e1).2.1
        have q3 := (ynum_lt (v := r3.1) (s' := r3.2) e3).2.1
        have q5 := (ynum_lt (v := r5.1) (s' := r5.2) e5).2.1
        have q7 := (ynum_lt (v := r7.1) (s' := r7.2) e7).2.1
        have h2 := hz.2.1.1
        rw [← this]
        refine ⟨hz.act (by omega) (by omega) (by omega) (by omega) (by omega), ?_⟩
        show yta s.2 (s.2 2) r1.1 r3.1 r5.1 r7.1 0 = s.2 0
        exact yta_ne (by omega)
    · split at e
      · have := Sum.inr.inj e; rw [← this]; exact ⟨hz.meas (v := 1) (by decide), qset_ne (κ := s.2) (i := 6) (v := 1) (j := 0) (by decide)⟩
      · split at e
        · have := Sum.inr.inj e; rw [← this]; exact ⟨hz.meas (v := 0) (by decide), qset_ne (κ := s.2) (i := 6) (v := 0) (j := 0) (by decide)⟩
        · split at e
          · obtain ⟨r1, e1, e⟩ := xb_inv e
            have := Sum.inr.inj e
            have q1 := (ynum_lt (v := r1.1) (s' := r1.2) e1).2.1
            rw [← this]
            exact ⟨hz.hour (by omega), qset_ne (κ := s.2) (i := 54) (v := r1.1) (j := 0) (by decide)⟩
          · split at e
            · exact law false e
            · split at e
              · exact law true e
              · cases e
theorem ylp_z (hx : Tx t n) : ∀ (f : Nat) (s s1 : Ln), Wf t n s.1 → Zk s.2 → s.2 0 ≤ s.1.2.1 → ylp t n F f s = .inr s1 → Wf t n s1.1 ∧ Zk s1.2 ∧ s1.2 0 ≤ s1.1.2.1
  | 0, s, s1, hw, hz, h0, e => by have := Sum.inr.inj e; subst this; exact ⟨hw, hz, h0⟩
  | f + 1, s, s1, hw, hz, h0, e => by
    unfold ylp at e
    split at e
    · have := Sum.inr.inj e; subst this; exact ⟨hw, hz, h0⟩
    · rename_i h7
      obtain ⟨s2, e2, e⟩ := xb_inv e
      unfold yline at e2
      obtain ⟨s3, e3, e2⟩ := xb_inv e2
      obtain ⟨q1, q2⟩ := yone_z hw hx hz e3
      obtain ⟨m1, m2⟩ := yone_m hw hx e3
      obtain ⟨s4, e4, e2⟩ := xb_inv e2
      have e5 := Sum.inr.inj e2
      subst e5
      have hg := hw.g hx
      have e6 : s4 = ynx t n s3.1.1 := by
        unfold ymust at e4
        split at e4
        · exact (Sum.inr.inj e4).symm
        · cases e4
      have ha := m1.ad hx
      rw [← e6] at ha
      refine ylp_z hx f _ s1 ha.1 q1.line ?_ e
      show qset s3.2 0 (s3.2 0 + 1) 0 ≤ s4.2.1
      rw [qset_eq, q2]
      have := hg.2.2.1.resolve_left h7
      omega
theorem yland_z {s : Ln} (hx : Tx t n) (e : yland t n F = .inr s) : sok 999 0 s.2 ∧ s.2 5 = 0 := by
  have z0 : Zk (fun _ => 0) := ⟨⟨by decide, fun u _ => ⟨by show 0 < 2 ^ 0; decide, Nat.zero_le _⟩, fun u v _ _ => by simp, fun u _ => by simp, fun u _ _ => rfl⟩, ⟨Nat.zero_le _, fun a _ => ⟨Nat.zero_le _, Nat.zero_le _, Nat.zero_le _, Nat.zero_le _⟩⟩, ⟨⟨Nat.zero_le _, Nat.zero_le _⟩, fun h => absurd rfl h, fun h => absurd rfl h⟩, rfl, Nat.zero_le _, fun i _ _ => rfl, rfl, Nat.zero_le _, rfl⟩
  obtain ⟨w1, ⟨⟨a1, a2, a3, a4, a5⟩, ⟨b1, b2⟩, ⟨⟨c1, c2⟩, c3, c4⟩, d1, d2, d3, d4, d5, d6⟩, h0⟩ := ylp_z hx F (ynx t n 0, fun _ => 0) s ⟨0, Nat.zero_le _, rfl⟩ z0 (Nat.zero_le _) e
  have hg := w1.g hx
  have hn := hx.1
  have p5 : 2 ^ s.2 1 ≤ 2 ^ 5 := Nat.pow_le_pow_right (by decide) a1
  refine ⟨⟨⟨a1, b1, c1, c2, d2, by omega, fun w hw => ⟨(a2 w hw).2, Nat.lt_of_lt_of_le (a2 w hw).1 p5⟩, fun a ha => ⟨(b2 a ha).1, (b2 a ha).2.1⟩, c3, c4, a3, a4⟩, by omega, ⟨fun w hw => ?_, fun a ha => ?_, ?_, ?_, ?_⟩, fun j hj => by omega⟩, d1⟩
  · have e0 : ∀ i, i < 30 → s.2 (7 + i) = 0 := fun i hi => d3 (7 + i) (by omega) (by omega)
    dsimp only
    rw [e0 w (by omega), e0 (5 + w) (by omega), e0 (10 + w) (by omega), e0 (15 + w) (by omega), e0 (20 + w) (by omega), e0 (25 + w) (by omega)]
    omega
  · dsimp only
    rw [show 7 + (30 + a) = 37 + a by omega, show 7 + (38 + a) = 45 + a by omega]
    exact ⟨(b2 a ha).2.2.1, (b2 a ha).2.2.2⟩
  · show s.2 53 < 256; omega
  · show s.2 54 ≤ 999; exact d5
  · show s.2 55 ≤ 0; omega
end A
