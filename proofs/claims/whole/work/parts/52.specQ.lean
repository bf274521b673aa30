/-! the reader: how it goes on -/
def Wf (t : Nat → Nat) (n : Nat) (s : Tok) : Prop := ∃ h, h ≤ n ∧ s = ynx t n h
def Eg (n : Nat) (e : Er) : Prop := 1 ≤ e.1 ∧ e.1 ≤ 4 ∧ e.2 ≤ n
/-- a text -/
def Tx (t : Nat → Nat) (n : Nat) : Prop := n ≤ 900 ∧ ∀ j, j < n → t j < 256
def Rr (t : Nat → Nat) (n : Nat) (s s' : Ex) : Prop := Wf t n s'.1 ∧ s.1.1 ≤ s'.1.1 ∧ s.1.2.1 ≤ s'.1.2.1 ∧ s'.2.length + s.1.2.1 ≤ s.2.length + s'.1.2.1
/-- a reader goes on, or finds a fault -/
def Gd (t : Nat → Nat) (n : Nat) (f : Ex → Er ⊕ Ex) : Prop := ∀ s, Wf t n s.1 → (∀ e, f s = .inl e → Eg n e) ∧ ∀ s', f s = .inr s' → s.1.2.2.1 ≠ 257 ∧ Rr t n s s'
section A
variable {t : Nat → Nat} {n F : Nat}
theorem Wf.g {s : Tok} (h : Wf t n s) (hx : Tx t n) : s.2.1 ≤ s.1 ∧ s.1 ≤ n ∧ (s.2.2.1 = 257 ∨ s.2.1 < s.1) ∧ s.2.2.1 ≤ 320 ∧ (s.2.2.1 = 256 → s.2.2.2 ≤ 999) := by
  obtain ⟨h, hh, rfl⟩ := h
  have := ynx_g hh hx.2
  exact ⟨this.2.1, this.2.2.1, this.2.2.2.1.elim Or.inl (fun g => Or.inr g.2), this.2.2.2.2⟩
theorem Wf.ad {s : Tok} (h : Wf t n s) (hx : Tx t n) : Wf t n (ynx t n s.1) ∧ s.1 ≤ (ynx t n s.1).2.1 ∧ ((ynx t n s.1).2.2.1 = 257 ∨ s.1 < (ynx t n s.1).1) ∧ (ynx t n s.1).2.1 ≤ (ynx t n s.1).1 := by
  have hg := h.g hx
  have := ynx_g (h := s.1) hg.2.1 hx.2
  exact ⟨⟨s.1, hg.2.1, rfl⟩, this.1, this.2.2.2.1.elim Or.inl (fun g => Or.inr g.1), this.2.1⟩
/-- which tokens there are -/
theorem Wf.tok {s : Tok} (h : Wf t n s) (hx : Tx t n) : (s.2.2.1 = 256 ∨ s.2.2.1 = 257 ∨ s.2.2.1 = 258) ∨ (299 ≤ s.2.2.1 ∧ s.2.2.1 ≤ 320) ∨ (s.2.2.1 < 256 ∧ qsgn s.2.2.1 = true) := by
  obtain ⟨h, hh, rfl⟩ := h
  obtain ⟨b, hb, hc⟩ := ynx_cases t n h
  rcases hc with ⟨h1, e⟩ | ⟨h1, h2, e, he, hx2⟩ | ⟨h1, h2, h3, e, he, hx2⟩ | ⟨h1, h2, h3, hx2⟩
  · rw [e]; exact Or.inl (Or.inr (Or.inl rfl))
  · rw [hx2]; exact Or.inr (Or.inl (qwc_ge _))
  · rw [hx2]
    by_cases c : 3 < e - b
    · exact Or.inl (Or.inr (Or.inr (by show (if 3 < e - b then 258 else 256) = 258; rw [if_pos c])))
    · exact Or.inl (Or.inl (by show (if 3 < e - b then 258 else 256) = 256; rw [if_neg c]))
  · rw [hx2]
    cases c : qsgn (t b) with
    | true => exact Or.inr (Or.inr ⟨by show (if true then t b else 258) < 256; exact hx.2 b h1, by show qsgn (if true then t b else 258) = true; exact c⟩)
    | false => exact Or.inl (Or.inr (Or.inr rfl))
theorem Rr.rf {s : Ex} (h : Wf t n s.1) : Rr t n s s := ⟨h, Nat.le_refl _, Nat.le_refl _, Nat.le_refl _⟩
theorem Rr.tr {s s1 s2 : Ex} (h1 : Rr t n s s1) (h2 : Rr t n s1 s2) : Rr t n s s2 := by
  obtain ⟨a1, a2, a3, a4⟩ := h1
  obtain ⟨b1, b2, b3, b4⟩ := h2
  exact ⟨b1, by omega, by omega, by omega⟩
theorem xad_r {s : Ex} (h : Wf t n s.1) (hx : Tx t n) : Rr t n s (xad t n s) := by
  have h1 := h.ad hx
  have h2 := h.g hx
  refine ⟨h1.1, ?_, ?_, ?_⟩
  · show s.1.1 ≤ (ynx t n s.1.1).1; omega
  · show s.1.2.1 ≤ (ynx t n s.1.1).2.1; omega
  · show s.2.length + s.1.2.1 ≤ s.2.length + (ynx t n s.1.1).2.1; omega
/-- a step laid behind a token that was passed -/
theorem xput_r {s s' : Ex} {v : Nat} (h : Wf t n s.1) (hx : Tx t n) (h7 : s.1.2.2.1 ≠ 257) (h2 : Rr t n (xad t n s) s') : Rr t n s (xput v s') ∧ s.1.1 ≤ s'.1.2.1 := by
  obtain ⟨a1, a2, a3, a4⟩ := h2
  have h1 := h.ad hx
  have hg := h.g hx
  have e1 : (xad t n s).1.1 = (ynx t n s.1.1).1 := rfl
  have e2 : (xad t n s).1.2.1 = (ynx t n s.1.1).2.1 := rfl
  have e3 : (xad t n s).2 = s.2 := rfl
  rw [e1] at a2; rw [e2] at a3 a4; rw [e3] at a4
  refine ⟨⟨a1, ?_, ?_, ?_⟩, by omega⟩
  · show s.1.1 ≤ s'.1.1; omega
  · show s.1.2.1 ≤ s'.1.2.1; omega
  · show (s'.2 ++ [v]).length + s.1.2.1 ≤ s.2.length + s'.1.2.1
    rw [List.length_append, List.length_singleton]
    have := hg.2.2.1.resolve_left h7; omega
theorem qbl_g {s : Tok} {k : Nat} (h : Wf t n s) (hx : Tx t n) (hk : 1 ≤ k ∧ k ≤ 4) : Eg n (qbl k s) := by
  have := h.g hx
  unfold Eg qbl
  refine ⟨?_, ?_, ?_⟩
  · show 1 ≤ (if s.2.2.1 = 258 then 1 else k); split <;> omega
  · show (if s.2.2.1 = 258 then 1 else k) ≤ 4; split <;> omega
  · show s.2.1 ≤ n; omega
theorem Gd.must (hx : Tx t n) {c : Nat} (hc : c ≠ 257) : Gd t n (xmust t n c) := by
  intro s h
  unfold xmust
  by_cases e : s.1.2.2.1 = c
  · rw [if_pos e]
    refine ⟨fun e h => (by cases h), fun s' h' => ?_⟩
    obtain rfl := Sum.inr.inj h'
    exact ⟨by omega, xad_r h hx⟩
  · rw [if_neg e]
    refine ⟨fun e h' => ?_, fun s' h => (by cases h)⟩
    obtain rfl := Sum.inl.inj h'
    exact qbl_g h hx (by decide)
theorem Gd.of {f g : Ex → Er ⊕ Ex} (hf : Gd t n f) (hg : ∀ s, Wf t n s.1 → (∀ e, g s = .inl e → Eg n e) ∧ ∀ s', g s = .inr s' → Rr t n s s') : Gd t n (fun s => xb (f s) g) := by
  intro s h
  obtain ⟨h1, h2⟩ := hf s h
  show (∀ e, xb (f s) g = .inl e → Eg n e) ∧ ∀ s', xb (f s) g = .inr s' → s.1.2.2.1 ≠ 257 ∧ Rr t n s s'
  cases hq : f s with
  | inl e => exact ⟨fun e' h => by have := Sum.inl.inj h; subst this; exact h1 _ hq, fun s' h => (by cases h)⟩
  | inr s1 =>
    obtain ⟨a1, a2⟩ := h2 s1 hq
    obtain ⟨b1, b2⟩ := hg s1 a2.1
    exact ⟨fun e h => b1 e h, fun s' h => ⟨a1, a2.tr (b2 s' h)⟩⟩
/-- a reader behind a token -/
theorem Gd.beh {f : Ex → Er ⊕ Ex} {v : Nat} {s : Ex} (hx : Tx t n) (hf : Gd t n f) (h : Wf t n s.1) (h7 : s.1.2.2.1 ≠ 257) : (∀ e, xb (f (xad t n s)) (fun s' => .inr (xput v s')) = .inl e → Eg n e) ∧ ∀ s', xb (f (xad t n s)) (fun s' => .inr (xput v s')) = .inr s' → Rr t n s s' ∧ s.1.1 < s'.1.1 := by
  have ha := xad_r h hx
  obtain ⟨h1, h2⟩ := hf (xad t n s) ha.1
  cases hq : f (xad t n s) with
  | inl e => exact ⟨fun e' h => by have := Sum.inl.inj h; subst this; exact h1 _ hq, fun s' h => (by cases h)⟩
  | inr s1 =>
    obtain ⟨a1, a2⟩ := h2 s1 hq
    refine ⟨fun e h => (by cases h), fun s' h' => ?_⟩
    have hs : xput v s1 = s' := Sum.inr.inj h'
    rw [← hs]
    refine ⟨(xput_r h hx h7 a2).1, ?_⟩
    have hd := h.ad hx
    have q1 : (ynx t n s.1.1).2.2.1 ≠ 257 := a1
    have q2 := hd.2.2.1.resolve_left q1
    have q3 : (ynx t n s.1.1).1 ≤ s1.1.1 := a2.2.1
    show s.1.1 < s1.1.1; omega
theorem xlp_g {c : Ex → Bool} {b : Ex → Er ⊕ Ex} (hb : ∀ s, Wf t n s.1 → c s = true → (∀ e, b s = .inl e → Eg n e) ∧ ∀ s', b s = .inr s' → Rr t n s s') : ∀ (f : Nat) (s : Ex), Wf t n s.1 → (∀ e, xlp c b f s = .inl e → Eg n e) ∧ ∀ s', xlp c b f s = .inr s' → Rr t n s s'
  | 0, s, h => ⟨fun e h => (by cases h), fun s' h' => by have := Sum.inr.inj h'; subst this; exact Rr.rf h⟩
  | f + 1, s, h => by
    cases hc : c s with
    | false =>
      rw [xlp_n hc]
      exact ⟨fun e h => (by cases h), fun s' h' => by have := Sum.inr.inj h'; subst this; exact Rr.rf h⟩
    | true =>
      rw [xlp_y hc]
      obtain ⟨h1, h2⟩ := hb s h hc
      cases hq : b s with
      | inl e => exact ⟨fun e' h => by have := Sum.inl.inj h; subst this; exact h1 _ hq, fun s' h => (by cases h)⟩
      | inr s1 =>
        have a2 := h2 s1 hq
        obtain ⟨b1, b2⟩ := xlp_g hb f s1 a2.1
        exact ⟨fun e h => b1 e h, fun s' h => a2.tr (b2 s' h)⟩
theorem xw_7 (m : Bool) : xw m 257 = none := by cases m <;> rfl
theorem xatom_g {m : Bool} {d : Nat} {su : Ex → Er ⊕ Ex} (hx : Tx t n) (hs : d ≠ 0 → Gd t n su) : Gd t n (xatom t n m d su) := by
  intro s h
  have h4 : Eg n (4, s.1.2.1) := ⟨by show 1 ≤ 4; decide, Nat.le_refl 4, by have := h.g hx; show s.1.2.1 ≤ n; omega⟩
  unfold xatom
  split
  · rename_i j hj
    have h7 : s.1.2.2.1 ≠ 257 := fun e => by rw [e, xw_7] at hj; cases hj
    refine ⟨fun e h => (by cases h), fun s' h' => ?_⟩
    have := Sum.inr.inj h'; subst this
    exact ⟨h7, (xput_r h hx h7 (Rr.rf (xad_r h hx).1)).1⟩
  · split
    · rename_i h40
      have h7 : s.1.2.2.1 ≠ 257 := by omega
      split
      · exact ⟨fun e h => by have := Sum.inl.inj h; subst this; exact h4, fun s' h => (by cases h)⟩
      · rename_i hd
        have ha := xad_r h hx
        have hg := Gd.of (hs hd) (g := xmust t n 41) (fun s h => ⟨(Gd.must hx (by decide) s h).1, fun s' e => ((Gd.must hx (by decide) s h).2 s' e).2⟩)
        obtain ⟨h1, h2⟩ := hg (xad t n s) ha.1
        exact ⟨h1, fun s' e => ⟨h7, ha.tr (h2 s' e).2⟩⟩
    · split
      · rename_i h6
        have h7 : s.1.2.2.1 ≠ 257 := by omega
        refine ⟨fun e h => (by cases h), fun s' h' => ?_⟩
        have := Sum.inr.inj h'; subst this
        exact ⟨h7, (xput_r h hx h7 (Rr.rf (xad_r h hx).1)).1⟩
      · exact ⟨fun e h' => by have := Sum.inl.inj h'; subst this; exact qbl_g h hx (by decide), fun s' h => (by cases h)⟩
theorem xterm_g {m : Bool} {d : Nat} {su : Ex → Er ⊕ Ex} (hx : Tx t n) (hs : d ≠ 0 → Gd t n su) : Gd t n (xterm t n F m d su) :=
  Gd.of (xatom_g hx hs) (xlp_g (fun s h hc => by
    have h7 : s.1.2.2.1 ≠ 257 := by rw [decide_eq_true_eq] at hc; omega
    have := Gd.beh (v := 12) hx (xatom_g (m := m) (d := d) hx hs) h h7
    exact ⟨this.1, fun s' e => (this.2 s' e).1⟩) F)
theorem xsum_g {m : Bool} {d : Nat} {su : Ex → Er ⊕ Ex} (hx : Tx t n) (hs : d ≠ 0 → Gd t n su) : Gd t n (xsum t n F m d su) :=
  Gd.of (xterm_g hx hs) (xlp_g (fun s h hc => by
    have h7 : s.1.2.2.1 ≠ 257 := by rw [decide_eq_true_eq] at hc; omega
    have := Gd.beh (v := if s.1.2.2.1 = 43 then 10 else 11) hx (xterm_g (F := F) (m := m) (d := d) hx hs) h h7
    exact ⟨this.1, fun s' e => (this.2 s' e).1⟩) F)
theorem xunit_g {m : Bool} {d : Nat} {su un tr : Ex → Er ⊕ Ex} (hx : Tx t n) (hs : d ≠ 0 → Gd t n su ∧ Gd t n un ∧ Gd t n tr) : Gd t n (xunit t n F m d su un tr) := by
  intro s h
  have h4 : Eg n (4, s.1.2.1) := ⟨by show 1 ≤ 4; decide, Nat.le_refl 4, by have := h.g hx; show s.1.2.1 ≤ n; omega⟩
  unfold xunit
  split
  · rename_i h3
    have h7 : s.1.2.2.1 ≠ 257 := by omega
    split
    · exact ⟨fun e h => by have := Sum.inl.inj h; subst this; exact h4, fun s' h => (by cases h)⟩
    · rename_i hd
      have := Gd.beh (v := 18) hx (hs hd).2.1 h h7
      exact ⟨this.1, fun s' e => ⟨h7, (this.2 s' e).1⟩⟩
  · split
    · rename_i h91
      have h7 : s.1.2.2.1 ≠ 257 := by omega
      split
      · exact ⟨fun e h => by have := Sum.inl.inj h; subst this; exact h4, fun s' h => (by cases h)⟩
      · rename_i hd
        have ha := xad_r h hx
        have hg := Gd.of (hs hd).2.2 (g := xmust t n 93) (fun s h => ⟨(Gd.must hx (by decide) s h).1, fun s' e => ((Gd.must hx (by decide) s h).2 s' e).2⟩)
        obtain ⟨h1, h2⟩ := hg (xad t n s) ha.1
        exact ⟨h1, fun s' e => ⟨h7, ha.tr (h2 s' e).2⟩⟩
    · have hsu : Gd t n (xsum t n F m d su) := xsum_g hx (fun hd => (hs hd).1)
      refine Gd.of hsu (fun s1 hw1 => ?_) s h
      split
      · rename_i hc
        have h7 : s1.1.2.2.1 ≠ 257 := by omega
        have := Gd.beh (v := if s1.1.2.2.1 = 61 then 13 else if s1.1.2.2.1 = 60 then 14 else 15) hx hsu hw1 h7
        exact ⟨this.1, fun s' e => (this.2 s' e).1⟩
      · exact ⟨fun e h' => by have := Sum.inl.inj h'; subst this; exact qbl_g hw1 hx (by decide), fun s' h => (by cases h)⟩
theorem xboth_g {m : Bool} {d : Nat} {su un tr : Ex → Er ⊕ Ex} (hx : Tx t n) (hs : d ≠ 0 → Gd t n su ∧ Gd t n un ∧ Gd t n tr) : Gd t n (xboth t n F m d su un tr) :=
  Gd.of (xunit_g hx hs) (xlp_g (fun s h hc => by
    have h7 : s.1.2.2.1 ≠ 257 := by rw [decide_eq_true_eq] at hc; omega
    have := Gd.beh (v := 16) hx (xunit_g (F := F) (m := m) (d := d) hx hs) h h7
    exact ⟨this.1, fun s' e => (this.2 s' e).1⟩) F)
theorem xtruth_g {m : Bool} {d : Nat} {su un tr : Ex → Er ⊕ Ex} (hx : Tx t n) (hs : d ≠ 0 → Gd t n su ∧ Gd t n un ∧ Gd t n tr) : Gd t n (xtruth t n F m d su un tr) :=
  Gd.of (xboth_g hx hs) (xlp_g (fun s h hc => by
    have h7 : s.1.2.2.1 ≠ 257 := by rw [decide_eq_true_eq] at hc; omega
    have := Gd.beh (v := 17) hx (xboth_g (F := F) (m := m) (d := d) hx hs) h h7
    exact ⟨this.1, fun s' e => (this.2 s' e).1⟩) F)
theorem xlev_g (m : Bool) (hx : Tx t n) : ∀ d, Gd t n (xlev t n F m d).1 ∧ Gd t n (xlev t n F m d).2.1 ∧ Gd t n (xlev t n F m d).2.2
  | 0 => ⟨xsum_g hx (fun h => absurd rfl h), xunit_g hx (fun h => absurd rfl h), xtruth_g hx (fun h => absurd rfl h)⟩
  | d + 1 => ⟨xsum_g hx (fun _ => (xlev_g m hx d).1), xunit_g hx (fun _ => xlev_g m hx d), xtruth_g hx (fun _ => xlev_g m hx d)⟩
end A
