/-! the reader: what it reads is well made -/
def mW (m : Bool) : Nat := if m then 7 else 6
/-- the steps that were laid leave one more on the pile -/
def Ty (t : Nat → Nat) (n : Nat) (m b : Bool) (D : Nat) (f : Ex → Er ⊕ Ex) : Prop := ∀ s, Wf t n s.1 → ∀ s', f s = .inr s' → ∃ nw, s'.2 = s.2 ++ nw ∧ ∀ rest ts, ts.length + D ≤ 64 → qtyp (mW m) (nw ++ rest) ts = qtyp (mW m) rest (b :: ts)
/-- .. leave the pile as it was -/
def Tz (t : Nat → Nat) (n : Nat) (m b : Bool) (D : Nat) (f : Ex → Er ⊕ Ex) : Prop := ∀ s, Wf t n s.1 → ∀ s', f s = .inr s' → Wf t n s'.1 ∧ ∃ nw, s'.2 = s.2 ++ nw ∧ ∀ rest ts, ts.length + D ≤ 64 → qtyp (mW m) (nw ++ rest) (b :: ts) = qtyp (mW m) rest (b :: ts)
section A
variable {t : Nat → Nat} {n F : Nat} {m b : Bool} {D : Nat}
theorem Ty.mono {f : Ex → Er ⊕ Ex} {D' : Nat} (h : Ty t n m b D f) (hd : D ≤ D') : Ty t n m b D' f := fun s hw s' e => by
  obtain ⟨nw, h1, h2⟩ := h s hw s' e
  exact ⟨nw, h1, fun rest ts hl => h2 rest ts (by omega)⟩
theorem Tz.lp {c : Ex → Bool} {bd : Ex → Er ⊕ Ex} (hb : ∀ s, Wf t n s.1 → c s = true → ∀ s', bd s = .inr s' → Wf t n s'.1 ∧ ∃ nw, s'.2 = s.2 ++ nw ∧ ∀ rest ts, ts.length + D ≤ 64 → qtyp (mW m) (nw ++ rest) (b :: ts) = qtyp (mW m) rest (b :: ts)) : ∀ f, Tz t n m b D (xlp c bd f)
  | 0 => fun s hw s' e => by have := Sum.inr.inj e; subst this; exact ⟨hw, [], by simp, fun rest ts _ => rfl⟩
  | f + 1 => fun s hw s' e => by
    cases hc : c s with
    | false => rw [xlp_n hc] at e; have := Sum.inr.inj e; subst this; exact ⟨hw, [], by simp, fun rest ts _ => rfl⟩
    | true =>
      rw [xlp_y hc] at e
      cases hq : bd s with
      | inl e' => rw [hq] at e; cases e
      | inr s1 =>
        rw [hq] at e
        obtain ⟨w1, n1, a1, a2⟩ := hb s hw hc s1 hq
        obtain ⟨w2, n2, b1, b2⟩ := Tz.lp hb f s1 w1 s' e
        refine ⟨w2, n1 ++ n2, by rw [b1, a1, List.append_assoc], fun rest ts hl => ?_⟩
        rw [List.append_assoc, a2 _ _ hl, b2 _ _ hl]
/-- a reader, and a loop behind it -/
theorem Ty.lp {f g : Ex → Er ⊕ Ex} (hg : Gd t n f) (hf : Ty t n m b D f) (hl : Tz t n m b D g) : Ty t n m b D (fun s => xb (f s) g) := fun s hw s' e => by
  have e' : xb (f s) g = .inr s' := e
  cases hq : f s with
  | inl x => rw [hq] at e'; cases e'
  | inr s1 =>
    rw [hq] at e'
    obtain ⟨n1, a1, a2⟩ := hf s hw s1 hq
    have w1 := ((hg s hw).2 s1 hq).2.1
    obtain ⟨w2, n2, b1, b2⟩ := hl s1 w1 s' e'
    refine ⟨n1 ++ n2, by rw [b1, a1, List.append_assoc], fun rest ts hd => ?_⟩
    rw [List.append_assoc, a2 _ _ hd, b2 _ _ hd]
/-- one more, and a step that joins two -/
theorem Ty.bd {f : Ex → Er ⊕ Ex} {c : Bool} {v : Nat} {s s' : Ex} (hx : Tx t n) (hg : Gd t n f) (hf : Ty t n m c D f) (hw : Wf t n s.1) (hv : ∀ rest ts, qtyp (mW m) (v :: rest) (c :: b :: ts) = qtyp (mW m) rest (b :: ts)) (e : xb (f (xad t n s)) (fun s' => .inr (xput v s')) = .inr s') : Wf t n s'.1 ∧ ∃ nw, s'.2 = s.2 ++ nw ∧ ∀ rest ts, ts.length + (D + 1) ≤ 64 → qtyp (mW m) (nw ++ rest) (b :: ts) = qtyp (mW m) rest (b :: ts) := by
  have ha := xad_r hw hx
  cases hq : f (xad t n s) with
  | inl x => rw [hq] at e; cases e
  | inr s1 =>
    rw [hq] at e
    have := Sum.inr.inj e; subst this
    obtain ⟨n1, a1, a2⟩ := hf (xad t n s) ha.1 s1 hq
    have w1 := ((hg _ ha.1).2 s1 hq).2.1
    refine ⟨w1, n1 ++ [v], ?_, fun rest ts hd => ?_⟩
    · show s1.2 ++ [v] = s.2 ++ (n1 ++ [v])
      rw [a1, List.append_assoc]; rfl
    · rw [List.append_assoc, a2 _ (b :: ts) (by simp only [List.length_cons]; omega)]
      exact hv rest ts
theorem q_num {v : Nat} (hv : (v < 100 + mW m ∧ 100 ≤ v) ∨ (1000 ≤ v ∧ v < 2000)) (rest : List Nat) (ts : List Bool) (hl : ts.length < 64) : qtyp (mW m) (v :: rest) ts = qtyp (mW m) rest (false :: ts) := by
  have e : qtyp (mW m) (v :: rest) ts = if 100 ≤ v then (if (v < 100 + mW m ∨ (1000 ≤ v ∧ v < 2000)) ∧ ts.length < 64 then qtyp (mW m) rest (false :: ts) else none) else qtyp (mW m) (v :: rest) ts := by
    by_cases c : 100 ≤ v
    · rw [if_pos c]; conv => lhs; unfold qtyp
      exact if_pos c
    · rw [if_neg c]
  rw [e, if_pos (by omega), if_pos ⟨by omega, hl⟩]
theorem xatom_t {d : Nat} {su : Ex → Er ⊕ Ex} (hx : Tx t n) (hg : d ≠ 0 → Gd t n su) (hs : d ≠ 0 → Ty t n m false D su) (hD : 1 ≤ D) : Ty t n m false D (xatom t n m d su) := by
  intro s hw s' e
  unfold xatom at e
  split at e
  · rename_i j hj
    have := Sum.inr.inj e; subst this
    have hj7 : j < mW m := by
      unfold xw at hj
      cases m with
      | true => simp only [if_true] at hj; (repeat' split at hj) <;> first | (cases hj; decide) | cases hj
      | false => simp only [Bool.false_eq_true, if_false] at hj; (repeat' split at hj) <;> first | (cases hj; decide) | cases hj
    exact ⟨[100 + j], rfl, fun rest ts hl => q_num (Or.inl ⟨by omega, by omega⟩) rest ts (by omega)⟩
  · split at e
    · split at e
      · cases e
      · rename_i hd
        have ha := xad_r hw hx
        cases hq : su (xad t n s) with
        | inl x => rw [hq] at e; cases e
        | inr s1 =>
          rw [hq] at e
          obtain ⟨n1, a1, a2⟩ := hs hd (xad t n s) ha.1 s1 hq
          have e2 : xmust t n 41 s1 = .inr s' := e
          unfold xmust at e2
          split at e2
          · have := Sum.inr.inj e2; subst this
            exact ⟨n1, a1, a2⟩
          · cases e2
    · split at e
      · rename_i h6
        have := Sum.inr.inj e; subst this
        have hv := (hw.g hx).2.2.2.2 h6
        exact ⟨[1000 + s.1.2.2.2], rfl, fun rest ts hl => q_num (Or.inr ⟨by omega, by omega⟩) rest ts (by omega)⟩
      · cases e
theorem xterm_t {d : Nat} {su : Ex → Er ⊕ Ex} (hx : Tx t n) (hg : d ≠ 0 → Gd t n su) (hs : d ≠ 0 → Ty t n m false D su) (hD : 1 ≤ D) : Ty t n m false (D + 1) (xterm t n F m d su) := by
  have ga := xatom_g (m := m) (d := d) hx hg
  have ta := xatom_t (m := m) (d := d) hx hg hs hD
  exact Ty.lp ga (ta.mono (by omega)) (Tz.lp (fun s hw _ s' e => Ty.bd hx ga ta hw (fun rest ts => rfl) e) F)
theorem xsum_t {d : Nat} {su : Ex → Er ⊕ Ex} (hx : Tx t n) (hg : d ≠ 0 → Gd t n su) (hs : d ≠ 0 → Ty t n m false D su) (hD : 1 ≤ D) : Ty t n m false (D + 2) (xsum t n F m d su) := by
  have ga := xterm_g (F := F) (m := m) (d := d) hx hg
  have ta := xterm_t (F := F) (m := m) (d := d) hx hg hs hD
  refine Ty.lp ga (ta.mono (by omega)) (Tz.lp (fun s hw _ s' e => Ty.bd hx ga ta hw (fun rest ts => ?_) e) F)
  by_cases c : s.1.2.2.1 = 43
  · rw [if_pos c]; rfl
  · rw [if_neg c]; rfl
theorem xunit_t {d : Nat} {su un tr : Ex → Er ⊕ Ex} (hx : Tx t n) (hg : d ≠ 0 → Gd t n su ∧ Gd t n un ∧ Gd t n tr) (hs : d ≠ 0 → Ty t n m false D su ∧ Ty t n m true (D + 3) un ∧ Ty t n m true (D + 3) tr) (hD : 1 ≤ D) : Ty t n m true (D + 3) (xunit t n F m d su un tr) := by
  intro s hw s' e
  have ha := xad_r hw hx
  unfold xunit at e
  split at e
  · split at e
    · cases e
    · rename_i hd
      cases hq : un (xad t n s) with
      | inl x => rw [hq] at e; cases e
      | inr s1 =>
        rw [hq] at e
        have := Sum.inr.inj e; subst this
        obtain ⟨n1, a1, a2⟩ := (hs hd).2.1 (xad t n s) ha.1 s1 hq
        refine ⟨n1 ++ [18], ?_, fun rest ts hl => ?_⟩
        · show s1.2 ++ [18] = s.2 ++ (n1 ++ [18]); rw [a1, List.append_assoc]; rfl
        · rw [List.append_assoc, a2 _ _ hl]; rfl
  · split at e
    · split at e
      · cases e
      · rename_i hd
        cases hq : tr (xad t n s) with
        | inl x => rw [hq] at e; cases e
        | inr s1 =>
          rw [hq] at e
          obtain ⟨n1, a1, a2⟩ := (hs hd).2.2 (xad t n s) ha.1 s1 hq
          have e2 : xmust t n 93 s1 = .inr s' := e
          unfold xmust at e2
          split at e2
          · have := Sum.inr.inj e2; subst this
            exact ⟨n1, a1, a2⟩
          · cases e2
    · have gs := xsum_g (F := F) (m := m) (d := d) hx (fun h => (hg h).1)
      have ts1 := xsum_t (F := F) (m := m) (d := d) hx (fun h => (hg h).1) (fun h => (hs h).1) hD
      cases hq : xsum t n F m d su s with
      | inl x => rw [hq] at e; cases e
      | inr s1 =>
        rw [hq] at e
        obtain ⟨n1, a1, a2⟩ := ts1 s hw s1 hq
        have w1 := ((gs s hw).2 s1 hq).2.1
        have e2 : (if s1.1.2.2.1 = 61 ∨ s1.1.2.2.1 = 60 ∨ s1.1.2.2.1 = 62 then xb (xsum t n F m d su (xad t n s1)) (fun s' => .inr (xput (if s1.1.2.2.1 = 61 then 13 else if s1.1.2.2.1 = 60 then 14 else 15) s')) else .inl (qbl 2 s1.1)) = .inr s' := e
        split at e2
        · have ha1 := xad_r w1 hx
          cases hq2 : xsum t n F m d su (xad t n s1) with
          | inl x => rw [hq2] at e2; cases e2
          | inr s2 =>
            rw [hq2] at e2
            have := Sum.inr.inj e2; subst this
            obtain ⟨n2, b1, b2⟩ := ts1 (xad t n s1) ha1.1 s2 hq2
            refine ⟨n1 ++ n2 ++ [if s1.1.2.2.1 = 61 then 13 else if s1.1.2.2.1 = 60 then 14 else 15], ?_, fun rest ts hl => ?_⟩
            · show s2.2 ++ [_] = s.2 ++ (n1 ++ n2 ++ [_])
              rw [b1, show (xad t n s1).2 = s1.2 from rfl, a1]; simp only [List.append_assoc]
            · rw [List.append_assoc, List.append_assoc, a2 _ _ (by omega), b2 _ _ (by simp only [List.length_cons]; omega)]
              by_cases c1 : s1.1.2.2.1 = 61
              · rw [if_pos c1]; rfl
              · rw [if_neg c1]
                by_cases c2 : s1.1.2.2.1 = 60
                · rw [if_pos c2]; rfl
                · rw [if_neg c2]; rfl
        · cases e2
theorem xboth_t {d : Nat} {su un tr : Ex → Er ⊕ Ex} (hx : Tx t n) (hg : d ≠ 0 → Gd t n su ∧ Gd t n un ∧ Gd t n tr) (hs : d ≠ 0 → Ty t n m false D su ∧ Ty t n m true (D + 3) un ∧ Ty t n m true (D + 3) tr) (hD : 1 ≤ D) : Ty t n m true (D + 4) (xboth t n F m d su un tr) := by
  have ga := xunit_g (F := F) (m := m) (d := d) hx hg
  have ta := xunit_t (F := F) (m := m) (d := d) hx hg hs hD
  exact Ty.lp ga (ta.mono (by omega)) (Tz.lp (fun s hw _ s' e => Ty.bd hx ga ta hw (fun rest ts => rfl) e) F)
theorem xtruth_t {d : Nat} {su un tr : Ex → Er ⊕ Ex} (hx : Tx t n) (hg : d ≠ 0 → Gd t n su ∧ Gd t n un ∧ Gd t n tr) (hs : d ≠ 0 → Ty t n m false D su ∧ Ty t n m true (D + 3) un ∧ Ty t n m true (D + 3) tr) (hD : 1 ≤ D) : Ty t n m true (D + 5) (xtruth t n F m d su un tr) := by
  have ga := xboth_g (F := F) (m := m) (d := d) hx hg
  have ta := xboth_t (F := F) (m := m) (d := d) hx hg hs hD
  exact Ty.lp ga (ta.mono (by omega)) (Tz.lp (fun s hw _ s' e => Ty.bd hx ga ta hw (fun rest ts => rfl) e) F)
theorem xlev_t (m : Bool) (hx : Tx t n) : ∀ d, Ty t n m false (3 + 5 * d) (xlev t n F m d).1 ∧ Ty t n m true (4 + 5 * d) (xlev t n F m d).2.1 ∧ Ty t n m true (6 + 5 * d) (xlev t n F m d).2.2
  | 0 => ⟨xsum_t (D := 1) hx (fun h => absurd rfl h) (fun h => absurd rfl h) (Nat.le_refl _), xunit_t (D := 1) hx (fun h => absurd rfl h) (fun h => absurd rfl h) (Nat.le_refl _), xtruth_t (D := 1) hx (fun h => absurd rfl h) (fun h => absurd rfl h) (Nat.le_refl _)⟩
  | d + 1 => by
    obtain ⟨h1, h2, h3⟩ := xlev_t m hx d
    obtain ⟨g1, g2, g3⟩ := xlev_g (F := F) m hx d
    refine ⟨?_, ?_, ?_⟩
    · exact (xsum_t (D := 3 + 5 * d) hx (fun _ => g1) (fun _ => h1) (by omega)).mono (by omega)
    · exact (xunit_t (D := 3 + 5 * d) hx (fun _ => ⟨g1, g2, g3⟩) (fun _ => ⟨h1, h2.mono (by omega), h3.mono (by omega)⟩) (by omega)).mono (by omega)
    · exact (xtruth_t (D := 3 + 5 * d) hx (fun _ => ⟨g1, g2, g3⟩) (fun _ => ⟨h1, h2.mono (by omega), h3.mono (by omega)⟩) (by omega)).mono (by omega)
/-- a law that was read is well made -/
theorem law_t {m : Bool} (hx : Tx t n) {s1 : Tok} (hw : Wf t n s1) {z : Ex} (e : (if m then (xlev t n F m 6).2.2 else (xlev t n F m 6).1) (s1, []) = .inr z) : qtyp (mW m) z.2 [] = some [m] ∧ z.2.length ≤ 900 := by
  obtain ⟨g1, g2, g3⟩ := xlev_g (F := F) m hx 6
  obtain ⟨h1, h2, h3⟩ := xlev_t (F := F) m hx 6
  have key : ∀ f, Gd t n f → Ty t n m m 40 f → f (s1, []) = .inr z → qtyp (mW m) z.2 [] = some [m] ∧ z.2.length ≤ 900 := by
    intro f hg hf e
    obtain ⟨nw, a1, a2⟩ := hf (s1, []) hw z e
    have hz : z.2 = nw := a1
    have := a2 [] [] (by decide)
    rw [List.append_nil] at this
    rw [hz]
    refine ⟨this, ?_⟩
    obtain ⟨_, r⟩ := (hg (s1, []) hw).2 z e
    have hg2 := r.1.g hx
    have h4 : z.2.length + s1.2.1 ≤ 0 + z.1.2.1 := r.2.2.2
    rw [hz] at h4
    have := hx.1
    omega
  cases m with
  | false => exact key _ g1 (h1.mono (by omega)) e
  | true => exact key _ g3 (h3.mono (by omega)) e
end A
