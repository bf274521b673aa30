/-! the class: tokens taken, the first fault stays -/
abbrev Zt : Type := Option Er × Tok
def zr (z : Zt) : Er ⊕ Tok := match z.1 with
  | some e => .inl e
  | none => .inr z.2
def zad (t : Nat → Nat) (n : Nat) (z : Zt) : Zt := (z.1, ynx t n z.2.1)
def zfl (k : Nat) (z : Zt) : Zt := (some (z.1.getD (k, z.2.2.1)), z.2)
def zrf (z : Zt) : Zt := zfl (if z.2.2.2.1 = 258 then 1 else 2) z
def zmu (t : Nat → Nat) (n c : Nat) (z : Zt) : Zt := if z.2.2.2.1 = c then zad t n z else zrf z
def znu (t : Nat → Nat) (n lo hi : Nat) (z : Zt) : Nat × Zt := if z.2.2.2.1 = 256 then (if lo ≤ z.2.2.2.2 ∧ z.2.2.2.2 < hi then (z.2.2.2.2, zad t n z) else (0, zfl 3 z)) else (0, zrf z)
theorem zr_ad {t : Nat → Nat} {n : Nat} {z : Zt} : zr (zad t n z) = xb (zr z) (fun s => .inr (ynx t n s.1)) := by
  obtain ⟨_ | e, s⟩ := z <;> rfl
theorem zr_fl {k : Nat} {z : Zt} : zr (zfl k z) = xb (zr z) (fun s => .inl (k, s.2.1)) := by
  obtain ⟨_ | e, s⟩ := z <;> rfl
theorem zr_rf {z : Zt} : zr (zrf z) = xb (zr z) (fun s => .inl (qbl 2 s)) := by
  obtain ⟨_ | e, s⟩ := z <;> rfl
theorem zr_mu {t : Nat → Nat} {n c : Nat} {z : Zt} : zr (zmu t n c z) = xb (zr z) (ymust t n c) := by
  unfold zmu ymust
  obtain ⟨_ | e, s⟩ := z
  · by_cases h : s.2.2.1 = c
    · rw [if_pos h]; show _ = (if s.2.2.1 = c then _ else _); rw [if_pos h]; rfl
    · rw [if_neg h]; show _ = (if s.2.2.1 = c then _ else _); rw [if_neg h]; rfl
  · by_cases h : s.2.2.1 = c
    · rw [if_pos h]; rfl
    · rw [if_neg h]; rfl
theorem zr_nu {t : Nat → Nat} {n lo hi : Nat} {z : Zt} : zr (znu t n lo hi z).2 = tsn (xb (zr z) (ynum t n lo hi)) ∧ ∀ r, xb (zr z) (ynum t n lo hi) = .inr r → (znu t n lo hi z).1 = r.1 := by
  obtain ⟨o, s⟩ := z
  have key : ∀ (v : Nat × Zt) (y : Er ⊕ (Nat × Tok)), znu t n lo hi (o, s) = v → ynum t n lo hi s = y → (o = none → zr v.2 = tsn y ∧ ∀ r, y = .inr r → v.1 = r.1) → (∀ e, o = some e → zr v.2 = .inl e) → zr (znu t n lo hi (o, s)).2 = tsn (xb (zr (o, s)) (ynum t n lo hi)) ∧ ∀ r, xb (zr (o, s)) (ynum t n lo hi) = .inr r → (znu t n lo hi (o, s)).1 = r.1 := by
    intro v y h1 h2 h3 h4
    rw [h1]
    cases o with
    | none =>
      have e : xb (zr ((none, s) : Zt)) (ynum t n lo hi) = y := h2
      rw [e]; exact h3 rfl
    | some e => exact ⟨h4 e rfl, fun r hr => by cases hr⟩
  by_cases h : s.2.2.1 = 256
  · by_cases h2 : lo ≤ s.2.2.2 ∧ s.2.2.2 < hi
    · refine key (s.2.2.2, zad t n (o, s)) (.inr (s.2.2.2, ynx t n s.1)) ?_ ?_ ?_ ?_
      · unfold znu; exact (if_pos h).trans (if_pos h2)
      · unfold ynum; exact (if_pos h).trans (if_pos h2)
      · intro ho; subst ho; exact ⟨rfl, fun r hr => by rw [← Sum.inr.inj hr]⟩
      · intro e ho; subst ho; rfl
    · refine key (0, zfl 3 (o, s)) (.inl (3, s.2.1)) ?_ ?_ ?_ ?_
      · unfold znu; exact (if_pos h).trans (if_neg h2)
      · unfold ynum; exact (if_pos h).trans (if_neg h2)
      · intro ho; subst ho; exact ⟨rfl, fun r hr => by cases hr⟩
      · intro e ho; subst ho; rfl
  · refine key (0, zrf (o, s)) (.inl (qbl 2 s)) ?_ ?_ ?_ ?_
    · unfold znu; exact if_neg h
    · unfold ynum; exact if_neg h
    · intro ho; subst ho; exact ⟨rfl, fun r hr => by cases hr⟩
    · intro e ho; subst ho; rfl
theorem znu_le {t : Nat → Nat} {n lo hi : Nat} {z : Zt} : (znu t n lo hi z).1 = 0 ∨ (znu t n lo hi z).1 < hi := by
  unfold znu
  split
  · split
    · rename_i h; exact Or.inr h.2
    · exact Or.inl rfl
  · exact Or.inl rfl
def CX (I : Nat → Nat → Int32) (t : Nat → Nat) (n : Nat) (z : Zt) : Prop := CT I t n ∧ (Ck I z.2 ∧ Wf t n z.2) ∧ match z.1 with
  | none => I 1 11 = 0 ∧ I 1 12 = -1
  | some e => I 1 11 = nI e.1 ∧ I 1 12 = nI e.2 ∧ Eg n e
section A
variable {l : Launch} {G : Gh} {k : Nat} {I : Nat → Nat → Int32} {J : Nat → Nat → Int64} {R : Nat → Nat → Option Nat} {S : Nat → Nat × Nat} {nx : Nat} {κ : Nat → Nat} {hb pb : Nat}
variable {t : Nat → Nat} {n : Nat} {z : Zt}
theorem CX.f1 {rs fs : List Nat} {I' : Nat → Nat → Int32} (h : CX I t n z) (hF : F1 rs fs I I') (h1 : 2 ∉ rs) (h2 : 2 ∉ fs ∧ 3 ∉ fs ∧ 4 ∉ fs ∧ 5 ∉ fs ∧ 6 ∉ fs ∧ 11 ∉ fs ∧ 12 ∉ fs) : CX I' t n z := by
  obtain ⟨g1, g2, g3⟩ := h
  refine ⟨g1.f1 hF h1 h2.1, ⟨g2.1.f1 hF ⟨h2.2.1, h2.2.2.1, h2.2.2.2.1, h2.2.2.2.2.1⟩, g2.2⟩, ?_⟩
  rw [hF.2 11 h2.2.2.2.2.2.1, hF.2 12 h2.2.2.2.2.2.2]; exact g3
theorem CX.tx (h : CX I t n z) : Tx t n := h.1.2.2
theorem CX.wf (h : CX I t n z) : Wf t n z.2 := h.2.1.2
theorem CX.g (h : CX I t n z) : z.2.2.1 ≤ z.2.1 ∧ z.2.1 ≤ n ∧ (z.2.2.2.1 = 257 ∨ z.2.2.1 < z.2.1) ∧ z.2.2.2.1 ≤ 320 ∧ (z.2.2.2.1 = 256 → z.2.2.2.2 ≤ 999) := h.wf.g h.tx
theorem CX.tok (h : CX I t n z) {c : Nat} (hc : c < 1000) : (I 1 4 = nI c) = (z.2.2.2.1 = c) := by
  have := h.g
  rw [h.2.1.1.2.2.1]; exact propext (nI_eq (by omega) (by omega))
theorem CX.bad (h : CX I t n z) : (I 1 11 = 0) = (z.1 = none) := by
  obtain ⟨_ | e, s⟩ := z
  · exact propext ⟨fun _ => rfl, fun _ => h.2.2.1⟩
  · have h2 := h.2.2.1
    have h3 := h.2.2.2.2
    apply propext
    constructor
    · intro g
      rw [show I 1 11 = nI e.1 from h2] at g
      exact absurd g (nI_ne0 (by have := h3.1; omega) (by have := h3.2.1; omega))
    · intro g; cases g
theorem adv_z (w : CF R S nx) (hG : GT G) (h : CX I t n z) : Cal l G (k + 6) 0 0 mX6_advance [.ref 1] (I, J, R, S, nx) (fun r μ' => r = .inl none ∧ ∃ I', μ' = (I', J, R, S, nx) ∧ F1 [] [3, 4, 5, 6] I I' ∧ CX I' t n (zad t n z)) := by
  refine (advance_c w hG h.1 h.2.1.1.1 h.g.2.1).mono (fun r μ' ⟨e, I', e2, h1, h2⟩ => ⟨e, I', e2, h1, h.1.f1 h1 (by decide) (by decide), ⟨h2, (h.wf.ad h.tx).1⟩, ?_⟩)
  rw [h1.2 11 (by decide), h1.2 12 (by decide)]; exact h.2.2
theorem fail_z {kd : Nat} (h : CX I t n z) (hk : 1 ≤ kd ∧ kd ≤ 4) : F1 [] [11, 12] I (w_X6_fail I (nI kd)) ∧ CX (w_X6_fail I (nI kd)) t n (zfl kd z) := by
  unfold w_X6_fail
  have hb := h.bad
  obtain ⟨_ | e, s⟩ := z
  · have h0 : I 1 11 = 0 := by rw [hb]
    rw [if_pos h0]
    have hF : F1 [] [11, 12] I (up2 (up2 I 1 11 (nI kd)) 1 12 (I 1 5)) := (F1.rf.uf (by decide)).uf (by decide)
    have hg := h.g
    refine ⟨hF, h.1.f1 hF (by decide) (by decide), ⟨h.2.1.1.f1 hF (by decide), h.2.1.2⟩, ?_⟩
    refine ⟨by simp [up2], ?_, hk.1, hk.2, ?_⟩
    · show up2 (up2 I 1 11 (nI kd)) 1 12 (I 1 5) 1 12 = nI s.2.1
      simp [up2]; exact h.2.1.1.2.1
    · have h1 : s.2.1 ≤ s.1 := hg.1
      have h2 : s.1 ≤ n := hg.2.1
      show s.2.1 ≤ n; omega
  · have h0 : ¬ I 1 11 = 0 := by rw [hb]; exact fun g => by cases g
    rw [if_neg h0]
    exact ⟨F1.rf, h⟩
theorem refuse_z (h : CX I t n z) : F1 [] [11, 12] I (w_X6_refuse I) ∧ CX (w_X6_refuse I) t n (zrf z) := by
  unfold w_X6_refuse zrf
  have ht := h.tok (c := 258) (by decide)
  by_cases c : z.2.2.2.1 = 258
  · rw [if_pos (by rw [← ht] at c; exact c), if_pos c]; exact fail_z h (by decide)
  · rw [if_neg (by rw [← ht] at c; exact c), if_neg c]; exact fail_z h (by decide)
theorem take_z {c : Nat} (w : CF R S nx) (hG : GT G) (h : CX I t n z) (hc : c < 1000) : Cal l G (k + 7) 0 0 mX6_take [.ref 1, .int (nI c)] (I, J, R, S, nx) (fun r μ' => r = .inl none ∧ ∃ I', μ' = (I', J, R, S, nx) ∧ F1 [] [3, 4, 5, 6, 11, 12] I I' ∧ CX I' t n (zmu t n c z)) := by
  have ht := h.tok hc
  unfold zmu
  by_cases c1 : z.2.2.2.1 = c
  · have d1 : I 1 4 = nI c := by rw [ht]; exact c1
    rw [if_pos c1]
    refine Cal.of rfl (by decide +kernel) (by simp) (Nat.le_of_ble_eq_true rfl) rfl (sX6_take_0 (P1 := fun I I' => F1 [] [3, 4, 5, 6] I I' ∧ CX I' t n (zad t n z)) w ?_ ?_ ?_) <;> intros <;> (first | exact absurd (by with_reducible assumption) d1 | exact absurd d1 (by with_reducible assumption) | skip)
    · exact adv_z w hG h
    · rename_i I1 h1; exact ⟨rfl, _, rfl, h1.1.wk (by decide) (by decide), h1.2⟩
  · have d1 : ¬ I 1 4 = nI c := by rw [ht]; exact c1
    rw [if_neg c1]
    have hr := refuse_z h
    refine Cal.of rfl (by decide +kernel) (by simp) (Nat.le_of_ble_eq_true rfl) rfl (sX6_take_0 (P1 := fun _ _ => True) w ?_ ?_ ?_) <;> intros <;> (first | exact absurd (by with_reducible assumption) d1 | exact absurd d1 (by with_reducible assumption) | skip)
    exact ⟨rfl, _, rfl, hr.1.wk (by decide) (by decide), hr.2⟩
theorem takeNumber_z {lo hi : Nat} {y : Int32} (w : CF R S nx) (hG : GT G) (h : CX I t n z) (hlo : lo < 1000) (hhi : hi ≤ 1000) (hy : y.toInt = (hi : Int) - 1) : Cal l G (k + 7) 0 0 mX6_takeNumber [.ref 1, .int (nI lo), .int y] (I, J, R, S, nx) (fun r μ' => r = .inl (some (.int (nI (znu t n lo hi z).1))) ∧ ∃ I', μ' = (I', J, R, S, nx) ∧ F1 [] [3, 4, 5, 6, 11, 12] I I' ∧ CX I' t n (znu t n lo hi z).2) := by
  have ht := h.tok (c := 256) (by decide)
  have hg := h.g
  unfold znu
  by_cases c1 : z.2.2.2.1 = 256
  · have d1 : I 1 4 = (256 : Int32) := by rw [show (256 : Int32) = nI 256 from rfl, ht]; exact c1
    have ev : I 1 6 = nI z.2.2.2.2 := h.2.1.1.2.2.2 c1
    have hv := hg.2.2.2.2 c1
    have e1 : (I 1 6 < nI lo) = (z.2.2.2.2 < lo) := by rw [ev]; exact propext (nI_ltI (by omega) (by omega))
    have e2 : (I 1 6 ≤ y) = (z.2.2.2.2 < hi) := by
      rw [ev, nI_z, fa_le, zI_toInt (by omega), hy]; exact propext (by omega)
    rw [if_pos c1]
    have hf := fail_z (kd := 3) h (by decide)
    by_cases c2 : z.2.2.2.2 < lo
    · have d2 : I 1 6 < nI lo := by rw [e1]; exact c2
      rw [if_neg (by omega)]
      refine Cal.of rfl (by decide +kernel) (by simp) (Nat.le_of_ble_eq_true rfl) rfl (sX6_takeNumber_0 (P1 := fun _ _ => True) w ?_ ?_ ?_ ?_ ?_) <;> intros <;> (first | exact absurd (by with_reducible assumption) d1 | exact absurd d1 (by with_reducible assumption) | exact absurd (by with_reducible assumption) d2 | exact absurd d2 (by with_reducible assumption) | skip)
      exact ⟨rfl, _, rfl, hf.1.wk (by decide) (by decide), hf.2⟩
    · have d2 : ¬ I 1 6 < nI lo := by rw [e1]; exact c2
      by_cases c3 : z.2.2.2.2 < hi
      · have d3 : I 1 6 ≤ y := by rw [e2]; exact c3
        rw [if_pos (by omega)]
        refine Cal.of rfl (by decide +kernel) (by simp) (Nat.le_of_ble_eq_true rfl) rfl (sX6_takeNumber_0 (P1 := fun I I' => F1 [] [3, 4, 5, 6] I I' ∧ CX I' t n (zad t n z)) w ?_ ?_ ?_ ?_ ?_) <;> intros <;> (first | exact absurd (by with_reducible assumption) d1 | exact absurd d1 (by with_reducible assumption) | exact absurd (by with_reducible assumption) d2 | exact absurd d2 (by with_reducible assumption) | exact absurd (by with_reducible assumption) d3 | exact absurd d3 (by with_reducible assumption) | skip)
        · exact adv_z w hG h
        · rename_i I1 h1; exact ⟨by rw [ev], _, rfl, h1.1.wk (by decide) (by decide), h1.2⟩
      · have d3 : ¬ I 1 6 ≤ y := by rw [e2]; exact c3
        rw [if_neg (by omega)]
        refine Cal.of rfl (by decide +kernel) (by simp) (Nat.le_of_ble_eq_true rfl) rfl (sX6_takeNumber_0 (P1 := fun _ _ => True) w ?_ ?_ ?_ ?_ ?_) <;> intros <;> (first | exact absurd (by with_reducible assumption) d1 | exact absurd d1 (by with_reducible assumption) | exact absurd (by with_reducible assumption) d2 | exact absurd d2 (by with_reducible assumption) | exact absurd (by with_reducible assumption) d3 | exact absurd d3 (by with_reducible assumption) | skip)
        exact ⟨rfl, _, rfl, hf.1.wk (by decide) (by decide), hf.2⟩
  · have d1 : ¬ I 1 4 = (256 : Int32) := by rw [show (256 : Int32) = nI 256 from rfl, ht]; exact c1
    rw [if_neg c1]
    have hr := refuse_z h
    refine Cal.of rfl (by decide +kernel) (by simp) (Nat.le_of_ble_eq_true rfl) rfl (sX6_takeNumber_0 (P1 := fun _ _ => True) w ?_ ?_ ?_ ?_ ?_) <;> intros <;> (first | exact absurd (by with_reducible assumption) d1 | exact absurd d1 (by with_reducible assumption) | skip)
    exact ⟨rfl, _, rfl, hr.1.wk (by decide) (by decide), hr.2⟩
end A
